/** Objects as they stand ahead of a call that must not change them, each made anew by the same calls. */
enum Setup {
    /** Nothing told. */
    NEW,
    /** PLAYS, LAWS, a NIGHT and a tape, but no CELLAR. */
    NO_CELLAR,
    /** A CELLAR alone, without an IMAGE. */
    NO_PLAY,
    /** A CELLAR, two PLAYS, a LAW, a THUD, an IMAGE, a tape: more of each can be told. */
    OPEN,
    /** As many PLAYS, LAWS, THUDS and bytes of the tape as there can be. */
    FULL;

    /**
     * WAYS from START: A 2, B 8, C 2, D 7; E (at 40) and the PLACE 43 are walled off; F, G and H are not there.
     * POSTS: 3, 12, 13, 30 .. 33, 41, 42, 44.
     */
    static final String CELLAR = "*.A#B/..##./C..../####D/E##.#";
    static final int WALLED = 4;
    static final int ABSENT = 5;

    private String seen;

    UnderFloor floor() {
        UnderFloor floor = new UnderFloor();
        switch (this) {
            case NO_CELLAR: texts(floor, 2, 1); floor.set(1, 7); floor.set(2, 0); Kit.tape(floor, "B7,C8"); break;
            case NO_PLAY: cellar(floor); floor.set(0, 2); floor.wind(0, 9); floor.set(1, 7); break;
            case OPEN: cellar(floor); texts(floor, 2, 1); tell(floor, 1); Kit.tape(floor, "B7,C8"); break;
            case FULL: cellar(floor); texts(floor, 5, 4); tell(floor, 10); Kit.tape(floor, "y:" + Edge.times(79, "1+")); break;
            default: break;
        }
        return floor;
    }

    /** What an object tells that no other call has changed. */
    String seen() {
        if (seen == null) {
            seen = Look.at(floor());
        }
        return seen;
    }

    private static void cellar(UnderFloor floor) {
        if (Kit.text(floor, 0, CELLAR) != 5) {
            throw new IllegalStateException("the cellar is wrong");
        }
    }

    /** PLAY 0 can be, PLAY 1 can't, for a wall; 2 can't, for a CRANK that is not there; 3 and 4 can be. */
    private static void texts(UnderFloor floor, int plays, int laws) {
        String[] play = {"A5,C9,B20,D30", "A5,E9", "F1", "A3", "A0,B0,C0,D0,A0,B0,C0,D0"};
        String[] law = {"y:k=1?n;y:2", "y:k*2", "y:t>9?0-3;y:4", "y:[c+l]"};
        for (int i = 0; i < plays; i++) {
            Kit.text(floor, 1, play[i]);
        }
        for (int i = 0; i < laws; i++) {
            Kit.text(floor, 2, law[i]);
        }
        if (floor.count(1) != plays || floor.count(2) != laws) {
            throw new IllegalStateException("a play or a law is wrong");
        }
    }

    /** What an IMAGE keeps is told ahead of it and told otherwise behind it. */
    private static void tell(UnderFloor floor, int thuds) {
        floor.set(0, 3);
        floor.set(1, 11);
        floor.wind(1, 8);
        floor.swap(2, 3);
        floor.knock(41);
        floor.image();
        floor.set(0, 2);
        floor.set(1, 4);
        floor.set(2, 0);
        floor.wind(0, 5);
        floor.wind(1, 4);
        floor.swap(2, 3);
        floor.knock(44);
        for (int i = 0; i < thuds; i++) {
            floor.thud(7, 0);
        }
    }
}
