/** What is due at the document's boundaries, told under the document's own words. */
final class Edge {
    static final int NONE = -1;
    static final int HIDDEN = -1000000;
    /** START at 0, A at 1 .. H at 8: the WAY between two is the difference of their PLACES. */
    static final String ROW = "*ABCDEFGH";
    /** Numbers beyond all bounds of the document. */
    static final int[] BEYOND = {Integer.MIN_VALUE, Integer.MIN_VALUE + 1, Integer.MAX_VALUE - 1, Integer.MAX_VALUE};

    /** A call of the face; what answers false or true answers 0 or 1. */
    interface Call {
        int on(UnderFloor floor);
    }

    /** A call of the face with one of its numbers left open. */
    interface Told {
        int on(UnderFloor floor, int v);
    }

    private final Kit kit;
    private final Doc doc;
    private int section;
    private String sentence = "";

    Edge(Kit kit, Doc doc) {
        this.kit = kit;
        this.doc = doc;
    }

    void terms() {
        section = 0;
    }

    void promise(int n) {
        section = n;
    }

    /** What follows is a test of these words, which must stand in the document. */
    void says(String words) {
        sentence = words;
        kit.due("section " + section + " of the document has \"" + words + "\"", doc.quote(section, words), true);
    }

    void due(String call, long got, long want) {
        kit.due("\"" + sentence + "\" " + call, got, want);
    }

    void due(String call, boolean got, boolean want) {
        kit.due("\"" + sentence + "\" " + call, got, want);
    }

    void fault(int sort, String text, int want) {
        due("fault(" + sort + ") of [" + text + "]", Kit.fault(sort, text), want);
    }

    /** Of each text from its first to its last sign: those of these lengths are right, all others end too early. */
    void beginnings(int sort, String text, int... right) {
        for (int length = 0; length <= text.length(); length++) {
            int want = length;
            for (int each : right) {
                want = each == length ? NONE : want;
            }
            fault(sort, text.substring(0, length), want);
        }
    }

    /**
     * Each byte that a tape can hold, behind this text: with those of the first row the text is right,
     * with those of the second it ends too early, and all others are the FAULT.
     */
    void behind(int sort, String text, String right, String early) {
        for (char sign = 1; sign < 256; sign++) {
            int want = right.indexOf(sign) >= 0 ? NONE : early.indexOf(sign) >= 0 ? text.length() + 1 : text.length();
            due("fault(" + sort + ") of [" + text + "] and byte " + (int) sign, Kit.fault(sort, text + sign), want);
        }
    }

    /** A call that answers this and changes nothing that can be seen. */
    void still(Setup setup, String name, int want, Call call) {
        UnderFloor floor = setup.floor();
        String at = setup + ": " + name;
        due(at, call.on(floor), want);
        String seen = Look.at(floor);
        due(at + " changes nothing, but " + difference(setup.seen(), seen), setup.seen().equals(seen), true);
    }

    /** A call that is refused with each of these numbers, and with those beyond all bounds, and changes nothing. */
    void refuses(Setup setup, String name, int want, Told call, int... numbers) {
        for (int v : numbers) {
            still(setup, name + " with " + v, want, f -> call.on(f, v));
        }
        for (int v : BEYOND) {
            still(setup, name + " with " + v, want, f -> call.on(f, v));
        }
    }

    /** A call whose number is a PLAY, of which there is no such one. */
    void noPlay(String name, Told call) {
        refuses(Setup.NEW, name + " of play", NONE, call, -1, 0, 1, 4, 5);
        refuses(Setup.NO_CELLAR, name + " of play", NONE, call, -1, 2, 5);
        refuses(Setup.NO_PLAY, name + " of play", NONE, call, -1, 0, 1, 4, 5);
        refuses(Setup.OPEN, name + " of play", NONE, call, -1, 2, 5);
        refuses(Setup.FULL, name + " of play", NONE, call, -1, 5);
    }

    /** A call whose number is a PLAY that is there, while there is no CELLAR. */
    void noCellar(String name, Told call) {
        for (int play = 0; play < 2; play++) {
            int each = play;
            still(Setup.NO_CELLAR, name + " without a cellar of play " + play, NONE, f -> call.on(f, each));
        }
    }

    /** A call whose number is a PLAY that can't be: for a wall, or for a CRANK that is not there. */
    void cantBe(String name, Told call) {
        cantBeIs(name, NONE, call);
    }

    void cantBeIs(String name, int want, Told call) {
        still(Setup.OPEN, name + " of a play with a crank that is walled off", want, f -> call.on(f, 1));
        still(Setup.FULL, name + " of a play with a crank that is walled off", want, f -> call.on(f, 1));
        still(Setup.FULL, name + " of a play with a crank that is not there", want, f -> call.on(f, 2));
    }

    /** All these in one: of a call that tells of a PLAY in a CELLAR. */
    void refusesPlays(String name, Told call) {
        noPlay(name, call);
        noCellar(name, call);
        cantBe(name, call);
    }

    /** A call whose number tells which of two is asked for. */
    void noHalf(String name, Told call) {
        for (Setup setup : Setup.values()) {
            refuses(setup, name + " what", NONE, call, -1, 2, 3);
        }
    }

    private static String difference(String one, String other) {
        String[] ones = one.split("\n");
        String[] others = other.split("\n");
        for (int i = 0; i < Math.min(ones.length, others.length); i++) {
            if (!ones[i].equals(others[i])) {
                return "[" + ones[i] + "] became [" + others[i] + "]";
            }
        }
        return "none";
    }

    static int told(boolean answer) {
        return answer ? 1 : 0;
    }

    static String times(int n, String text) {
        return text.repeat(Math.max(0, n));
    }
}
