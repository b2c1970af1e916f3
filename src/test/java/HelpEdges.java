/** What helps and what harms most, skipped CUES, NIGHTS: promises 22 to 26 and 36. */
final class HelpEdges {
    private static final int NONE = Edge.NONE;
    private static final int HIDDEN = Edge.HIDDEN;
    private static final String[] CELLARS = {Edge.ROW, "*#A#B/.....", "*.A.B/.##.#/C...D", "#*#./.#A.", "*##A", "B*C.A", "*A/##", "*..A",
        "A#.B/.*#./C..D", "*.#A/...#/#B.."};
    private static final String[] PLAYS = {"A4", "A0", "B9", "A4,B8", "B5,A8", "A3,A6,B12", "B0,C2,A3", "A5,D9,C20"};

    private final Edge edge;

    private HelpEdges(Edge edge) {
        this.edge = edge;
    }

    static void all(Edge edge) {
        HelpEdges edges = new HelpEdges(edge);
        edges.post();
        edges.postRefused();
        edges.rope();
        edges.ropeRefused();
        edges.exchange();
        edges.exchangeTies();
        edges.exchangeRefused();
        edges.skip();
        edges.skipRefused();
        edges.nights();
        edges.nightsRefused();
        edges.pillar();
        edges.pillarRefused();
        edges.inAnyOrder();
    }

    private void postIs(String cellar, String play, int place, int lates) {
        UnderFloor floor = Kit.floor(cellar, play);
        edge.due("post of " + play + " in " + cellar, floor.post(0, 0), place);
        edge.due("lates without it", floor.post(0, 1), lates);
    }

    private void post() {
        edge.terms();
        edge.says("HELP for a PLAY (BEST by wish 0): POST: the POST without which it would be least (of several the lowest PLACE)");
        for (String cellar : CELLARS) {
            for (String play : PLAYS) {
                int which = NONE;
                int least = NONE;
                for (int place = 0; place < 60; place++) {
                    UnderFloor floor = Kit.floor(cellar, play);
                    int lates = floor.knock(place) ? floor.best(0, 0, 1) : NONE;
                    which = lates != NONE && (least == NONE || lates < least) ? place : which;
                    least = which == place ? lates : least;
                }
                postIs(cellar, play, which, least);
            }
        }
        postIs("*#A#B/.....", "A0,B0", 1, 5 + 12);
        postIs("*#A#B/.....", "B0", 1, 6 + 3);
        postIs("*#A#B/.....", "B99", 1, 0);
        postIs("#*#./.#A.", "A0", 2, 5);
        postIs("#*#A/.#..", "A0", 2, 5);
        postIs("*##A", "A0", NONE, NONE);
        postIs("*.A", "A0", NONE, NONE);
        postIs("*.A/..#", "A0", 12, 5);
        postIs("*.......A/........./........./........./........./........#", "A0", 58, 11);
        postIs("#*A", "A0", 0, 4);
        postIs("#*A", "B0", NONE, NONE);
    }

    private void postRefused() {
        edge.promise(22);
        edge.says(": POST: the PLACE (0), LATES then (1).");
        edge.still(Setup.FULL, "post of one", 3, f -> f.post(3, 0));
        edge.still(Setup.FULL, "lates of one", 4, f -> f.post(3, 1));
        edge.still(Setup.OPEN, "post by which it can be", 30, f -> f.post(1, 0));
        edge.says("NONE: no POSTS, it can't be, no such ones.");
        for (int what = 0; what < 2; what++) {
            int each = what;
            edge.noPlay("post, what " + what, (f, play) -> f.post(play, each));
            edge.noCellar("post, what " + what, (f, play) -> f.post(play, each));
            edge.still(Setup.FULL, "post of a crank that is not there", NONE, f -> f.post(2, each));
        }
        edge.noHalf("post", (f, what) -> f.post(0, what));
        UnderFloor none = Kit.floor("*.A", "A5", "B5");
        for (int what = 0; what < 2; what++) {
            edge.due("no posts", none.post(0, what), NONE);
            edge.due("no posts, and it can't be", none.post(1, what), NONE);
        }
        UnderFloor knocked = Kit.floor("*#A/...", "A5");
        edge.due("one post", knocked.post(0, 0), 1);
        knocked.knock(1);
        edge.due("none any more", knocked.post(0, 0), NONE);
    }

    private void rope() {
        edge.terms();
        edge.says("ROPE: the CRANK whose WIND, halved and rounded up, would make it least (of several the lowest letter)"
            + "; what it would be.");
        UnderFloor one = Kit.floor("*A", "A0");
        for (int wind = 1; wind <= 30; wind++) {
            one.wind(0, wind);
            edge.due("rope of the only one", one.rope(0, 0), 0);
            edge.due("halved from " + wind, one.rope(0, 1), 1 + (wind + 1) / 2);
            edge.due("the wind stays", one.order(0, 0, 3), 1 + wind);
        }
        for (String cellar : CELLARS) {
            for (String play : PLAYS) {
                for (int stronger = 0; stronger < 4; stronger++) {
                    ropeByHand(cellar, play, stronger);
                }
            }
        }
        UnderFloor row = Kit.floor(Edge.ROW, "H99", "A4,B7", "B5", "A0,B0");
        edge.due("of several the lowest, though not of the play", row.rope(0, 0), 0);
        edge.due("lates of several", row.rope(0, 1), 0);
        edge.due("of several of the play", row.rope(1, 0), 1);
        edge.due("one of the play", row.rope(2, 0), 0);
        edge.due("a second one", row.rope(3, 0), 0);
        edge.due("lates of that", row.rope(3, 1), 3 + 7);
        UnderFloor last = Kit.floor("*.H", "H3");
        edge.due("the lowest that is there", last.rope(0, 0), 7);
        edge.due("lates", last.rope(0, 1), 1);
    }

    private static UnderFloor wound(String cellar, String play, int stronger) {
        UnderFloor floor = Kit.floor(cellar, play);
        floor.wind(stronger, 8);
        return floor;
    }

    private void ropeByHand(String cellar, String play, int stronger) {
        int which = NONE;
        int least = NONE;
        for (int crank = 0; crank < 8; crank++) {
            UnderFloor floor = wound(cellar, play, stronger);
            boolean there = floor.wind(crank, crank == stronger ? 4 : 2);
            int lates = there ? floor.best(0, 0, 1) : NONE;
            which = lates != NONE && (least == NONE || lates < least) ? crank : which;
            least = which == crank ? lates : least;
        }
        UnderFloor floor = wound(cellar, play, stronger);
        edge.due("rope of " + play + " in " + cellar, floor.rope(0, 0), which);
        edge.due("lates of it", floor.rope(0, 1), least);
    }

    private void ropeRefused() {
        edge.promise(23);
        edge.says(": ROPE: the CRANK (0), LATES then (1).");
        edge.still(Setup.FULL, "rope of one", 0, f -> f.rope(3, 0));
        edge.still(Setup.FULL, "lates of one", 2, f -> f.rope(3, 1));
        edge.says("NONE: it can't be, no such ones.");
        for (int what = 0; what < 2; what++) {
            int each = what;
            edge.refusesPlays("rope, what " + what, (f, play) -> f.rope(play, each));
        }
        edge.noHalf("rope", (f, what) -> f.rope(0, what));
    }

    private void exchangeIs(String cellar, String one, String other, int which, int lates) {
        exchangeIs(Kit.floor(cellar, one, other), one + " and " + other + " in " + cellar, which, lates);
    }

    private void exchangeIs(UnderFloor floor, String plays, int which, int lates) {
        edge.due("exchange for " + plays, floor.exchange(0, 1, 0), which);
        edge.due("lates then", floor.exchange(0, 1, 1), lates);
        edge.due("the other way", floor.exchange(1, 0, 0), which);
        edge.due("lates the other way", floor.exchange(1, 0, 1), lates);
    }

    private static int together(UnderFloor floor) {
        int one = floor.best(0, 0, 1);
        int other = floor.best(1, 0, 1);
        return one == NONE || other == NONE ? NONE : one + other;
    }

    private void exchange() {
        edge.terms();
        edge.says("EXCHANGE for two PLAYS: the two CRANKS that, each in the other's PLACE, would make both together least");
        for (String cellar : CELLARS) {
            for (int plays = 0; plays < PLAYS.length * PLAYS.length; plays++) {
                for (int stoop = 1; stoop <= 3; stoop += 2) {
                    exchangeByHand(cellar, PLAYS[plays / PLAYS.length], PLAYS[plays % PLAYS.length], stoop);
                }
            }
        }
    }

    private static UnderFloor two(String cellar, String first, String second, int stoop) {
        UnderFloor floor = Kit.floor(cellar, first, second);
        floor.set(0, stoop);
        floor.wind(0, 3 * stoop);
        return floor;
    }

    private void exchangeByHand(String cellar, String first, String second, int stoop) {
        int which = 0;
        int least = together(two(cellar, first, second, stoop));
        for (int pair = 0; pair < 64; pair++) {
            UnderFloor floor = two(cellar, first, second, stoop);
            boolean there = pair / 8 < pair % 8 && floor.swap(pair / 8, pair % 8);
            int lates = there ? together(floor) : NONE;
            if (lates != NONE && (least == NONE || lates < least)) {
                least = lates;
                which = 10 * (pair / 8) + pair % 8;
            }
        }
        UnderFloor floor = two(cellar, first, second, stoop);
        exchangeIs(floor, first + " and " + second + " in " + cellar, least == NONE ? NONE : which, least);
    }

    private void exchangeTies() {
        edge.says("(none: as it is; of several none, then the lowest one, then the other one); what it would be.");
        exchangeIs(Edge.ROW, "A4", "B5", 0, 0);
        exchangeIs(Edge.ROW, "A4", "A4", 0, 0);
        exchangeIs(Edge.ROW, "A3", "A3", 0, 2);
        exchangeIs(Edge.ROW, "A3", "B4", 0, 2);
        exchangeIs("*A", "A0", "A1", 0, 7);
        exchangeIs(Edge.ROW, "B4", "B4", 1, 0);
        exchangeIs(Edge.ROW, "H4", "H4", 7, 0);
        exchangeIs("*GH", "H4", "H4", 67, 0);
        exchangeIs("B*C.A", "A4", "A4", 1, 0);
        exchangeIs("A*B.C", "C4", "C4", 2, 0);
        exchangeIs("*.CB/.A.D", "B4", "B5", 1, 1);
        exchangeIs("*.#C/#A#B", "A9", "B9", NONE, NONE);
        exchangeIs("*A#B", "B9", "B9", 1, 0);
        exchangeIs("*A#B", "A9", "B9", NONE, NONE);
        exchangeIs("*A#BC", "B9", "C9", NONE, NONE);
        exchangeIs("*A.#B", "B4", "C4", NONE, NONE);
    }

    private void exchangeRefused() {
        edge.promise(24);
        edge.says(": EXCHANGE: 10 times the one and the other (0; 0: none), LATES then (1).");
        edge.still(Setup.FULL, "exchange by which it can be", 24, f -> f.exchange(3, 1, 0));
        edge.still(Setup.FULL, "lates by it", 4 + 2 + 7, f -> f.exchange(3, 1, 1));
        edge.says("NONE: it can't be, no such ones, alike.");
        for (int what = 0; what < 2; what++) {
            int each = what;
            edge.noPlay("exchange with 0, what " + what, (f, play) -> f.exchange(play, 0, each));
            edge.noPlay("exchange of 0, what " + what, (f, play) -> f.exchange(0, play, each));
            edge.still(Setup.NO_CELLAR, "exchange, what " + what, NONE, f -> f.exchange(0, 1, each));
            edge.still(Setup.NO_CELLAR, "exchange the other way, what " + what, NONE, f -> f.exchange(1, 0, each));
            edge.still(Setup.FULL, "exchange with a crank that is not there, what " + what, NONE, f -> f.exchange(0, 2, each));
            edge.still(Setup.FULL, "exchange of a crank that is not there, what " + what, NONE, f -> f.exchange(2, 0, each));
            edge.still(Setup.FULL, "exchange for A and E, each at the wall, what " + what, NONE, f -> f.exchange(0, 1, each));
            for (Setup setup : Setup.values()) {
                edge.refuses(setup, "exchange for twice", NONE, (f, play) -> f.exchange(play, play, each), -1, 0, 1, 2, 3, 4, 5);
            }
        }
        edge.noHalf("exchange", (f, what) -> f.exchange(0, 1, what));
        edge.noHalf("exchange the other way", (f, what) -> f.exchange(1, 0, what));
        edge.refuses(Setup.FULL, "exchange, what", NONE, (f, what) -> f.exchange(0, 3, what), -1, 2);
    }

    private void skip() {
        edge.terms();
        edge.says("SKIP of CUES i .. j (0 < i): these are left out, all behind j come earlier by the difference of the TIMES of j"
            + " and of the CUE ahead of i: LATES together by the rest of the BOOK.");
        String[] plays = {"A4,B8,C12,D16", "A4", "A4,B8", "A0,A0,A0", "A10,B10,C30,D40,E41,F60,G99,H999", "A4,B8,C12,D16,E20,F24,G28,H32"};
        for (String play : plays) {
            UnderFloor floor = Kit.floor(Edge.ROW, play);
            int size = floor.cue(0, NONE, 0);
            for (int from = -1; from <= size + 1; from++) {
                for (int to = -1; to <= size + 1; to++) {
                    boolean there = from > 0 && from <= to && to < size;
                    edge.due("skip " + from + " to " + to + " of " + play, floor.skip(0, from, to), there ? skipped(play, from, to) : NONE);
                }
            }
        }
        UnderFloor floor = Kit.floor(Edge.ROW, "A4,B8,C12,D16");
        edge.due("skip B", floor.skip(0, 1, 1), 1 + 1);
        edge.due("skip B and C", floor.skip(0, 1, 2), 2);
        edge.due("skip all but the first", floor.skip(0, 1, 3), 0);
        edge.due("skip C", floor.skip(0, 2, 2), 1);
        edge.due("skip the last", floor.skip(0, 3, 3), 0);
        UnderFloor ruled = Kit.floor(Edge.ROW, "A4,B8,C12");
        Kit.text(ruled, 2, "y:k=1?4");
        ruled.set(2, 0);
        edge.due("by the times, not the numbers", ruled.skip(0, 1, 1), 9 - 4);
        UnderFloor wall = Kit.floor("*A#B", "B1,A5", "A5,B9,A20", "C1,A5");
        edge.due("the first can't be", wall.skip(0, 1, 1), NONE);
        edge.due("what can't be is left out", wall.skip(1, 1, 1), 0);
        edge.due("all that can't be is left out", wall.skip(1, 1, 2), 0);
        edge.due("what can't be is left", wall.skip(1, 2, 2), NONE);
        edge.due("the first is not there", wall.skip(2, 1, 1), NONE);
    }

    /** The LATES by the BOOK of the PLAY that is left. */
    private static int skipped(String play, int from, int to) {
        UnderFloor floor = Kit.floor(Edge.ROW, play);
        int earlier = floor.cue(0, to, 2) - floor.cue(0, from - 1, 2);
        StringBuilder rest = new StringBuilder();
        String[] cues = play.split(",");
        for (int cue = 0; cue < cues.length; cue++) {
            int number = floor.cue(0, cue, 1);
            if (cue < from || cue > to) {
                rest.append(',').append(cues[cue].charAt(0)).append(cue > to ? number - earlier : number);
            }
        }
        return Kit.floor(Edge.ROW, rest.substring(1)).nights(0, 1, 1);
    }

    private void skipRefused() {
        edge.promise(25);
        edge.says(": SKIP.");
        edge.still(Setup.OPEN, "skip the last", 2 + 7 + 14, f -> f.skip(0, 3, 3));
        edge.still(Setup.OPEN, "skip all but the first", 2, f -> f.skip(0, 1, 3));
        edge.still(Setup.OPEN, "skip what can't be", 2, f -> f.skip(1, 1, 1));
        edge.says("NONE: it can't be, no such ones.");
        edge.noPlay("skip", (f, play) -> f.skip(play, 1, 1));
        edge.noCellar("skip", (f, play) -> f.skip(play, 1, 1));
        for (Setup setup : Setup.values()) {
            edge.refuses(setup, "skip from", NONE, (f, from) -> f.skip(0, from, 3), -1, 0, 4, 5);
            edge.refuses(setup, "skip to", NONE, (f, to) -> f.skip(0, 1, to), -1, 0, 4, 5, 8);
            edge.refuses(setup, "skip none but", NONE, (f, cue) -> f.skip(0, cue, cue), -1, 0, 4);
            edge.still(setup, "skip from behind", NONE, f -> f.skip(0, 2, 1));
        }
        edge.refuses(Setup.FULL, "skip of one", NONE, (f, cue) -> f.skip(3, cue, cue), 0, 1);
        edge.refuses(Setup.FULL, "skip of eight", NONE, (f, cue) -> f.skip(4, 1, cue), 0, 8, 9);
        edge.still(Setup.FULL, "skip with a crank that is not there", NONE, f -> f.skip(2, 0, 0));
    }

    private void nights() {
        edge.terms();
        edge.says("NIGHTS: of NIGHTS 0 .. n less 1 (1 .. 30) that with the most LATE together by the BOOK (of several the first).");
        String[] laws = {"y:n=29?0-3", "y:n=0?0-3", "y:n=5|n=9?0-3", "y:0-n"};
        for (String law : laws) {
            for (int n = 1; n <= 30; n++) {
                UnderFloor floor = Kit.floor("*A.B", "B6,A11");
                Kit.text(floor, 2, law);
                floor.set(2, 0);
                int which = 0;
                int most = NONE;
                for (int night = 0; night < n; night++) {
                    floor.set(1, night);
                    int lates = floor.order(0, 1, 0);
                    which = lates > most ? night : which;
                    most = Math.max(most, lates);
                }
                floor.set(1, 99);
                edge.due("nights of " + n + " by " + law, floor.nights(0, n, 0), which);
                edge.due("lates of " + n + " by " + law, floor.nights(0, n, 1), most);
                edge.due("the night stays", floor.count(5), 99);
            }
        }
        UnderFloor last = Kit.floor(Edge.ROW, "A4");
        Kit.text(last, 2, "y:n=29?0-3");
        edge.due("no law: the first", last.nights(0, 30, 0), 0);
        edge.due("no law: none late", last.nights(0, 30, 1), 0);
        last.set(2, 0);
        edge.due("the last but one", last.nights(0, 29, 0), 0);
        edge.due("the last", last.nights(0, 30, 0), 29);
        edge.due("lates of the last", last.nights(0, 30, 1), 3);
        edge.due("one beyond", last.nights(0, 31, 0), NONE);
        edge.due("none", last.nights(0, 0, 0), NONE);
        UnderFloor book = Kit.floor(Edge.ROW, "B0,A0");
        edge.due("by the book, not by the best", book.nights(0, 1, 1), 5 + 9);
    }

    private void nightsRefused() {
        edge.promise(26);
        edge.says(": NIGHTS: the NIGHT (0), LATES (1).");
        edge.still(Setup.OPEN, "nights of one", 0, f -> f.nights(0, 1, 0));
        edge.still(Setup.OPEN, "nights of thirty", 23, f -> f.nights(0, 30, 0));
        edge.still(Setup.OPEN, "lates of thirty", 2 + 16 + 25, f -> f.nights(0, 30, 1));
        edge.still(Setup.OPEN, "lates of one", 2 + 11 + 14 + 13, f -> f.nights(0, 1, 1));
        edge.says("NONE: it can't be, no such ones.");
        for (int what = 0; what < 2; what++) {
            int each = what;
            edge.refusesPlays("nights of 1, what " + what, (f, play) -> f.nights(play, 1, each));
            edge.refusesPlays("nights of 30, what " + what, (f, play) -> f.nights(play, 30, each));
            for (Setup setup : Setup.values()) {
                edge.refuses(setup, "nights of", NONE, (f, n) -> f.nights(0, n, each), -1, 0, 31);
            }
        }
        edge.noHalf("nights", (f, what) -> f.nights(0, 1, what));
    }

    private void pillarIs(String cellar, String play, int place, int lates) {
        UnderFloor floor = Kit.floor(cellar, play);
        edge.due("pillar of " + play + " in " + cellar, floor.pillar(0, 0), place);
        edge.due("lates with it", floor.pillar(0, 1), lates);
    }

    /** The text of a CELLAR with a POST more; null: there is something at it. */
    private static String withPost(String cellar, int place) {
        int width = (cellar + "/").indexOf('/');
        int at = place / 10 * (width + 1) + place % 10;
        boolean free = place % 10 < width && at < cellar.length() && cellar.charAt(at) == '.';
        return free ? cellar.substring(0, at) + "#" + cellar.substring(at + 1) : null;
    }

    private void pillar() {
        edge.terms();
        edge.says("PILLAR: the PLACE with nothing at it that, as a POST, would make BEST (wish 0) of a PLAY most"
            + " (that it can't be is more than all; of several the lowest); what it would be.");
        for (String cellar : CELLARS) {
            for (String play : PLAYS) {
                boolean can = Kit.floor(cellar, play).best(0, 0, 1) != NONE;
                int which = NONE;
                int most = NONE;
                for (int place = 0; place < 60 && can; place++) {
                    String put = withPost(cellar, place);
                    int lates = put == null ? NONE : Kit.floor(put, play).best(0, 0, 1);
                    lates = put != null && lates == NONE ? Integer.MAX_VALUE : lates;
                    which = lates > most ? place : which;
                    most = Math.max(lates, most);
                }
                pillarIs(cellar, play, which, most == Integer.MAX_VALUE ? HIDDEN : most);
            }
        }
        pillarIs("*..A", "A0", 1, HIDDEN);
        pillarIs("*.A/...", "A0", 1, 4 + 3);
        pillarIs("*A./...", "A0", 2, 4);
        pillarIs("*A./...", "A9", 2, 0);
        pillarIs("...*A/.....", "A0", 0, 4);
        pillarIs("*..A/....", "A0", 1, 5 + 3);
        pillarIs("*.A/.##", "A0", 1, HIDDEN);
        pillarIs(".#*./##.A", "A0", 0, 5);
        pillarIs("*A", "A0", NONE, NONE);
        pillarIs("*A/##", "A0", NONE, NONE);
        pillarIs("*ABCDEFGH", "A0,H0", NONE, NONE);
        pillarIs("*.#A", "A0", NONE, NONE);
        pillarIs("*A.", "B0", NONE, NONE);
        pillarIs("*A......./........./........./........./........./#########", "A0", 2, 4);
        pillarIs("*.######A/#.######./#.######./#.######./#.######./#........", "A0", 1, HIDDEN);
    }

    private void pillarRefused() {
        edge.promise(36);
        edge.says(": PILLAR: the PLACE (0), LATES then (1; HIDDEN: it can't be).");
        edge.still(Setup.FULL, "pillar of one", 1, f -> f.pillar(3, 0));
        edge.still(Setup.FULL, "lates of one", HIDDEN, f -> f.pillar(3, 1));
        edge.says("NONE: no such PLACE, it can't be as it is, no such ones, no CELLAR.");
        for (int what = 0; what < 2; what++) {
            int each = what;
            edge.refusesPlays("pillar, what " + what, (f, play) -> f.pillar(play, each));
            edge.due("no place with nothing at it", Kit.floor("*A/B#", "A0").pillar(0, what), NONE);
            edge.due("it can't be as it is", Kit.floor("*.#A", "A0").pillar(0, what), NONE);
        }
        edge.noHalf("pillar", (f, what) -> f.pillar(0, what));
    }

    private static int whatIf(UnderFloor floor, int call) {
        int play = call / 2 % 2;
        switch (call / 4) {
            case 0: return floor.post(play, call % 2);
            case 1: return floor.rope(play, call % 2);
            case 2: return floor.exchange(play, 2 - play, call % 2);
            case 3: return floor.pillar(play, call % 2);
            case 4: return floor.nights(play, 30, call % 2);
            case 5: return floor.skip(play, 1, 1 + call % 2);
            case 6: return floor.boy(play, 40, 2, call % 2);
            case 7: return floor.slack(play, call % 2);
            case 8: return floor.urgent(play);
            case 9: return floor.mend(play, 1, call % 2);
            case 10: return floor.best(play, call % 3, call % 2);
            case 11: return floor.fault(call % 3);
            default: return floor.age(play);
        }
    }

    /** What is asked ahead of a call leaves nothing behind, not even a CELLAR that the tape alone holds. */
    private void inAnyOrder() {
        int calls = 13 * 4;
        for (int ahead = 0; ahead < calls; ahead++) {
            UnderFloor floor = Setup.OPEN.floor();
            Kit.text(floor, 1, "B9,A15,C40");
            Kit.tape(floor, "HG#/B.*/DC.");
            int first = whatIf(floor, ahead);
            for (int i = 0; i < calls; i++) {
                int call = (ahead + 7 * i) % calls;
                UnderFloor alone = Setup.OPEN.floor();
                Kit.text(alone, 1, "B9,A15,C40");
                Kit.tape(alone, "HG#/B.*/DC.");
                edge.due("call " + call + " behind others", whatIf(floor, call), whatIf(alone, call));
            }
            edge.due("call " + ahead + " again", whatIf(floor, ahead), first);
        }
    }
}
