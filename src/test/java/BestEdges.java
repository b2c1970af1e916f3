/** The best ORDERS, what can be at all, and by how much: promises 17 to 21 and 32 to 34. */
final class BestEdges {
    private static final int NONE = Edge.NONE;
    /** A, B and C each one STEP from START, two from one another. */
    private static final String EQUAL = "A*B/.C.";
    private static final String[] PLAYS = {"A4", "A3", "A4,B8", "B5,A8", "A0,B0", "B0,A0", "H9,A9", "A4,B8,C12", "C0,B0,A0",
        "A12,B12,C12", "C6,A6,E14", "D10,B11,G12,A13", "A4,H8,B12,G16", "H11,H11,H11", "C9,A10,E20,B21,D22", "A0,C3,E6,G9,H12",
        "H40,G40,F40,E40,D40", "A7,A9,B9,B20,A30"};

    private final Edge edge;

    private BestEdges(Edge edge) {
        this.edge = edge;
    }

    static void all(Edge edge) {
        BestEdges edges = new BestEdges(edge);
        edges.best();
        edges.bestTies();
        edges.bestOfEight();
        edges.bestRefused();
        edges.met();
        edges.metRefused();
        edges.knot();
        edges.knotRefused();
        edges.age();
        edges.first();
        edges.mend();
        edges.mendRefused();
        edges.slack();
        edges.slackRefused();
        edges.urgent();
        edges.urgentRefused();
    }

    private void bestIs(UnderFloor floor, int play, int wish, int order, int cost) {
        edge.due("best(" + play + ", " + wish + ", 0)", floor.best(play, wish, 0), order);
        edge.due("best(" + play + ", " + wish + ", 1)", floor.best(play, wish, 1), cost);
    }

    private void best() {
        edge.terms();
        edge.says("BEST of a PLAY by a wish: of all ORDERS that by which: 0 all LATES together are least,"
            + " 1 the greatest LATE is least, 2 the fewest CUES are LATE (of several the least as digits).");
        for (String cellar : new String[] {Edge.ROW, "H.G.F../A#*#B../..C.D.E"}) {
            for (int stoop = 1; stoop <= 9; stoop += 4) {
                for (String play : PLAYS) {
                    int seconds = stoop;
                    Fresh fresh = new Fresh(() -> stooping(cellar, play, seconds));
                    for (int wish = 0; wish < 3; wish++) {
                        int[] best = Orders.best(fresh, 0, wish, 0);
                        bestIs(stooping(cellar, play, seconds), 0, wish, best[0], best[1]);
                    }
                }
            }
        }
        bestIs(Kit.floor(Edge.ROW, "A4"), 0, 0, 0, 0);
        bestIs(Kit.floor(Edge.ROW, "A3"), 0, 0, 0, 1);
        bestIs(Kit.floor(Edge.ROW, "A0"), 0, 1, 0, 4);
        bestIs(Kit.floor(Edge.ROW, "A3"), 0, 2, 0, 1);
    }

    private static UnderFloor stooping(String cellar, String play, int stoop) {
        UnderFloor floor = Kit.floor(cellar, play);
        floor.set(0, stoop);
        return floor;
    }

    private void bestTies() {
        edge.says("(of several the least as digits)");
        for (int wish = 0; wish < 3; wish++) {
            int[] two = {4 + 9, 9, 2};
            int[] three = {4 + 9 + 14, 14, 3};
            bestIs(Kit.floor("A*B", "A0,B0"), 0, wish, 1, two[wish]);
            bestIs(Kit.floor("A*B", "B0,A0"), 0, wish, 1, two[wish]);
            for (String play : new String[] {"A0,B0,C0", "A0,C0,B0", "B0,A0,C0", "B0,C0,A0", "C0,A0,B0", "C0,B0,A0"}) {
                bestIs(Kit.floor(EQUAL, play), 0, wish, 12, three[wish]);
            }
            bestIs(Kit.floor("*A", "A0,A0,A0,A0,A0,A0,A0,A0"), 0, wish, 1234567, new int[] {8 * 4 + 28 * 3, 25, 8}[wish]);
            bestIs(Kit.floor("*A", "A9,A9"), 0, wish, 1, new int[] {3, 3, 1}[wish]);
        }
        // B must be first here, and of the two behind it the lesser
        bestIs(Kit.floor(EQUAL, "B4,A9,C9"), 0, 0, 12, 5);
        // A and C, or C and A, and then B, which is far off
        bestIs(Kit.floor("A*.....B/.C......", "B9,A9,C9"), 0, 0, 120, 5 + 15);
    }

    private void bestOfEight() {
        String[] plays = {"A4,B8,C12,D16,E20,F24,G28,H32", "H0,A1,G2,B3,F4,C5,E6,D7", "D20,D20,A30,H30,B30,G50,C50,E50"};
        UnderFloor floor = Kit.floor(Edge.ROW, plays);
        Fresh fresh = new Fresh(Edge.ROW, plays);
        for (int wish = 0; wish < 3; wish++) {
            bestIs(floor, 0, wish, 1234567, 0);
            for (int play = 1; play < 3; play++) {
                int[] best = Orders.best(fresh, play, wish, 0);
                bestIs(floor, play, wish, best[0], best[1]);
            }
        }
    }

    private void bestRefused() {
        edge.promise(17);
        edge.says(": BEST: the ORDER (0), how much or how many (1).");
        for (Setup setup : new Setup[] {Setup.OPEN, Setup.FULL}) {
            for (int wish = 0; wish < 3; wish++) {
                int[] best = Orders.best(new Fresh(setup::floor), 0, wish, 0);
                int each = wish;
                edge.still(setup, "best by " + wish, best[0], f -> f.best(0, each, 0));
                edge.still(setup, "how much by " + wish, best[1], f -> f.best(0, each, 1));
            }
        }
        edge.says("NONE: it can't be, no such PLAY, wish, what, no CELLAR.");
        for (int wish = 0; wish < 3; wish++) {
            int each = wish;
            edge.refusesPlays("best by " + wish, (f, play) -> f.best(play, each, 0));
            edge.refusesPlays("how much by " + wish, (f, play) -> f.best(play, each, 1));
            edge.noHalf("best by " + wish, (f, what) -> f.best(0, each, what));
        }
        for (Setup setup : Setup.values()) {
            edge.refuses(setup, "best by wish", NONE, (f, wish) -> f.best(0, wish, 0), -1, 3, 4);
            edge.refuses(setup, "how much by wish", NONE, (f, wish) -> f.best(0, wish, 1), -1, 3, 4);
        }
    }

    /** The CUES of a set as a PLAY of their own. */
    private static String part(String play, int some) {
        StringBuilder part = new StringBuilder();
        String[] cues = play.split(",");
        for (int cue = 0; cue < cues.length; cue++) {
            part.append((some >> cue & 1) == 1 ? "," + cues[cue] : "");
        }
        return part.substring(1);
    }

    private void met() {
        edge.terms();
        edge.says("Only the CUES of a set (bits), all others left out: MET, if there is an ORDER by which none is LATE.");
        for (String play : PLAYS) {
            UnderFloor floor = Kit.floor(Edge.ROW, play);
            for (int some = 1; some < 1 << floor.cue(0, NONE, 0); some++) {
                Fresh alone = new Fresh(Edge.ROW, part(play, some));
                edge.due("met " + some + " of " + play, floor.met(0, some), Orders.best(alone, 0, 0, 0)[1] == 0 ? 1 : 0);
            }
        }
        UnderFloor floor = Kit.floor(Edge.ROW, "A4,B8,C12", "A4,B7,C12", "A3,B8,C12", "B4,C12", "A10,A13");
        edge.due("all in time", floor.met(0, 7), 1);
        edge.due("the second a second late", floor.met(1, 7), 0);
        edge.due("without the first", floor.met(1, 6), 1);
        edge.due("without the second", floor.met(1, 5), 1);
        edge.due("the first a second late", floor.met(2, 1), 0);
        edge.due("without it", floor.met(2, 6), 1);
        edge.due("a second late alone", floor.met(3, 1), 0);
        edge.due("the same crank again in time", floor.met(4, 3), 1);
        edge.due("there is no sixth play", floor.met(5, 3), NONE);
        UnderFloor late = Kit.floor(Edge.ROW, "A10,A12");
        edge.due("the same crank again a second late", late.met(0, 3), 0);
        edge.due("either alone", late.met(0, 1) + late.met(0, 2), 2);
        UnderFloor wall = Kit.floor("*A#B", "A9,B9,C9");
        int[] want = {NONE, 1, 0, 0, 0, 0, 0, 0, NONE};
        for (int some = 0; some < want.length; some++) {
            edge.due("met " + some + " with those that can't be", wall.met(0, some), want[some]);
        }
    }

    private void metRefused() {
        edge.promise(18);
        edge.says(": MET (1, 0).");
        int[] met = {NONE, 0, 1, 0, 1, 0, 0, 0, 1, 0, 1, 0, 1, 0, 0, 0};
        for (int some = 0; some < met.length; some++) {
            int each = some;
            edge.still(Setup.OPEN, "met " + some, met[some], f -> f.met(0, each));
        }
        edge.still(Setup.OPEN, "met of what can't be", 0, f -> f.met(1, 2));
        edge.says("NONE: no such PLAY, set, no CELLAR.");
        edge.noPlay("met 1", (f, play) -> f.met(play, 1));
        edge.noCellar("met 1", (f, play) -> f.met(play, 1));
        for (Setup setup : Setup.values()) {
            edge.refuses(setup, "met", NONE, (f, some) -> f.met(0, some), -1, 0, 16, 17, 255, 256, 1 << 16, 1 << 31);
        }
        edge.refuses(Setup.FULL, "met of one", NONE, (f, some) -> f.met(3, some), -1, 0, 2, 3);
        edge.refuses(Setup.FULL, "met of eight", NONE, (f, some) -> f.met(4, some), -1, 0, 256, 257);
        edge.still(Setup.FULL, "met of all eight", 0, f -> f.met(4, 255));
        edge.still(Setup.FULL, "met of the last of eight", 0, f -> f.met(4, 128));
    }

    private void knotIs(String cellar, String play, int want) {
        Fresh fresh = new Fresh(cellar, play);
        edge.due("knot of " + play, fresh.floor().knot(0), want);
        int fewest = NONE;
        for (int some = 1; some < 1 << play.split(",").length; some++) {
            boolean fewer = fewest == NONE || Integer.bitCount(some) < Integer.bitCount(fewest);
            fewest = fewer && fresh.floor().met(0, some) == 0 ? some : fewest;
        }
        edge.due("by all sets of " + play, fewest, want);
    }

    private void knot() {
        edge.terms();
        edge.says("KNOT: of all sets that are not MET the one with the fewest CUES (of several the least bits).");
        knotIs(Edge.ROW, "A4", NONE);
        knotIs(Edge.ROW, "A3", 1);
        knotIs(Edge.ROW, "A4,B8,C12,D16,E20,F24,G28,H32", NONE);
        knotIs(Edge.ROW, "A4,B7", 3);
        knotIs(Edge.ROW, "A3,B3", 1);
        knotIs(Edge.ROW, "A4,B4", 2);
        knotIs(Edge.ROW, "A4,B8,C12,D16,E20,F24,G28,H31", 128 + 64);
        knotIs(Edge.ROW, "A4,A4,A4,A4,A4,A4,A4,B4", 128);
        knotIs(Edge.ROW, "A4,A4,A4,A4,A4,A4,A4,A4", 3);
        knotIs(Edge.ROW, "A0,B0,C0,D0,E0,F0,G0,H0", 1);
        knotIs(Edge.ROW, "A4,H4,B4", 2);
        knotIs(Edge.ROW, "A10,B20,C30,D33", 12);
        knotIs(Edge.ROW, "A10,B20,B22,A22", 6);
        knotIs(Edge.ROW, "A20,H26,A28", 3);
        knotIs(Edge.ROW, "A20,B24,A27", 6);
        knotIs(Edge.ROW, "D20,H40,C40,D42,A42", 6);
        knotIs("*A#B", "A9,A99,B99", 4);
        knotIs("*A..", "H9,A99,B99", 1);
    }

    private void knotRefused() {
        edge.promise(19);
        edge.says(": KNOT, as bits.");
        edge.still(Setup.OPEN, "knot", 1, f -> f.knot(0));
        edge.still(Setup.OPEN, "knot of what can't be", 1, f -> f.knot(1));
        edge.still(Setup.FULL, "knot of a crank that is not there", 1, f -> f.knot(2));
        edge.says("NONE: all are MET, no such PLAY, no CELLAR.");
        edge.still(Setup.FULL, "knot of eight", 1, f -> f.knot(4));
        UnderFloor floor = Setup.OPEN.floor();
        Kit.text(floor, 1, "A99");
        edge.due("all are met", floor.knot(2), NONE);
        edge.noPlay("knot", UnderFloor::knot);
        edge.noCellar("knot", UnderFloor::knot);
    }

    private void age() {
        edge.terms();
        edge.says("AGE: the greatest STOOP with which all CUES are MET.");
        UnderFloor first = Kit.floor("*A", "A3", "A4", "A5", "A6", "A7");
        UnderFloor second = Kit.floor("*A", "A8", "A9", "A10", "A11", "A12");
        for (int play = 0; play < 5; play++) {
            for (int stoop = 1; stoop <= 9; stoop++) {
                first.set(0, stoop);
                second.set(0, stoop);
                edge.due("age " + play, first.age(play), play);
                edge.due("age " + (play + 5), second.age(play), play + 5);
                edge.due("the stoop stays", first.count(4), stoop);
            }
        }
        UnderFloor last = Kit.floor("*A", "A13", "A999", "A12,A15", "A12,A14", "A0");
        int[] want = {9, 9, 9, 0, 0};
        for (int play = 0; play < 5; play++) {
            edge.due("age " + play, last.age(play), want[play]);
        }
        UnderFloor row = Kit.floor(Edge.ROW, "A5,H36", "A5,H35", "A99,B106", "A4,B8,C12,D16,E20,F24,G28,H32", "A3");
        int[] ages = {2, 2, 4, 1, 0};
        for (int play = 0; play < 5; play++) {
            edge.due("age in a row " + play, row.age(play), ages[play]);
        }
        row.wind(1, 1);
        edge.due("age by less wind", row.age(2), 6);
        edge.promise(20);
        edge.says(": AGE (0: none).");
        edge.cantBeIs("age", 0, UnderFloor::age);
        edge.still(Setup.OPEN, "age", 1, f -> f.age(0) + 1);
        edge.says("NONE: no such PLAY, no CELLAR.");
        edge.noPlay("age", UnderFloor::age);
        edge.noCellar("age", UnderFloor::age);
    }

    private void firstIs(int want, String... plays) {
        UnderFloor floor = Kit.floor("*A.", plays);
        floor.set(0, 7);
        edge.due("first of " + String.join(" ", plays), floor.first(), want);
        edge.due("the stoop stays", floor.count(4), 7);
    }

    private void first() {
        edge.terms();
        edge.says("FIRST of all PLAYS to go: the one with the least AGE (none: 0; of several the first).");
        firstIs(0, "A9");
        firstIs(0, "A3");
        firstIs(0, "A999");
        firstIs(0, "A9", "A9", "A9", "A9", "A9");
        firstIs(0, "A4", "A5", "A6", "A7", "A8");
        firstIs(4, "A8", "A7", "A6", "A5", "A4");
        firstIs(1, "A6", "A5", "A5", "A12", "A5");
        firstIs(1, "A12", "A3", "A4", "A3");
        firstIs(0, "A12", "A13", "A999");
        firstIs(0, "A999", "A13", "A12");
        firstIs(2, "A12", "A12", "A11");
        firstIs(1, "A4", "B99", "A3");
        firstIs(1, "A4", "A3", "B99");
        edge.promise(21);
        edge.says(": FIRST to go.");
        edge.still(Setup.OPEN, "first", 0, UnderFloor::first);
        edge.still(Setup.FULL, "first", 0, UnderFloor::first);
        edge.says("NONE: no PLAYS, no CELLAR.");
        edge.still(Setup.NEW, "first", NONE, UnderFloor::first);
        edge.still(Setup.NO_CELLAR, "first", NONE, UnderFloor::first);
        edge.still(Setup.NO_PLAY, "first", NONE, UnderFloor::first);
    }

    private void mend() {
        edge.terms();
        edge.says("MEND: the first k CUES (0 .. all) are DONE by the BOOK, the others in the ORDER by which all LATES together"
            + " are least (of several the least as digits): that ORDER (of all CUES), LATES.");
        for (String play : PLAYS) {
            UnderFloor floor = Kit.floor(Edge.ROW, play);
            int size = floor.cue(0, NONE, 0);
            for (int k = 0; k <= size; k++) {
                int[] best = Orders.best(new Fresh(Edge.ROW, play), 0, 0, k);
                edge.due("mend " + k + " of " + play, floor.mend(0, k, 0), best[0]);
                edge.due("lates of mend " + k + " of " + play, floor.mend(0, k, 1), best[1]);
            }
            edge.due("none by the book", floor.mend(0, 0, 0), floor.best(0, 0, 0));
            edge.due("all by the book", floor.mend(0, size, 1), floor.nights(0, 1, 1));
            edge.due("all but one by the book", floor.mend(0, size - 1, 1), floor.nights(0, 1, 1));
            edge.due("none beyond", floor.mend(0, size + 1, 0), NONE);
        }
        String cues = "H0,A1,G2,B3,F4,C5,E6,D7";
        UnderFloor eight = Kit.floor(Edge.ROW, cues);
        for (int k = 2; k <= 8; k++) {
            int[] best = Orders.best(new Fresh(Edge.ROW, cues), 0, 0, k);
            edge.due("mend " + k + " of eight", eight.mend(0, k, 0), best[0]);
            edge.due("lates of mend " + k + " of eight", eight.mend(0, k, 1), best[1]);
        }
        UnderFloor ties = Kit.floor(EQUAL, "A0,C0,B0", "C0,A0,B0");
        for (int k = 0; k <= 3; k++) {
            edge.due("mend " + k + " of equal ones", ties.mend(0, k, 0), 12);
            edge.due("mend " + k + " of others", ties.mend(1, k, 0), 12);
        }
    }

    private void mendRefused() {
        edge.promise(32);
        edge.says(": MEND: the ORDER (0), LATES (1).");
        for (int k = 0; k <= 4; k++) {
            int[] best = Orders.best(new Fresh(Setup.OPEN::floor), 0, 0, k);
            int each = k;
            edge.still(Setup.OPEN, "mend " + k, best[0], f -> f.mend(0, each, 0));
            edge.still(Setup.OPEN, "lates of mend " + k, best[1], f -> f.mend(0, each, 1));
        }
        edge.says("NONE: it can't be, no such ones, no CELLAR.");
        for (int what = 0; what < 2; what++) {
            int each = what;
            edge.refusesPlays("mend 0, what " + what, (f, play) -> f.mend(play, 0, each));
            edge.refusesPlays("mend 1, what " + what, (f, play) -> f.mend(play, 1, each));
            for (Setup setup : Setup.values()) {
                edge.refuses(setup, "mend", NONE, (f, k) -> f.mend(0, k, each), -1, 5, 8, 9);
            }
            edge.refuses(Setup.FULL, "mend of one", NONE, (f, k) -> f.mend(3, k, each), -1, 2);
            edge.refuses(Setup.FULL, "mend of eight", NONE, (f, k) -> f.mend(4, k, each), -1, 9, 10);
        }
        edge.noHalf("mend 0", (f, what) -> f.mend(0, 0, what));
        edge.noHalf("mend 4", (f, what) -> f.mend(0, 4, what));
    }

    private void slackIs(String play, int... want) {
        UnderFloor floor = Kit.floor(Edge.ROW, play);
        for (int cue = 0; cue < want.length; cue++) {
            edge.due("slack of cue " + cue + " of " + play, floor.slack(0, cue), want[cue]);
        }
        edge.due("slack beyond " + play, floor.slack(0, want.length), NONE);
    }

    private void slack() {
        edge.terms();
        edge.says("SLACK of a CUE: the most seconds (0 .. 30) by which its winding alone (this one time) could take longer,"
            + " so that LATES together by the BOOK are no more.");
        slackIs("A0", 0);
        slackIs("A3", 0);
        slackIs("A4", 0);
        slackIs("A5", 1);
        slackIs("A33", 29);
        slackIs("A34", 30);
        slackIs("A35", 30);
        slackIs("A999", 30);
        slackIs("A10,A15", 6, 2);
        slackIs("A10,B10", 6, 0);
        slackIs("A3,B20", 0, 12);
        slackIs("A4,B8,C12", 0, 0, 0);
        slackIs("A4,B9,C13", 0, 1, 0);
        slackIs("A4,B9,C14", 0, 1, 1);
        slackIs("A10,B13,C99", 6, 0, 30);
        slackIs("A4,B8,C12,D16,E20,F24,G28,H33", 0, 0, 0, 0, 0, 0, 0, 1);
        UnderFloor wound = Kit.floor("*A", "A61", "A60");
        wound.wind(0, 30);
        edge.due("slack beyond all winds", wound.slack(0, 0), 30);
        edge.due("slack one less", wound.slack(1, 0), 29);
        edge.due("the wind stays", wound.order(0, 0, 3), 61);
        edge.due("it would be more", wound.wind(0, 31), false);
    }

    private void slackRefused() {
        edge.promise(33);
        edge.says(": SLACK.");
        for (int cue = 0; cue < 4; cue++) {
            int each = cue;
            edge.still(Setup.OPEN, "slack " + cue, 0, f -> f.slack(0, each));
        }
        edge.still(Setup.FULL, "slack of one", 0, f -> f.slack(3, 0));
        edge.says("NONE: it can't be, no such ones, no CELLAR.");
        for (int cue = 0; cue < 2; cue++) {
            int each = cue;
            edge.noPlay("slack " + cue, (f, play) -> f.slack(play, each));
            edge.noCellar("slack " + cue, (f, play) -> f.slack(play, each));
            edge.cantBe("slack " + cue, (f, play) -> f.slack(play, each));
        }
        for (Setup setup : Setup.values()) {
            edge.refuses(setup, "slack", NONE, (f, cue) -> f.slack(0, cue), -1, 4, 8);
        }
        edge.refuses(Setup.FULL, "slack of one", NONE, (f, cue) -> f.slack(3, cue), -1, 1);
        edge.refuses(Setup.FULL, "slack of eight", NONE, (f, cue) -> f.slack(4, cue), -1, 8, 9);
    }

    /** A PLAY whose TIMES are its numbers: with one of them a second later it is another PLAY, if they still rise. */
    private void urgentIs(String play, int want) {
        UnderFloor floor = Kit.floor(Edge.ROW, play);
        edge.due("urgent of " + play, floor.urgent(0), want);
        int size = floor.cue(0, NONE, 0);
        for (int cue = 0; cue < size; cue++) {
            String[] cues = play.split(",");
            cues[cue] = cues[cue].charAt(0) + String.valueOf(floor.cue(0, cue, 1) + 1);
            String later = String.join(",", cues);
            if (Kit.fault(1, later) == NONE) {
                boolean less = Kit.floor(Edge.ROW, later).best(0, 0, 1) < floor.best(0, 0, 1);
                edge.due("urgent " + cue + " of " + play, (want >> cue & 1) == 1, less);
            }
        }
    }

    private void urgent() {
        edge.terms();
        edge.says("URGENT: CUES (bits) such that with the TIME of that one alone a second later BEST (wish 0) would be less.");
        urgentIs("A4", 0);
        urgentIs("A5", 0);
        urgentIs("A3", 1);
        urgentIs("A0", 1);
        urgentIs("A4,B7", 2);
        urgentIs("A4,B8", 0);
        urgentIs("A3,B7", 3);
        urgentIs("A3,B8", 1);
        urgentIs("A3,B3", 3);
        urgentIs("A0,B0,C0,D0,E0,F0,G0,H0", 255);
        urgentIs("A4,B8,C12,D16,E20,F24,G28,H31", 128);
        urgentIs("A4,B8,C12,D16,E20,F24,G28,H32", 0);
        for (String play : PLAYS) {
            urgentIs(play, Kit.floor(Edge.ROW, play).urgent(0));
        }
        UnderFloor floor = Kit.floor("*A", "A0,A0,A0,A0,A0,A0,A0,A0");
        edge.due("all of the same crank", floor.urgent(0), 255);
        edge.due("the times stay", floor.cue(0, 0, 2), 0);
        // the second alone a second later would be 1 behind the third, and still be done ahead of it
        edge.due("of equal ones", Kit.floor(Edge.ROW, "A4,B7,C7").urgent(0), 2 + 4);
    }

    private void urgentRefused() {
        edge.promise(34);
        edge.says(": URGENT, as bits.");
        edge.still(Setup.OPEN, "urgent", Setup.OPEN.floor().urgent(0), f -> f.urgent(0));
        edge.still(Setup.FULL, "urgent of one in time", Setup.FULL.floor().urgent(3), f -> f.urgent(3));
        edge.still(Setup.FULL, "urgent of eight", Setup.FULL.floor().urgent(4), f -> f.urgent(4));
        edge.says("NONE: it can't be, no such PLAY, no CELLAR.");
        edge.refusesPlays("urgent", UnderFloor::urgent);
    }
}
