/** PLAYS by an ORDER: promises 9, 14 to 16 and 31. */
final class OrderEdges {
    private static final int NONE = Edge.NONE;
    private static final int GOES = 8;
    private static final int ALL_DONE = 9;
    private static final String EIGHT = "A4,B8,C12,D16,E20,F24,G28,H32";

    private final Edge edge;

    private OrderEdges(Edge edge) {
        this.edge = edge;
    }

    static void all(Edge edge) {
        OrderEdges edges = new OrderEdges(edge);
        edges.cue();
        edges.hand();
        edges.lates();
        edges.cantBe();
        edges.orders();
        edges.order();
        edges.done();
        edges.where();
        edges.whereBehindMore();
        edges.whereRefused();
        edges.walk();
        edges.walkRefused();
    }

    private void cue() {
        edge.promise(9);
        edge.says(": Of a CUE of a PLAY: its CRANK (0), its number (1), its TIME (2)");
        UnderFloor floor = new UnderFloor();
        String[] plays = {"H0", "A999", "G1,A1", "B10,B10,H998", EIGHT};
        for (String play : plays) {
            Kit.text(floor, 1, play);
        }
        for (int play = 0; play < plays.length; play++) {
            String[] cues = plays[play].split(",");
            for (int cue = 0; cue < cues.length; cue++) {
                int number = Integer.parseInt(cues[cue].substring(1));
                edge.due("crank of " + cues[cue], floor.cue(play, cue, 0), cues[cue].charAt(0) - 'A');
                edge.due("number of " + cues[cue], floor.cue(play, cue, 1), number);
                edge.due("time of " + cues[cue], floor.cue(play, cue, 2), number);
            }
        }
        edge.says("; how many there are (cue NONE, what 0).");
        for (int play = 0; play < plays.length; play++) {
            int cues = plays[play].split(",").length;
            edge.due("how many of " + plays[play], floor.cue(play, NONE, 0), cues);
            edge.due("one beyond", floor.cue(play, cues, 0), NONE);
            for (int what = -1; what <= 3; what++) {
                edge.due("how many, what " + what, floor.cue(play, NONE, what), what == 0 ? cues : NONE);
            }
        }
        edge.says("NONE: no such ones.");
        edge.noPlay("crank of cue 0", (f, play) -> f.cue(play, 0, 0));
        edge.noPlay("time of cue 0", (f, play) -> f.cue(play, 0, 2));
        edge.noPlay("how many cues", (f, play) -> f.cue(play, NONE, 0));
        for (Setup setup : Setup.values()) {
            edge.refuses(setup, "cue", NONE, (f, cue) -> f.cue(0, cue, 0), -2, 4, 8);
            edge.refuses(setup, "number of cue", NONE, (f, cue) -> f.cue(0, cue, 1), -2, -1, 4, 8);
            edge.refuses(setup, "time of cue", NONE, (f, cue) -> f.cue(0, cue, 2), -2, -1, 4, 8);
            edge.refuses(setup, "cue 0, what", NONE, (f, what) -> f.cue(0, 0, what), -1, 3);
            edge.refuses(setup, "how many cues, what", NONE, (f, what) -> f.cue(0, NONE, what), -1, 1, 2, 3);
        }
        edge.still(Setup.NO_CELLAR, "time without a cellar", 16, f -> f.cue(0, 1, 2));
        edge.still(Setup.OPEN, "time", 13, f -> f.cue(0, 1, 2));
        edge.still(Setup.FULL, "the last of the last", 7, f -> f.cue(4, 7, 0) + f.cue(4, 7, 1) + f.cue(4, 7, 2));
    }

    /** All that an ORDER tells: all LATES, the greatest, how many, when all is DONE, STEPS, IDLE. */
    private void told(UnderFloor floor, int play, int order, int... want) {
        for (int what = 0; what < 4; what++) {
            edge.due("order(" + play + ", " + order + ", " + what + ")", floor.order(play, order, what), want[what]);
        }
        for (int what = 0; what < 2; what++) {
            edge.due("walk(" + play + ", " + order + ", " + what + ")", floor.walk(play, order, what), want[4 + what]);
        }
    }

    private void doneAt(UnderFloor floor, int play, int order, int cue, int come, int done, int late) {
        String at = "done(" + play + ", " + order + ", " + cue + ", ";
        edge.due(at + "2)", floor.done(play, order, cue, 2), come);
        edge.due(at + "0)", floor.done(play, order, cue, 0), done);
        edge.due(at + "1)", floor.done(play, order, cue, 1), late);
    }

    private void hand() {
        edge.terms();
        edge.says("HAND by an ORDER of CUES (digits to the base 10, the first the highest, each once):"
            + " at second 0 it stands at START; it goes to the CRANK of the first CUE (WAY times STOOP seconds),"
            + " winds WIND seconds, and waits there, if its TIME is not come; then it is DONE, and goes on to the next.");
        UnderFloor floor = Kit.floor(Edge.ROW, "A4,C20,B21", "B0,B0", "H999", EIGHT);
        doneAt(floor, 0, 12, 0, 1, 4, 0);
        doneAt(floor, 0, 12, 1, 6, 20, 0);
        doneAt(floor, 0, 12, 2, 21, 24, 3);
        doneAt(floor, 0, 210, 2, 2, 21, 0);
        doneAt(floor, 0, 210, 1, 22, 25, 5);
        doneAt(floor, 0, 210, 0, 27, 30, 26);
        doneAt(floor, 0, 102, 1, 3, 20, 0);
        doneAt(floor, 0, 102, 0, 22, 25, 21);
        doneAt(floor, 0, 102, 2, 26, 29, 8);
        doneAt(floor, 1, 1, 0, 2, 5, 5);
        doneAt(floor, 1, 1, 1, 5, 8, 8);
        doneAt(floor, 1, 10, 1, 2, 5, 5);
        doneAt(floor, 1, 10, 0, 5, 8, 8);
        doneAt(floor, 2, 0, 0, 8, 999, 0);
        for (int cue = 0; cue < 8; cue++) {
            doneAt(floor, 3, 1234567, cue, 4 * cue + 1, 4 * cue + 4, 0);
            int back = 8 + 4 * (7 - cue);
            doneAt(floor, 3, 76543210, cue, back == 8 ? 8 : 32 + 1 + 4 * (6 - cue), 32 + 4 * (7 - cue), 32 + 4 * (7 - cue) - 4 * cue - 4);
        }
        floor.set(0, 9);
        floor.wind(7, 30);
        doneAt(floor, 3, 76543210, 7, 72, 102, 70);
        doneAt(floor, 3, 76543210, 0, 102 + 63 + 18, 186, 182);
        floor.wind(7, 1);
        doneAt(floor, 3, 76543210, 7, 72, 73, 41);
        edge.says("BOOK: the ORDER as the CUES stand.");
        UnderFloor book = Kit.floor(Edge.ROW, "C1,B2,A3");
        edge.due("the book: its lates", book.order(0, 12, 0), book.mend(0, 3, 1));
        edge.due("the book: its order", book.mend(0, 3, 0), 12);
        edge.due("by the book", book.nights(0, 1, 1), 5 + 8 + 11);
    }

    private void lates() {
        edge.says("LATE: by how much DONE is behind TIME (0 at least).");
        told(Kit.floor(Edge.ROW, "A4,B8,C12"), 0, 12, 0, 0, 0, 12, 3, 0);
        told(Kit.floor(Edge.ROW, "A3,B8,C12"), 0, 12, 1, 1, 1, 12, 3, 0);
        told(Kit.floor(Edge.ROW, "A4,B7,C12"), 0, 12, 1, 1, 1, 12, 3, 0);
        told(Kit.floor(Edge.ROW, "A4,B8,C11"), 0, 12, 1, 1, 1, 12, 3, 0);
        told(Kit.floor(Edge.ROW, "A4,B8,C13"), 0, 12, 0, 0, 0, 13, 3, 1);
        told(Kit.floor(Edge.ROW, "A5,B8,C12"), 0, 12, 2, 1, 2, 13, 3, 1);
        told(Kit.floor(Edge.ROW, "A5,B9,C12"), 0, 12, 1, 1, 1, 13, 3, 1);
        told(Kit.floor(Edge.ROW, "A0,B0,C0"), 0, 12, 24, 12, 3, 12, 3, 0);
        told(Kit.floor(Edge.ROW, "A999,B999,C999"), 0, 12, 4 + 8, 8, 2, 1007, 3, 995);
        told(Kit.floor(Edge.ROW, "A999"), 0, 0, 0, 0, 0, 999, 1, 995);
        told(Kit.floor(Edge.ROW, "A0"), 0, 0, 4, 4, 1, 4, 1, 0);
        UnderFloor most = Kit.floor("*#...#../.#.#.#.#/.#.#.#.#/.#.#.#.#/.#.#.#.A/...#...B", "A0,B0,A0,B0,A0,B0,A0,B0");
        most.set(0, 9);
        most.wind(0, 30);
        most.wind(1, 30);
        // A is 23 STEPS from START, and each CUE one STEP from the one ahead
        edge.due("the way to A", most.way(0, 47), 23);
        int done = 207 + 30;
        int all = done;
        for (int cue = 1; cue < 8; cue++) {
            done += 9 + 30;
            all += done;
        }
        told(most, 0, 1234567, all, done, 8, done, 30, 0);
        told(most, 0, 2461357, 8 * 237 + 28 * 30 + 4 * 9, 237 + 210 + 9, 8, 237 + 210 + 9, 24, 0);
    }

    private void cantBe() {
        edge.says("A CUE whose CRANK is not in the CELLAR, or can't be come to, can't be DONE"
            + " (an ORDER with such a one can't be).");
        for (String cellar : new String[] {"*A.#B", "*A..."}) {
            UnderFloor floor = Kit.floor(cellar, "A5,B9", "B9", "A5");
            for (int order : new int[] {1, 10}) {
                for (int what = 0; what < 4; what++) {
                    edge.due("order " + order + " in " + cellar, floor.order(0, order, what), NONE);
                    edge.due("walk " + order + " in " + cellar, floor.walk(0, order, what % 2), NONE);
                    edge.due("done of A by " + order, floor.done(0, order, 0, what % 3), NONE);
                    edge.due("done of B by " + order, floor.done(0, order, 1, what % 3), NONE);
                    edge.due("where by " + order, floor.where(0, order, what), NONE);
                }
            }
            edge.due("order of it alone", floor.order(1, 0, 0), NONE);
            edge.due("order without it", floor.order(2, 0, 0), 0);
        }
        UnderFloor swapped = Kit.floor("*A.#B", "A5", "B5");
        swapped.swap(0, 1);
        edge.due("walled by an exchange", swapped.order(0, 0, 0), NONE);
        edge.due("come to by an exchange", swapped.order(1, 0, 0), 0);
        swapped.knock(3);
        edge.due("come to without the post", swapped.order(0, 0, 0), 2);
    }

    /** Of all numbers up to one beyond, and of those less than 0: which are ORDERS. */
    private void allOrders(String play, int beyond) {
        Fresh fresh = new Fresh(Edge.ROW, play);
        int cues = fresh.floor().cue(0, NONE, 0);
        for (int order = -beyond; order <= beyond; order++) {
            edge.due("is " + order + " an order of " + cues, fresh.floor().order(0, order, 0) != NONE, isOrder(order, cues));
        }
    }

    private static boolean isOrder(int order, int cues) {
        String digits = String.valueOf(order);
        digits = Edge.times(cues - digits.length(), "0") + digits;
        boolean each = digits.length() == cues;
        for (int cue = 0; cue < cues; cue++) {
            each &= digits.indexOf('0' + cue) >= 0;
        }
        return each;
    }

    private void orders() {
        edge.says("(digits to the base 10, the first the highest, each once)");
        allOrders("A4", 300);
        allOrders("A4,B8", 1300);
        allOrders("A4,B8,C12", 3500);
        allOrders("A4,B8,C12,D16", 13500);
        UnderFloor floor = Kit.floor(Edge.ROW, EIGHT);
        int[] right = {1234567, 76543210, 10234567, 1234576, 70123456, 1234657, 12345670};
        for (int order : right) {
            edge.due("order of eight " + order, floor.order(0, order, 0) >= 0, true);
            edge.due("less than nothing of it", floor.order(0, -order, 0), NONE);
            edge.due("with one digit more", floor.order(0, order + 100000000, 0), NONE);
            edge.due("with one digit more, 8", floor.order(0, order + 800000000, 0), NONE);
            edge.due("with two digits more", floor.order(0, order + 1000000000, 0), NONE);
            edge.due("with one less", floor.order(0, order / 10, 0) != NONE, isOrder(order / 10, 8));
            edge.due("with one twice", floor.order(0, order / 100 * 100 + order % 10 * 11, 0), NONE);
        }
        for (int order : new int[] {12345678, 1234568, 1234569, 12345671, 0, 1, 11111111, 76543211, 76543219, 86543210}) {
            edge.due("no order of eight " + order, floor.order(0, order, 0), NONE);
        }
    }

    private void order() {
        edge.promise(14);
        edge.says(": By an ORDER: all LATES (0), the greatest (1), how many are LATE (2), the second at which all is DONE (3).");
        int[] want = {2 + 7 + 14 + 13, 14, 4, 45};
        for (int what = 0; what < 4; what++) {
            int each = what;
            edge.still(Setup.OPEN, "order, what " + what, want[what], f -> f.order(0, 123, each));
        }
        edge.says("NONE: it can't be, no such ORDER, PLAY, what, no CELLAR.");
        for (int what = 0; what < 4; what++) {
            int each = what;
            edge.cantBe("order, what " + what, (f, play) -> f.order(play, play == 1 ? 1 : 0, each));
            edge.noPlay("order, what " + what, (f, play) -> f.order(play, 0, each));
            edge.noPlay("order, what " + what, (f, play) -> f.order(play, 123, each));
            edge.still(Setup.NO_CELLAR, "order, what " + what, NONE, f -> f.order(0, 123, each));
            for (Setup setup : Setup.values()) {
                edge.refuses(setup, "order", NONE, (f, order) -> f.order(0, order, each),
                    -1, -123, 0, 12, 122, 124, 1123, 10123, 1234, 4123, 3333);
            }
        }
        for (Setup setup : Setup.values()) {
            edge.refuses(setup, "order, what", NONE, (f, what) -> f.order(0, 123, what), -1, 4, 5);
        }
    }

    private void done() {
        edge.promise(15);
        edge.says(": By an ORDER: when a CUE is DONE (what 0), how LATE (1), when its CRANK is come to (2).");
        int[][] want = {{9, 2, 4}, {20, 7, 17}, {36, 14, 32}, {45, 13, 42}};
        for (int at = 0; at < 12; at++) {
            int cue = at / 3;
            int what = at % 3;
            edge.still(Setup.OPEN, "done, cue " + cue + ", what " + what, want[cue][what], f -> f.done(0, 123, cue, what));
        }
        edge.says("NONE likewise, no such CUE.");
        for (int what = 0; what < 3; what++) {
            int each = what;
            edge.cantBe("done, what " + what, (f, play) -> f.done(play, play == 1 ? 1 : 0, 0, each));
            edge.noPlay("done, what " + what, (f, play) -> f.done(play, 0, 0, each));
            edge.noPlay("done, what " + what, (f, play) -> f.done(play, 123, 0, each));
            edge.still(Setup.NO_CELLAR, "done, what " + what, NONE, f -> f.done(0, 123, 0, each));
            for (Setup setup : Setup.values()) {
                edge.refuses(setup, "done by order", NONE, (f, order) -> f.done(0, order, 0, each), -1, 0, 12, 122, 1123, 10123);
                edge.refuses(setup, "done of cue", NONE, (f, cue) -> f.done(0, 123, cue, each), -1, 4, 8);
            }
            edge.refuses(Setup.FULL, "done of cue of one", NONE, (f, cue) -> f.done(3, 0, cue, each), -1, 1, 7);
            edge.refuses(Setup.FULL, "done of cue of eight", NONE, (f, cue) -> f.done(4, 1234567, cue, each), -1, 8, 9);
        }
        for (Setup setup : Setup.values()) {
            edge.refuses(setup, "done, what", NONE, (f, what) -> f.done(0, 123, 0, what), -1, 3);
        }
    }

    private void where() {
        edge.terms();
        edge.says("WHERE: at a second by an ORDER: the CRANK it is at (of two the one it was at first),"
            + " or that it goes, or that all is DONE.");
        UnderFloor floor = Kit.floor(Edge.ROW, "B6,D20,D21,E22", "A0", "H999");
        // B 2 to 6 (a second of waiting), D 8 to 20 and to 23, E 24 to 27
        for (int second = 0; second <= 40; second++) {
            int want = second < 2 ? GOES : second <= 6 ? 1 : second < 8 ? GOES : second <= 23 ? 3 : second <= 27 ? 4 : ALL_DONE;
            edge.due("where at " + second, floor.where(0, 123, second), want);
        }
        // E 5 to 22, D 23 to 26 and to 29, B 31 to 34
        for (int second = 0; second <= 40; second++) {
            int want = second < 5 ? GOES : second <= 22 ? 4 : second <= 29 ? 3 : second < 31 ? GOES : second <= 34 ? 1 : ALL_DONE;
            edge.due("where at " + second + " the other way", floor.where(0, 3210, second), want);
        }
        for (int second = 0; second <= 9; second++) {
            edge.due("where with one at " + second, floor.where(1, 0, second), second < 1 ? GOES : second <= 4 ? 0 : ALL_DONE);
        }
        edge.due("where till it is come to", floor.where(2, 0, 7), GOES);
        edge.due("where when it is come to", floor.where(2, 0, 8), 7);
        edge.due("where when it is done", floor.where(2, 0, 999), 7);
        edge.due("where behind", floor.where(2, 0, 1000), ALL_DONE);
        floor.set(0, 9);
        edge.due("where it goes a second ahead", floor.where(2, 0, 71), GOES);
        edge.due("where it comes", floor.where(2, 0, 72), 7);
        // two CRANKS side by side: of one second to the next from the one to the other
        UnderFloor beside = Kit.floor("*AB", "A4,B8");
        int[] at = {GOES, 0, 0, 0, 0, 1, 1, 1, 1, ALL_DONE};
        for (int second = 0; second < at.length; second++) {
            edge.due("where beside at " + second, beside.where(0, 1, second), at[second]);
        }
    }

    /** Asked behind a PLAY with more CUES: nothing of it may be left. */
    private void whereBehindMore() {
        UnderFloor floor = Kit.floor(Edge.ROW, EIGHT, "A0", "B6,A9");
        for (int second = 0; second <= 40; second++) {
            floor.where(0, 76543210, second);
            edge.due("where with one at " + second, floor.where(1, 0, second), second < 1 ? GOES : second <= 4 ? 0 : ALL_DONE);
            floor.where(0, 1234567, second);
            edge.due("where with one at " + second, floor.where(1, 0, second), second < 1 ? GOES : second <= 4 ? 0 : ALL_DONE);
            floor.where(0, 1234567, second);
            int want = second < 2 ? GOES : second <= 6 ? 1 : second < 7 ? GOES : second <= 10 ? 0 : ALL_DONE;
            edge.due("where with two at " + second, floor.where(2, 1, second), want);
        }
    }

    private void whereRefused() {
        edge.promise(16);
        edge.says(": WHERE: the CRANK, 8 it goes, 9 all is DONE.");
        int[][] want = {{0, GOES}, {3, GOES}, {4, 0}, {9, 0}, {10, GOES}, {17, 2}, {20, 2}, {36, 1}, {37, GOES}, {42, 3}, {45, 3},
            {46, ALL_DONE}, {Integer.MAX_VALUE, ALL_DONE}};
        for (int[] each : want) {
            edge.still(Setup.OPEN, "where at " + each[0], each[1], f -> f.where(0, 123, each[0]));
        }
        edge.says("NONE likewise, second below 0.");
        for (int second : new int[] {-1, -2, Integer.MIN_VALUE + 1, Integer.MIN_VALUE}) {
            edge.still(Setup.OPEN, "where at " + second, NONE, f -> f.where(0, 123, second));
        }
        for (int second : new int[] {0, 5, 46, Integer.MAX_VALUE}) {
            edge.cantBe("where at " + second, (f, play) -> f.where(play, play == 1 ? 1 : 0, second));
            edge.noPlay("where at " + second, (f, play) -> f.where(play, 0, second));
            edge.noPlay("where at " + second, (f, play) -> f.where(play, 123, second));
            edge.still(Setup.NO_CELLAR, "where at " + second, NONE, f -> f.where(0, 123, second));
            for (Setup setup : Setup.values()) {
                edge.refuses(setup, "where by order", NONE, (f, order) -> f.where(0, order, second), -1, 0, 12, 122, 1123, 10123);
            }
        }
    }

    private void walk() {
        edge.terms();
        edge.says("WALK by an ORDER: its STEPS in all; IDLE: the seconds it waits wound for TIMES in all.");
        UnderFloor floor = Kit.floor(Edge.ROW, EIGHT, "A5,A9,A99", "H0");
        told(floor, 0, 1234567, 0, 0, 0, 32, 8, 0);
        edge.due("walk back", floor.walk(0, 76543210, 0), 15);
        edge.due("idle back", floor.walk(0, 76543210, 1), 32 - 11);
        edge.due("walk to and fro", floor.walk(0, 7162534, 0), 1 + 7 + 6 + 5 + 4 + 3 + 2 + 1);
        told(floor, 1, 12, 0, 0, 0, 99, 1, 1 + 1 + 87);
        told(floor, 1, 210, 102 - 9 + 105 - 5, 100, 2, 105, 1, 95);
        told(floor, 2, 0, 11, 11, 1, 11, 8, 0);
        floor.set(0, 9);
        edge.due("steps, not seconds", floor.walk(0, 1234567, 0), 8);
        edge.due("no idle then", floor.walk(0, 1234567, 1), 0);
    }

    private void walkRefused() {
        edge.promise(31);
        edge.says(": WALK (what 0), IDLE (1).");
        edge.still(Setup.OPEN, "walk", 2 + 4 + 6 + 3, f -> f.walk(0, 123, 0));
        edge.still(Setup.OPEN, "idle", 0, f -> f.walk(0, 123, 1));
        edge.still(Setup.FULL, "idle of one", 0, f -> f.walk(3, 0, 1));
        edge.says("NONE: it can't be, no such ones, no CELLAR.");
        for (int what = 0; what < 2; what++) {
            int each = what;
            edge.cantBe("walk, what " + what, (f, play) -> f.walk(play, play == 1 ? 1 : 0, each));
            edge.noPlay("walk, what " + what, (f, play) -> f.walk(play, 0, each));
            edge.noPlay("walk, what " + what, (f, play) -> f.walk(play, 123, each));
            edge.still(Setup.NO_CELLAR, "walk, what " + what, NONE, f -> f.walk(0, 123, each));
            for (Setup setup : Setup.values()) {
                edge.refuses(setup, "walk by order", NONE, (f, order) -> f.walk(0, order, each), -1, 0, 12, 122, 1123, 10123);
            }
        }
        edge.noHalf("walk", (f, what) -> f.walk(0, 123, what));
    }
}
