import java.util.ArrayList;
import java.util.List;

/** THUDS, the ORDERS that fit, and the BOY: promises 27 to 29; at last all that is refused, in one row. */
final class HeardEdges {
    private static final int NONE = Edge.NONE;

    private final Edge edge;

    private HeardEdges(Edge edge) {
        this.edge = edge;
    }

    static void all(Edge edge) {
        HeardEdges edges = new HeardEdges(edge);
        edges.thud();
        edges.thudRefused();
        edges.bothEnds();
        edges.fit();
        edges.fitOfEight();
        edges.fitRefused();
        edges.boy();
        edges.boyTies();
        edges.boyRefused();
        edges.allRefused();
    }

    private void thud() {
        edge.terms();
        edge.says("THUDS (10 at most): at a second (0 .. 999) the HAND was at a CRANK");
        UnderFloor floor = Kit.floor(Edge.ROW, "A0");
        int[] seconds = {0, 999, 0, 999, 1, 998, 500, 0, 1, 2};
        for (int i = 0; i < seconds.length; i++) {
            edge.due("thud at " + seconds[i], floor.thud(seconds[i], i % 8), i + 1);
            edge.due("how many", floor.count(7), i + 1);
        }
        for (int again = 0; again < 3; again++) {
            edge.due("an eleventh", floor.thud(1, 0), NONE);
            edge.due("how many then", floor.count(7), 10);
        }
        Kit.text(floor, 0, "*A");
        edge.due("none in another cellar", floor.count(7), 0);
        edge.due("a first one there", floor.thud(4, 0), 1);
        edge.due("of a crank of the cellar ahead", floor.thud(4, 1), NONE);
        edge.promise(27);
        edge.says(": A THUD: how many there are.");
        for (int crank = 0; crank < 8; crank++) {
            UnderFloor each = Kit.floor(Edge.ROW, "A0", "A0,B0,C0,D0,E0,F0,G0,H0");
            edge.due("thud at " + crank, each.thud(crank + 1, crank), 1);
            edge.due("one fits, if it is the first", each.fit(0, NONE), crank == 0 ? 1 : 0);
            edge.due("those that begin with it", each.fit(1, NONE), 5040);
            edge.due("the first of them", each.fit(1, 0) / 10000000, crank);
        }
    }

    private void thudRefused() {
        edge.says("NONE: no such second, the CRANK is not in the CELLAR, there are ten, no CELLAR.");
        for (Setup setup : Setup.values()) {
            edge.refuses(setup, "thud at second", NONE, (f, second) -> f.thud(second, 0), -1, 1000);
            edge.refuses(setup, "thud at crank", NONE, (f, crank) -> f.thud(5, crank), -1, Setup.ABSENT, 6, 7, 8);
        }
        for (int crank = 0; crank < 8; crank++) {
            int each = crank;
            edge.still(Setup.NEW, "thud at crank " + crank, NONE, f -> f.thud(5, each));
            edge.still(Setup.NO_CELLAR, "thud at crank " + crank, NONE, f -> f.thud(5, each));
            edge.still(Setup.FULL, "an eleventh at crank " + crank, NONE, f -> f.thud(5, each));
        }
        edge.still(Setup.FULL, "an eleventh, the same", NONE, f -> f.thud(7, 0));
        UnderFloor floor = Setup.OPEN.floor();
        edge.due("thud at a crank that is walled off", floor.thud(5, Setup.WALLED), 2);
        edge.due("nothing fits it", floor.fit(0, NONE), 0);
    }

    private void bothEnds() {
        edge.terms();
        edge.says("(from when it comes there till it is DONE, both ends).");
        // by 01 A 1 to 9 and B 10 to 20; by 10 B 2 to 20 and A 21 to 24
        String[] plays = {"A9,B20", "B20", "A9", "A9,A20"};
        for (int second = 0; second <= 26; second++) {
            UnderFloor atA = Kit.floor(Edge.ROW, plays);
            atA.thud(second, 0);
            boolean first = second >= 1 && second <= 9;
            boolean last = second >= 21 && second <= 24;
            edge.due("A at " + second, atA.fit(0, NONE), (first ? 1 : 0) + (last ? 1 : 0));
            edge.due("A at " + second + ", the first", atA.fit(0, 0), first ? 1 : last ? 10 : NONE);
            edge.due("A at " + second + " in a play without it", atA.fit(1, NONE), 0);
            edge.due("A at " + second + " alone", atA.fit(2, NONE), first ? 1 : 0);
            edge.due("A at " + second + " twice", atA.fit(3, NONE), second < 1 ? 0 : second <= 20 ? 2 : second <= 23 ? 1 : 0);
            UnderFloor atB = Kit.floor(Edge.ROW, plays);
            atB.thud(second, 1);
            boolean behind = second >= 10 && second <= 20;
            boolean ahead = second >= 2 && second <= 20;
            edge.due("B at " + second, atB.fit(0, NONE), (behind ? 1 : 0) + (ahead ? 1 : 0));
            edge.due("B at " + second + ", the first", atB.fit(0, 0), behind ? 1 : ahead ? 10 : NONE);
            edge.due("B at " + second + " alone", atB.fit(1, NONE), ahead ? 1 : 0);
        }
        UnderFloor late = Kit.floor(Edge.ROW, "A999", "H999,A999");
        late.thud(999, 0);
        edge.due("at the last second", late.fit(0, NONE), 1);
        edge.due("at the last second, of two", late.fit(1, 0), 10);
    }

    /** All ORDERS by which the HAND was at all THUDS (second, CRANK, ..), by asking where it is. */
    private static List<Integer> fitting(Fresh fresh, int play, int... thuds) {
        List<Integer> fitting = new ArrayList<>();
        int size = fresh.floor().cue(play, NONE, 0);
        for (int order = 0; order < (int) Math.pow(10, size); order++) {
            boolean fits = fresh.floor().walk(play, order, 0) != NONE;
            for (int i = 0; i < thuds.length && fits; i += 2) {
                fits = fresh.floor().where(play, order, thuds[i]) == thuds[i + 1];
            }
            if (fits) {
                fitting.add(order);
            }
        }
        return fitting;
    }

    private void fit() {
        edge.terms();
        edge.says("FIT: of a PLAY's ORDERS (all CUES) those by which it was so at all THUDS: how many, the i-th (as digits, rising).");
        int[][] thuds = {{}, {1, 0}, {4, 0}, {5, 0}, {9, 1}, {9, 0}, {9, 0, 9, 0}, {9, 0, 9, 1}, {4, 0, 8, 1}, {8, 1, 4, 0}, {12, 2},
            {13, 2}, {20, 2, 3, 1}, {0, 0}, {30, 3}, {24, 0, 24, 0, 24, 0, 24, 0, 24, 0, 24, 0, 24, 0, 24, 0, 24, 0, 24, 0}};
        for (String play : new String[] {"A4", "A4,B8", "A4,B8,C12", "A4,A9,B20,C21", "D9,C9,B9,A9", "C20,A20,C22,A24"}) {
            for (int[] each : thuds) {
                UnderFloor floor = Kit.floor(Edge.ROW, play);
                for (int i = 0; i < each.length; i += 2) {
                    edge.due("thud", floor.thud(each[i], each[i + 1]), i / 2 + 1);
                }
                List<Integer> fitting = fitting(new Fresh(Edge.ROW, play), 0, each);
                edge.due("fit of " + play, floor.fit(0, NONE), fitting.size());
                for (int i = 0; i < fitting.size(); i++) {
                    edge.due("fit " + i + " of " + play, floor.fit(0, i), fitting.get(i));
                }
                edge.due("fit beyond", floor.fit(0, fitting.size()), NONE);
            }
        }
    }

    private void fitOfEight() {
        UnderFloor floor = Kit.floor(Edge.ROW, "A4,B8,C12,D16,E20,F24,G28,H32");
        edge.due("all of eight", floor.fit(0, NONE), 40320);
        edge.due("the first", floor.fit(0, 0), 1234567);
        edge.due("the second", floor.fit(0, 1), 1234576);
        edge.due("the last that begins with A", floor.fit(0, 5039), 7654321);
        edge.due("the first that begins with B", floor.fit(0, 5040), 10234567);
        edge.due("the last", floor.fit(0, 40319), 76543210);
        edge.due("one beyond", floor.fit(0, 40320), NONE);
        for (int i = 0; i < 8; i++) {
            edge.due("a thud at each", floor.thud(4 * i + 2, i), i + 1);
            edge.due("still the first", floor.fit(0, 0), 1234567);
        }
        edge.due("one alone", floor.fit(0, NONE), 1);
        edge.due("a thud beyond", floor.thud(33, 7), 9);
        edge.due("none", floor.fit(0, NONE), 0);
        edge.due("the first of none", floor.fit(0, 0), NONE);
    }

    private void fitRefused() {
        edge.promise(28);
        edge.says(": FIT: how many (i NONE), the i-th.");
        edge.still(Setup.OPEN, "fit", 6, f -> f.fit(0, NONE));
        edge.still(Setup.OPEN, "fit 0", 123, f -> f.fit(0, 0));
        edge.still(Setup.OPEN, "fit 5", 321, f -> f.fit(0, 5));
        edge.still(Setup.FULL, "fit of one", 1, f -> f.fit(3, NONE));
        edge.still(Setup.FULL, "fit 0 of one", 0, f -> f.fit(3, 0));
        edge.cantBeIs("fit, of which there are none", 0, (f, play) -> f.fit(play, NONE));
        fitOfNone("*A#B", "B1");
        fitOfNone("*A#B", "C1");
        fitOfNone("*A#B", "B1,A5");
        fitOfNone("*A#B", "A1,B5");
        fitOfNone("*A#B", "C1,A5,A6");
        fitOfNone("*A#B", "A1,A5,C6");
        fitOfNone("*A#B", "A1,C5,A6");
        edge.says("NONE: no such one, no such PLAY, no CELLAR.");
        edge.cantBe("fit 0", (f, play) -> f.fit(play, 0));
        for (int i = NONE; i <= 1; i++) {
            int each = i;
            edge.noPlay("fit " + i, (f, play) -> f.fit(play, each));
            edge.noCellar("fit " + i, (f, play) -> f.fit(play, each));
        }
        for (Setup setup : Setup.values()) {
            edge.refuses(setup, "fit", NONE, (f, i) -> f.fit(0, i), -2, -3, 6, 24);
        }
        edge.refuses(Setup.FULL, "fit of one", NONE, (f, i) -> f.fit(3, i), -2, 1);
    }

    /** Without THUDS all ORDERS fit, but those with a CUE that can't be DONE are none. */
    private void fitOfNone(String cellar, String play) {
        UnderFloor floor = Kit.floor(cellar, play);
        edge.due("fit of " + play + " that can't be", floor.fit(0, NONE), 0);
        edge.due("the first of " + play, floor.fit(0, 0), NONE);
        floor.thud(2, 0);
        edge.due("with a thud, of " + play, floor.fit(0, NONE), 0);
    }

    private void boyIs(UnderFloor floor, int place, int stoop, int some, int lates) {
        edge.due("boy(0, " + place + ", " + stoop + ", 0)", floor.boy(0, place, stoop, 0), some);
        edge.due("boy(0, " + place + ", " + stoop + ", 1)", floor.boy(0, place, stoop, 1), lates);
    }

    /** The CELLAR as the BOY has it: START where he stands (at a free PLACE). */
    private static String boys(String cellar, int place) {
        int width = (cellar + "/").indexOf('/');
        StringBuilder text = new StringBuilder(cellar.replace('*', '.'));
        text.setCharAt(place / 10 * (width + 1) + place % 10, '*');
        return text.toString();
    }

    private static String part(String play, int some) {
        StringBuilder part = new StringBuilder(",");
        String[] cues = play.split(",");
        for (int cue = 0; cue < cues.length; cue++) {
            part.append((some >> cue & 1) == 1 ? "," + cues[cue] : "");
        }
        return part.length() == 1 ? "" : part.substring(2);
    }

    private static int least(String cellar, int stoop, String play) {
        if (play.isEmpty()) {
            return 0;
        }
        UnderFloor floor = Kit.floor(cellar, play);
        floor.set(0, stoop);
        return floor.best(0, 0, 1);
    }

    private void boy() {
        edge.terms();
        edge.says("BOY: he stands at a PLACE, stoops by a STOOP of his own: of all sets of CUES that he takes"
            + " (the HAND has the rest; each in its best ORDER) that with the least LATE of both together");
        String[] cellars = {"*.A.B/.##.#/C...D", "*.A#B/..###/CD...", "A*B/.C.", "*##../#A.B."};
        String[] plays = {"A4", "A0,B0", "A5,B9,A9", "B4,A9,C9", "A4,C4,B4,D4", "D5,E9"};
        for (String cellar : cellars) {
            for (String play : plays) {
                for (int at = 0; at < 50; at++) {
                    int place = at % 25 / 5 * 10 + at % 5;
                    if (Kit.floor(cellar).at(place) == 0) {
                        boyByHand(cellar, play, place, at < 25 ? 1 : 9, at < 25 ? 2 : 1);
                    }
                }
            }
        }
        boyByHand("HGF.ABC/*..DE..", "A0,B0,C0,D0,E0,F0,G0,H0", 3, 2, 1);
        boyByHand("*......./.ABCDEFG/.......H", "A9,B9,C9,D9,E20,F20,G20,H20", 26, 1, 3);
        boyByHand("*......./.ABCDEFG/......H.", "A9,B9,C9,D9,E20,F20,G20,H20", 27, 3, 1);
        UnderFloor floor = Kit.floor(Edge.ROW, "A4,H4");
        boyIs(floor, 8, 1, 2, 0);
        boyIs(floor, 0, 1, 1, 0 + 7);
        boyIs(floor, 1, 9, 1, 7);
        for (int stoop = 1; stoop <= 9; stoop++) {
            boyIs(Kit.floor("*......A", "A0"), 6, stoop, stoop < 7 ? 1 : 0, 3 + Math.min(7, stoop));
        }
    }

    private void boyByHand(String cellar, String play, int place, int hands, int boys) {
        int which = NONE;
        int least = NONE;
        for (int some = 0; some < 1 << play.split(",").length; some++) {
            int his = least(boys(cellar, place), boys, part(play, some));
            int rest = least(cellar, hands, part(play, (1 << play.split(",").length) - 1 - some));
            boolean can = his != NONE && rest != NONE;
            which = can && (least == NONE || his + rest < least) ? some : which;
            least = which == some ? his + rest : least;
        }
        UnderFloor floor = Kit.floor(cellar, play);
        floor.set(0, hands);
        edge.due("boy at " + place + " in " + cellar + " with " + play, floor.boy(0, place, boys, 0), which);
        edge.due("lates with him", floor.boy(0, place, boys, 1), least);
    }

    private void boyTies() {
        edge.says("(of several the least bits); how much that is.");
        boyIs(Kit.floor(Edge.ROW, "A99"), 1, 1, 0, 0);
        boyIs(Kit.floor(Edge.ROW, "A99,B199"), 1, 1, 0, 0);
        boyIs(Kit.floor(Edge.ROW, "A4"), 0, 1, 0, 0);
        boyIs(Kit.floor(Edge.ROW, "A0"), 0, 1, 0, 4);
        boyIs(Kit.floor("A*B", "A0,B0"), 1, 1, 1, 8);
        boyIs(Kit.floor("A*B", "B0,A0"), 1, 1, 1, 8);
        boyIs(Kit.floor("A*B/.C.", "A4,B4,C9"), 1, 1, 1, 0);
        boyIs(Kit.floor("*A", "A0,A0,A0,A0"), 0, 1, 3, 2 * 4 + 2 * 7);
        boyIs(Kit.floor("*A", "A0,A0,A0,A0,A0,A0,A0,A0"), 0, 1, 15, 2 * (4 + 7 + 10 + 13));
        boyIs(Kit.floor("*#ABCD/##EFGH", "A99,B199,C299,D399,E499,F599,G699,H799"), 2, 1, 255, 0);
        boyIs(Kit.floor("*A#B", "B0,A0"), 3, 1, 1, 3 + 4);
        boyIs(Kit.floor("*A#B", "A0,B0"), 3, 9, 2, 3 + 4);
    }

    private void boyRefused() {
        edge.promise(29);
        edge.says(": BOY: his CUES as bits (0), LATES (1).");
        edge.still(Setup.OPEN, "boy by whom it can be", 2, f -> f.boy(1, 40, 1, 0));
        edge.still(Setup.OPEN, "lates by him", 2, f -> f.boy(1, 40, 1, 1));
        for (int place : new int[] {0, 1, 2, 4, 40, 41, 43, 44}) {
            edge.still(Setup.FULL, "boy at " + place, 0, f -> Math.min(0, f.boy(3, place, 9, 0)));
        }
        edge.says("NONE: it can't be, no such ones (stoop 1 .. 9; a PLACE that is no POST).");
        for (int what = 0; what < 2; what++) {
            int each = what;
            edge.noPlay("boy, what " + what, (f, play) -> f.boy(play, 0, 1, each));
            edge.noCellar("boy, what " + what, (f, play) -> f.boy(play, 0, 1, each));
            edge.cantBe("boy, what " + what, (f, play) -> f.boy(play, 0, 1, each));
            for (Setup setup : Setup.values()) {
                edge.refuses(setup, "boy by stoop", NONE, (f, stoop) -> f.boy(0, 0, stoop, each), -1, 0, 10);
                edge.refuses(setup, "boy at", NONE, (f, place) -> f.boy(0, place, 1, each), -1, 5, 9, 50, 60, 3, 12, 13, 30, 42);
            }
        }
        edge.noHalf("boy", (f, what) -> f.boy(0, 0, 1, what));
        UnderFloor wall = Kit.floor("*.A#B", "A5,B5");
        edge.due("neither comes there", wall.boy(0, 2, 1, 0), NONE);
        edge.due("he comes there", wall.boy(0, 4, 1, 0), 2);
        wall.knock(3);
        edge.due("where a post was", wall.boy(0, 3, 1, 0), 2);
    }

    /** Calls that are refused, all on one object: none of them may leave anything behind. */
    private void allRefused() {
        edge.terms();
        edge.says("What is refused answers as told and changes nothing.");
        for (Setup setup : Setup.values()) {
            UnderFloor floor = setup.floor();
            for (int v : Edge.BEYOND) {
                edge.due("all with " + v, refused(floor, v), 0);
            }
            edge.due(setup + " after all that is refused", Look.at(floor).equals(setup.seen()), true);
        }
    }

    /** How many of these calls with a number beyond all bounds were not refused. */
    private static int refused(UnderFloor f, int v) {
        int[] none = {f.text(v), f.at(v), f.way(v, v), f.cue(v, v, v), f.order(v, v, v), f.done(v, v, v, v), f.where(v, v, v),
            f.best(v, v, v), f.met(v, v), f.knot(v), f.age(v), f.post(v, v), f.rope(v, v), f.exchange(v, v - 1, v), f.skip(v, v, v),
            f.nights(v, v, v), f.thud(v, v), f.fit(v, v), f.boy(v, v, v, v), f.out(v), f.walk(v, v, v), f.mend(v, v, v), f.slack(v, v),
            f.urgent(v), f.pillar(v, v), Kit.crank(f, v) + 1, f.fault(v) + 1, f.count(v) - Edge.HIDDEN - 1};
        boolean[] not = {f.end(v), f.set(v, v), f.set(0, v), f.set(1, v), f.set(2, v), f.wind(v, v), f.swap(v, v - 1), f.knock(v)};
        int taken = 0;
        for (int answer : none) {
            taken += answer == NONE ? 0 : 1;
        }
        for (boolean answer : not) {
            taken += answer ? 1 : 0;
        }
        return taken;
    }
}
