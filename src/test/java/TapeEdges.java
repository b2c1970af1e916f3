/** Promises 1 to 5: a new object, the tape, what is taken from it. */
final class TapeEdges {
    private static final int NONE = Edge.NONE;

    private final Edge edge;

    private TapeEdges(Edge edge) {
        this.edge = edge;
    }

    static void all(Edge edge) {
        TapeEdges edges = new TapeEdges(edge);
        edges.newObject();
        edges.order();
        edges.room();
        edges.end();
        edges.fault();
        edges.cellarTaken();
        edges.numbersOfTexts();
        edges.refusedTexts();
    }

    private void newObject() {
        edge.promise(1);
        edge.says("No CELLAR, no PLAYS.");
        UnderFloor floor = new UnderFloor();
        for (int place = 0; place < 60; place++) {
            edge.due("at " + place, floor.at(place), NONE);
            edge.due("way to itself of " + place, floor.way(place, place), NONE);
        }
        for (int crank = 0; crank < 8; crank++) {
            edge.due("crank " + crank, Kit.crank(floor, crank), -2);
            edge.due("out " + crank, floor.out(crank), NONE);
        }
        for (int play = 0; play < 5; play++) {
            edge.due("cues of " + play, floor.cue(play, NONE, 0), NONE);
            edge.due("age of " + play, floor.age(play), NONE);
        }
        int[] counts = {0, 0, 0, 0, 1, 0, NONE, 0, 0};
        for (int what = 0; what < counts.length; what++) {
            edge.due("count " + what, floor.count(what), counts[what]);
        }
        edge.due("first", floor.first(), NONE);
        edge.due("dead", floor.dead(), NONE);
        edge.due("image", floor.image(), NONE);
        edge.due("back", floor.back(), NONE);
        edge.due("a law", floor.set(2, 0), false);
    }

    /** 160 bytes at most, made of texts of twenty: the numbers of five. */
    private static int feed(UnderFloor floor, int... n) {
        return floor.feed(n[0], n[1], n[2], n[3], n[4]);
    }

    /** Twenty bytes of 7, but for those of 0 behind the first so many. */
    private static int[] bytes(int some) {
        return Kit.numbers(Edge.times(some, "\7"));
    }

    private static UnderFloor fed(int bytes) {
        UnderFloor floor = new UnderFloor();
        for (int rest = bytes; rest > 0; rest -= 20) {
            feed(floor, bytes(Math.min(20, rest)));
        }
        return floor;
    }

    private void order() {
        edge.promise(2);
        edge.says("(of each number the highest first");
        String law = "y:1+2+3+4+5+6+7+8+90";
        for (int i = 0; i < 20; i++) {
            UnderFloor floor = new UnderFloor();
            edge.due("feed", feed(floor, Kit.numbers(law.substring(0, i) + "~" + law.substring(i + 1))), 20);
            edge.due("where byte " + i + " is", floor.fault(2), i);
            feed(floor, Kit.numbers("~"));
            edge.due("where it is when more has come", floor.fault(2), i);
        }
        for (int shift = 0; shift < 32; shift += 8) {
            edge.due("a number with one byte", new UnderFloor().feed(0, 0, 255 << shift, 0, 0), 1);
        }
        edge.says("; bytes of 0 are left out)");
        String shorter = "y:1+2+3+4+5+6+7+8+9";
        for (int i = 0; i < 20; i++) {
            UnderFloor floor = new UnderFloor();
            edge.due("feed with a hole at " + i, feed(floor, Kit.numbers(shorter.substring(0, i) + "\0" + shorter.substring(i))), 19);
            edge.due("its fault", floor.fault(2), NONE);
        }
        UnderFloor holes = new UnderFloor();
        edge.due("feed holes alone", holes.feed(0, 0, 0, 0, 0), 0);
        edge.due("feed one among holes", holes.feed(0, 0, 0, 0, 'A'), 1);
        edge.due("feed holes again", holes.feed(0, 0, 0, 0, 0), 1);
        edge.due("feed one more", holes.feed('1', 0, 0, 0, 0), 2);
        edge.due("text", holes.text(1), 0);
    }

    private void room() {
        edge.says("Twenty bytes more come to the TAPE");
        UnderFloor floor = new UnderFloor();
        for (int i = 1; i <= 8; i++) {
            edge.due("feed " + i + " times", floor.feed(-1, -1, -1, -1, -1), 20 * i);
        }
        edge.says(": how many it has.");
        for (int some = 0; some <= 20; some++) {
            edge.due("feed " + some, feed(new UnderFloor(), bytes(some)), some);
            edge.due("feed 7 and " + some, feed(fed(7), bytes(some)), 7 + some);
        }
        edge.due("feed none to a full tape", fed(160).feed(0, 0, 0, 0, 0), 160);
        edge.says("NONE: more than 160.");
        for (int some = 1; some <= 20; some++) {
            UnderFloor full = fed(160);
            edge.due("feed " + some + " to a full tape", feed(full, bytes(some)), NONE);
            edge.due("has then", full.count(3), 160);
            edge.due("feed " + some + " to 160 less as many", feed(fed(160 - some), bytes(some)), 160);
            UnderFloor fuller = fed(161 - some);
            edge.due("feed " + some + " to one more", feed(fuller, bytes(some)), NONE);
            edge.due("has then", fuller.count(3), 161 - some);
        }
        for (int shift = 0; shift < 32; shift += 8) {
            edge.due("one byte too many, the first number", fed(160).feed(1 << shift, 0, 0, 0, 0), NONE);
            edge.due("one byte too many, the last number", fed(160).feed(0, 0, 0, 0, 1 << shift), NONE);
        }
        String law = "y:" + Edge.times(78, "1+") + "11";
        edge.fault(2, law, NONE);
        edge.fault(2, law.substring(0, 159) + "~", 159);
        edge.fault(2, law.substring(0, 159) + "+", 160);
        edge.still(Setup.FULL, "feed one", NONE, f -> f.feed(0, 0, 0, 0, 1));
        edge.still(Setup.FULL, "feed twenty", NONE, f -> f.feed(-1, -1, -1, -1, -1));
        edge.still(Setup.FULL, "feed none", 160, f -> f.feed(0, 0, 0, 0, 0));
    }

    private void end() {
        edge.promise(3);
        edge.says("The TAPE has its first n bytes alone.");
        for (int n = 0; n <= 6; n++) {
            UnderFloor floor = new UnderFloor();
            Kit.tape(floor, "A1,B23");
            edge.due("end " + n, floor.end(n), true);
            edge.due("has then", floor.count(3), n);
            edge.due("fault then", floor.fault(1), n == 2 || n == 5 || n == 6 ? NONE : n);
        }
        UnderFloor floor = fed(160);
        edge.due("end 160", floor.end(160), true);
        edge.due("end 159", floor.end(159), true);
        edge.due("more comes behind", floor.feed(8, 0, 0, 0, 0), 160);
        Kit.tape(floor, "A1,B23");
        floor.end(4);
        feed(floor, Kit.numbers("9"));
        edge.due("text", floor.text(1), 0);
        edge.due("what came behind", floor.cue(0, 1, 1), 9);
        edge.says("False: n.");
        edge.due("end 0 of none", new UnderFloor().end(0), true);
        edge.still(Setup.NEW, "end 1 of none", 0, f -> Edge.told(f.end(1)));
        edge.still(Setup.OPEN, "end 5 of five", 1, f -> Edge.told(f.end(5)));
        edge.still(Setup.OPEN, "end 6 of five", 0, f -> Edge.told(f.end(6)));
        edge.still(Setup.OPEN, "end -1", 0, f -> Edge.told(f.end(-1)));
        edge.still(Setup.FULL, "end 161", 0, f -> Edge.told(f.end(161)));
        for (int n : Edge.BEYOND) {
            edge.still(Setup.OPEN, "end " + n, 0, f -> Edge.told(f.end(n)));
        }
    }

    private void fault() {
        edge.promise(4);
        edge.says("The FAULT of the TAPE as a CELLAR (0), a PLAY (1), a LAW (2).");
        String[] texts = {"*A", "A1", "y:1"};
        int[][] due = {{NONE, 0, 0}, {1, NONE, 0}, {0, 0, NONE}};
        for (int i = 0; i < 3; i++) {
            for (int sort = 0; sort < 3; sort++) {
                edge.fault(sort, texts[i], due[i][sort]);
            }
        }
        edge.still(Setup.OPEN, "fault as a cellar", 1, f -> f.fault(0));
        edge.still(Setup.OPEN, "fault as a law", 0, f -> f.fault(2));
        edge.says("NONE: none.");
        edge.still(Setup.OPEN, "fault as a play", NONE, f -> f.fault(1));
        UnderFloor full = Setup.FULL.floor();
        Kit.tape(full, "A1,B2");
        edge.due("fault as a play, of which there are so many", full.fault(1), NONE);
        edge.says("-2: no such sort.");
        for (Setup setup : Setup.values()) {
            edge.still(setup, "fault -1", -2, f -> f.fault(-1));
            edge.still(setup, "fault 3", -2, f -> f.fault(3));
        }
        for (int sort : Edge.BEYOND) {
            edge.due("fault " + sort, new UnderFloor().fault(sort), -2);
        }
    }

    private void cellarTaken() {
        edge.promise(5);
        edge.says("The TAPE (empty then) is the CELLAR (STOOP, WIND as at first; no IMAGE, no THUDS)");
        UnderFloor floor = Setup.FULL.floor();
        int night = floor.count(5);
        edge.due("another", Kit.text(floor, 0, "A*./.B#"), 2);
        int[] counts = {2, 5, 4, 0, 1, night, 0, 0, 1};
        for (int what = 0; what < counts.length; what++) {
            edge.due("count " + what, floor.count(what), counts[what]);
        }
        int[] at = {3, 2, 0, NONE, NONE, NONE, NONE, NONE, NONE, NONE, 0, 4, 1, NONE};
        for (int place = 0; place < 60; place++) {
            edge.due("at " + place, floor.at(place), place < at.length ? at[place] : NONE);
        }
        int[] cranks = {0, 11, -2, -2, -2, -2, -2, -2};
        for (int crank = 0; crank < 8; crank++) {
            edge.due("crank " + crank, Kit.crank(floor, crank), cranks[crank]);
        }
        edge.due("wind as at first", floor.done(3, 0, 0, 2), 1);
        edge.due("wound as at first", floor.order(3, 0, 3), Math.max(1 + 3, floor.cue(3, 0, 2)));
        edge.due("no image", floor.back(), NONE);
        edge.due("all fits, without thuds", floor.fit(3, NONE), 1);
        UnderFloor same = Kit.floor("*AB", "A0,B0");
        same.wind(0, 30);
        same.wind(1, 30);
        same.set(0, 9);
        Kit.text(same, 0, "*AB");
        edge.due("the same one anew", same.order(0, 1, 3), 1 + 3 + 1 + 3);
        edge.says(": how many CRANKS");
        for (int cranksOf = 1; cranksOf <= 8; cranksOf++) {
            String cellar = "*HGFEDCBA".substring(0, cranksOf + 1);
            edge.due("text of " + cellar, Kit.text(new UnderFloor(), 0, cellar), cranksOf);
        }
    }

    private void numbersOfTexts() {
        edge.says("; a PLAY, a LAW: its number.");
        UnderFloor floor = new UnderFloor();
        for (int i = 0; i < 5; i++) {
            edge.due("play " + i, Kit.text(floor, 1, "H" + i), i);
            edge.due("the tape is empty", floor.count(3), 0);
        }
        for (int i = 0; i < 4; i++) {
            edge.due("law " + i, Kit.text(floor, 2, "y:" + i), i);
            edge.due("the tape is empty", floor.count(3), 0);
        }
        for (int play = 0; play < 5; play++) {
            edge.due("number of play " + play, floor.cue(play, 0, 1), play);
            for (int law = 0; law < 4; law++) {
                floor.set(2, law);
                edge.due("time of play " + play + " by law " + law, floor.cue(play, 0, 2), play + law);
            }
        }
    }

    private void refusedTexts() {
        edge.says("NONE: a FAULT, no such sort, there are so many.");
        for (Setup setup : Setup.values()) {
            edge.still(setup, "text -1", NONE, f -> f.text(-1));
            edge.still(setup, "text 3", NONE, f -> f.text(3));
            edge.still(setup, "text(0) with a fault", NONE, f -> f.text(0));
            edge.still(setup, "text(2) with a fault", NONE, f -> f.text(2));
        }
        for (int sort : Edge.BEYOND) {
            edge.due("text " + sort, Setup.OPEN.floor().text(sort), NONE);
        }
        for (int sort : new int[] {-1, 3, 4, Edge.BEYOND[0], Edge.BEYOND[1], Edge.BEYOND[2], Edge.BEYOND[3]}) {
            noSort(sort);
        }
        edge.still(Setup.NEW, "text(1) of nothing", NONE, f -> f.text(1));
        edge.still(Setup.FULL, "text(1) with a fault", NONE, f -> f.text(1));
        refusedFor(1, "H1");
        refusedFor(2, "y:7");
    }

    /** A tape that is right as one sort is not taken as one that there isn't. */
    private void noSort(int sort) {
        String[] right = {"*A.", "A1,B2", "y:1"};
        for (int i = 0; i < right.length; i++) {
            UnderFloor floor = new UnderFloor();
            edge.due("text(" + sort + ") of " + right[i], Kit.text(floor, sort, right[i]), NONE);
            edge.due("the tape stays", floor.count(3), right[i].length());
            edge.due("nothing is taken", floor.count(0) + floor.count(1) + floor.count(2), 0);
            edge.due("the fault as no such sort", floor.fault(sort), -2);
            edge.due("it can still be taken", floor.text(i), i == 0 ? 1 : 0);
        }
    }

    /** One more of a sort than there can be: the tape stays, and can still be taken as another sort. */
    private void refusedFor(int sort, String text) {
        UnderFloor floor = Setup.FULL.floor();
        int many = floor.count(sort);
        Kit.tape(floor, text);
        edge.due("one more than " + many, floor.text(sort), NONE);
        edge.due("how many there are", floor.count(sort), many);
        edge.due("the tape stays", floor.count(3), text.length());
        edge.due("the tape has no fault", floor.fault(sort), NONE);
        floor.end(0);
        Kit.tape(floor, "y:" + Edge.times(79, "1+"));
        edge.due("all else stays", Look.at(floor).equals(Setup.FULL.seen()), true);
    }
}
