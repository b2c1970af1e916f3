/** The CELLAR and what is told by hand: promises 6 to 8, 10 to 13, 30, 35, 37 to 39. */
final class CellarEdges {
    private static final int NONE = Edge.NONE;
    private static final int HIDDEN = Edge.HIDDEN;
    /** The longest WAY that a test here has: 33 STEPS from START to A. */
    private static final String SNAKE = "*#...#.../.#.#.#.#./.#.#.#.#./.#.#.#.#./.#.#.#.#./...#...#A";
    /** The greatest: no STEP goes from START, 51 PLACES are beyond. */
    private static final String SHUT = "*#......./#......../........./........./........./........A";

    private final Edge edge;

    private CellarEdges(Edge edge) {
        this.edge = edge;
    }

    static void all(Edge edge) {
        CellarEdges edges = new CellarEdges(edge);
        edges.steps();
        edges.stoops();
        edges.winds();
        edges.nights();
        edges.crank();
        edges.at();
        edges.way();
        edges.set();
        edges.wind();
        edges.swap();
        edges.knock();
        edges.out();
        edges.dead();
        edges.images();
        edges.backs();
        edges.counts();
        edges.constants();
    }

    private void steps() {
        edge.terms();
        edge.says("A STEP goes from a PLACE to one above, below, left or right that is no POST");
        UnderFloor open = Kit.floor(".../.*./..A");
        for (int beside : new int[] {1, 10, 12, 21}) {
            edge.due("one step to " + beside, open.way(11, beside), 1);
            edge.due("one step from " + beside, open.way(beside, 11), 1);
        }
        for (int corner : new int[] {0, 2, 20, 22}) {
            edge.due("two steps to " + corner, open.way(11, corner), 2);
        }
        edge.due("no step across a corner", Kit.floor("*#/#A").way(0, 11), NONE);
        edge.due("no step to a post", Kit.floor("*#/.A").way(0, 1), NONE);
        edge.due("a step from a crank to a crank", Kit.floor("*AB").way(0, 2), 2);
        edge.due("a step over START", Kit.floor("A*B").way(0, 2), 2);
        edge.due("no step from the last of a row to the first of the next", Kit.floor("#######.*/A########").way(8, 10), NONE);
        edge.due("no step from the last of two to the first of the next", Kit.floor("#*/A#").way(1, 10), NONE);
        edge.due("no step from the last row to the first", Kit.floor("*./##/##/##/##/A.").way(0, 50), NONE);
        edge.due("no step from the first of a row to the last of it", Kit.floor("*#......A").way(0, 8), NONE);
        edge.says("WAY from a PLACE to a PLACE: the fewest STEPS.");
        String[] cellars = {"*A", "*./#A", SNAKE, SHUT, Setup.CELLAR, "*.......A/........./........./........./........./.........",
            "..#..../.##.#.#/....#.A/#.#.#../*...#.#", "*#.#.#.#A/#.#.#.#.#", "A......../.#######./.#.....#./.#.#####./.#......./*########"};
        for (String cellar : cellars) {
            allWays(cellar);
        }
        edge.due("the longest", Kit.floor(SNAKE).way(0, 58), 33);
        edge.due("the longest back", Kit.floor(SNAKE).way(58, 0), 33);
        edge.due("from corner to corner", Kit.floor(cellars[5]).way(0, 58), 13);
    }

    /** All WAYS of a CELLAR, held against those found by shortening ever more. */
    private void allWays(String cellar) {
        Fresh fresh = new Fresh(cellar);
        int far = 1000;
        boolean[] open = new boolean[60];
        for (int place = 0; place < 60; place++) {
            int at = fresh.floor().at(place);
            open[place] = at != NONE && at != 1;
        }
        int[][] ways = new int[60][60];
        for (int from = 0; from < 60; from++) {
            for (int to = 0; to < 60; to++) {
                int apart = Math.abs(from / 10 - to / 10) + Math.abs(from % 10 - to % 10);
                ways[from][to] = open[from] && open[to] && apart < 2 ? apart : far;
            }
        }
        for (int over = 0; over < 60; over++) {
            for (int from = 0; from < 60; from++) {
                for (int to = 0; to < 60; to++) {
                    ways[from][to] = Math.min(ways[from][to], ways[from][over] + ways[over][to]);
                }
            }
        }
        for (int from = 0; from < 60; from++) {
            for (int to = 0; to < 60; to++) {
                int want = ways[from][to] < far ? ways[from][to] : NONE;
                edge.due("way " + from + " " + to + " in " + cellar, fresh.floor().way(from, to), want);
            }
        }
    }

    private void stoops() {
        edge.says("; it takes STOOP seconds (1 .. 9; 1 at first).");
        UnderFloor floor = Kit.floor("*...A", "A0");
        edge.due("1 at first", floor.count(4), 1);
        edge.due("seconds at first", floor.done(0, 0, 0, 2), 4);
        for (int stoop = 1; stoop <= 9; stoop++) {
            edge.due("set stoop " + stoop, floor.set(0, stoop), true);
            edge.due("it is told", floor.count(4), stoop);
            edge.due("come to after four steps of " + stoop, floor.done(0, 0, 0, 2), 4 * stoop);
            edge.due("steps are no seconds", floor.way(0, 4), 4);
        }
        edge.due("set stoop 0", floor.set(0, 0), false);
        edge.due("set stoop 10", floor.set(0, 10), false);
        edge.due("still 9", floor.done(0, 0, 0, 2), 36);
        UnderFloor snake = Kit.floor(SNAKE, "A0");
        snake.set(0, 9);
        edge.due("the longest with the greatest", snake.done(0, 0, 0, 2), 297);
    }

    private void winds() {
        edge.says("Each CRANK takes WIND seconds (1 .. 30; 3 at first).");
        for (int crank = 0; crank < 8; crank++) {
            UnderFloor floor = Kit.floor(Edge.ROW, "A0,B0,C0,D0,E0,F0,G0,H0");
            edge.due("wound at first " + crank, wound(floor, crank), 3);
            for (int wind = 1; wind <= 30; wind++) {
                edge.due("wind " + crank + " " + wind, floor.wind(crank, wind), true);
                edge.due("wound " + crank, wound(floor, crank), wind);
                edge.due("the next is as at first", wound(floor, (crank + 1) % 8), 3);
                edge.due("the one ahead is as at first", wound(floor, (crank + 7) % 8), 3);
            }
            edge.due("wind " + crank + " 0", floor.wind(crank, 0), false);
            edge.due("wind " + crank + " 31", floor.wind(crank, 31), false);
            edge.due("still wound", wound(floor, crank), 30);
        }
    }

    private static int wound(UnderFloor floor, int cue) {
        return floor.done(0, 1234567, cue, 0) - floor.done(0, 1234567, cue, 2);
    }

    private void nights() {
        edge.says("TIMES of a PLAY's CUES in a NIGHT (0 .. 99; 0 at first): ");
        UnderFloor floor = new UnderFloor();
        Kit.text(floor, 1, "A7");
        Kit.text(floor, 2, "y:n");
        floor.set(2, 0);
        edge.due("0 at first", floor.count(5), 0);
        edge.due("its time", floor.cue(0, 0, 2), 7);
        for (int night = 0; night <= 99; night++) {
            edge.due("set night " + night, floor.set(1, night), true);
            edge.due("it is told", floor.count(5), night);
            edge.due("its time in night " + night, floor.cue(0, 0, 2), 7 + night);
        }
        edge.due("set night 100", floor.set(1, 100), false);
        edge.due("set night -1", floor.set(1, -1), false);
        edge.due("still 99", floor.count(5), 99);
    }

    private void crank() {
        edge.promise(6);
        edge.says(": Where a CRANK (0 .. 7) is.");
        UnderFloor floor = Kit.floor("HG......./F......../......*../........./........E/DC......A");
        int[] places = {58, NONE, 51, 50, 48, 10, 1, 0};
        for (int crank = 0; crank < 8; crank++) {
            edge.due("crank " + crank, Kit.crank(floor, crank), crank == 1 ? -2 : places[crank]);
        }
        edge.says("NoSuchElementException: it is not in the CELLAR, no CELLAR.");
        for (Setup setup : Setup.values()) {
            edge.still(setup, "crank F, which is not there", -2, f -> Kit.crank(f, Setup.ABSENT));
            edge.refuses(setup, "crank", -2, Kit::crank, -1, 8);
        }
        for (int crank = 0; crank < 8; crank++) {
            int each = crank;
            edge.still(Setup.NEW, "crank " + crank, -2, f -> Kit.crank(f, each));
            edge.still(Setup.NO_CELLAR, "crank " + crank, -2, f -> Kit.crank(f, each));
        }
        edge.still(Setup.OPEN, "crank A", 2, f -> Kit.crank(f, 0));
        edge.still(Setup.OPEN, "crank E, which is walled off", 40, f -> Kit.crank(f, Setup.WALLED));
    }

    private void at() {
        edge.promise(7);
        edge.says(": What is at a PLACE: 0 nothing, 1 a POST, 2 START, 3 and more: a CRANK and 3.");
        int[][] rows = {{2, 0, 3, 1, 4}, {0, 0, 1, 1, 0}, {5, 0, 0, 0, 0}, {1, 1, 1, 1, 6}, {7, 1, 1, 0, 1}};
        UnderFloor floor = Kit.floor(Setup.CELLAR);
        for (int place = -20; place < 120; place++) {
            boolean there = place >= 0 && place < 50 && place % 10 < 5;
            edge.due("at " + place, floor.at(place), there ? rows[place / 10][place % 10] : NONE);
        }
        UnderFloor last = Kit.floor("FGH/.*.");
        for (int place = 0; place < 3; place++) {
            edge.due("at the last cranks", last.at(place), 8 + place);
        }
        edge.says("NONE: no such PLACE.");
        for (Setup setup : Setup.values()) {
            edge.refuses(setup, "at", NONE, UnderFloor::at, -1, 5, 9, 15, 45, 50, 59, 60, 100);
        }
        edge.refuses(Setup.NEW, "at", NONE, UnderFloor::at, 0, 1, 58);
        edge.still(Setup.OPEN, "at 2", 3, f -> f.at(2));
    }

    private void way() {
        edge.promise(8);
        edge.says(": WAY.");
        edge.still(Setup.OPEN, "way 0 34", 7, f -> f.way(0, 34));
        edge.still(Setup.OPEN, "way 34 0", 7, f -> f.way(34, 0));
        edge.still(Setup.OPEN, "way to itself", 0, f -> f.way(0, 0));
        edge.still(Setup.OPEN, "way to itself, walled off", 0, f -> f.way(40, 40));
        edge.still(Setup.OPEN, "way behind a post that is away", 2, f -> f.way(34, 43));
        edge.says("NONE: none, no such PLACES, POSTS.");
        edge.still(Setup.OPEN, "way to what is walled off", NONE, f -> f.way(0, 40));
        edge.still(Setup.OPEN, "way from what is walled off", NONE, f -> f.way(40, 0));
        for (int post : new int[] {3, 12, 13, 30, 42}) {
            edge.still(Setup.OPEN, "way to a post " + post, NONE, f -> f.way(0, post));
            edge.still(Setup.OPEN, "way from a post " + post, NONE, f -> f.way(post, 0));
            edge.still(Setup.OPEN, "way of a post " + post, NONE, f -> f.way(post, post));
        }
        edge.still(Setup.OPEN, "way of two posts side by side", NONE, f -> f.way(12, 13));
        for (Setup setup : Setup.values()) {
            edge.refuses(setup, "way from", NONE, (f, v) -> f.way(v, 0), -1, 5, 9, 50, 60, -10);
            edge.refuses(setup, "way to", NONE, (f, v) -> f.way(0, v), -1, 5, 9, 50, 60, -10);
            edge.refuses(setup, "way to itself of", NONE, (f, v) -> f.way(v, v), -1, 5, 9, 50, 60, -10);
        }
        edge.still(Setup.NEW, "way to itself", NONE, f -> f.way(0, 0));
        edge.still(Setup.NO_CELLAR, "way", NONE, f -> f.way(0, 1));
    }

    private void set() {
        edge.promise(10);
        edge.says(": STOOP (what 0; not without a CELLAR), NIGHT (1), the LAW that holds (2; NONE: none).");
        for (int stoop = 0; stoop <= 10; stoop++) {
            int each = stoop;
            edge.still(Setup.NEW, "set(0, " + stoop + ")", 0, f -> Edge.told(f.set(0, each)));
            edge.still(Setup.NO_CELLAR, "set(0, " + stoop + ")", 0, f -> Edge.told(f.set(0, each)));
        }
        UnderFloor floor = new UnderFloor();
        Kit.text(floor, 1, "A500");
        edge.due("no law", floor.set(2, NONE), true);
        for (int law = 0; law < 4; law++) {
            edge.due("a law that isn't there yet " + law, floor.set(2, law), false);
            edge.due("its text", Kit.text(floor, 2, "y:" + (law + 10)), law);
            edge.due("it is not the one that holds", floor.count(6), law - 1);
            edge.due("then it is", floor.set(2, law), true);
            edge.due("it is told", floor.count(6), law);
            edge.due("the time by it", floor.cue(0, 0, 2), 510 + law);
            edge.due("the night without a cellar", floor.set(1, 98 + law % 2), true);
        }
        edge.due("none again", floor.set(2, NONE), true);
        edge.due("it is told", floor.count(6), NONE);
        edge.due("the time by none", floor.cue(0, 0, 2), 500);
        edge.says("False: no such ones, out of bounds.");
        for (Setup setup : Setup.values()) {
            edge.refuses(setup, "set what", 0, (f, v) -> Edge.told(f.set(v, 1)), -1, 3);
            edge.refuses(setup, "set what to none", 0, (f, v) -> Edge.told(f.set(v, NONE)), -1, 0, 1, 3);
            edge.refuses(setup, "set stoop", 0, (f, v) -> Edge.told(f.set(0, v)), -1, 0, 10);
            edge.refuses(setup, "set night", 0, (f, v) -> Edge.told(f.set(1, v)), -1, 100);
            edge.refuses(setup, "set the law", 0, (f, v) -> Edge.told(f.set(2, v)), -2, 4);
        }
        edge.still(Setup.NEW, "set the law 0 of none", 0, f -> Edge.told(f.set(2, 0)));
        edge.still(Setup.NO_CELLAR, "set the law 1 of one", 0, f -> Edge.told(f.set(2, 1)));
        edge.still(Setup.OPEN, "set the law 1 of one", 0, f -> Edge.told(f.set(2, 1)));
        edge.still(Setup.OPEN, "set what it is", 1, f -> Edge.told(f.set(0, 2) & f.set(1, 4) & f.set(2, 0)));
    }

    private void wind() {
        edge.promise(11);
        edge.says(": WIND of a CRANK.");
        edge.still(Setup.OPEN, "wind A what it is", 1, f -> Edge.told(f.wind(0, 5)));
        UnderFloor floor = Kit.floor("*A", "A0");
        edge.due("wind", floor.wind(0, 1), true);
        edge.due("the least", floor.order(0, 0, 3), 2);
        edge.due("wind", floor.wind(0, 30), true);
        edge.due("the greatest", floor.order(0, 0, 3), 31);
        edge.says("False: no such one, out of bounds.");
        for (Setup setup : Setup.values()) {
            edge.refuses(setup, "wind A", 0, (f, v) -> Edge.told(f.wind(0, v)), -1, 0, 31);
            edge.refuses(setup, "wind the crank", 0, (f, v) -> Edge.told(f.wind(v, 5)), -1, 8, Setup.ABSENT, 6, 7);
        }
        for (int crank = 0; crank < 8; crank++) {
            int each = crank;
            edge.still(Setup.NEW, "wind " + crank, 0, f -> Edge.told(f.wind(each, 5)));
            edge.still(Setup.NO_CELLAR, "wind " + crank, 0, f -> Edge.told(f.wind(each, 5)));
        }
    }

    private void swap() {
        edge.promise(12);
        edge.says(": Two CRANKS are exchanged.");
        for (int one = 0; one < 8; one++) {
            for (int other = 0; other < 8; other++) {
                UnderFloor floor = Kit.floor(Edge.ROW);
                edge.due("swap " + one + " " + other, floor.swap(one, other), one != other);
                for (int crank = 0; crank < 8; crank++) {
                    int now = crank == one ? other : crank == other ? one : crank;
                    edge.due("crank " + crank + " by swap " + one + " " + other, Kit.crank(floor, crank), 1 + now);
                    edge.due("at " + crank + " by swap " + one + " " + other, floor.at(1 + crank), 3 + now);
                }
            }
        }
        UnderFloor floor = Kit.floor("*A.B", "A0,B0");
        floor.wind(0, 9);
        floor.swap(0, 1);
        edge.due("the wind stays with the crank", floor.done(0, 10, 0, 0) - floor.done(0, 10, 0, 2), 9);
        edge.due("it is where the other was", floor.done(0, 10, 0, 2), 1 + 3 + 2);
        edge.due("back", floor.swap(1, 0), true);
        edge.due("as ahead", Kit.crank(floor, 0), 1);
        edge.says("False: they are not both there, alike.");
        for (Setup setup : Setup.values()) {
            edge.refuses(setup, "swap A and", 0, (f, v) -> Edge.told(f.swap(0, v)), -1, 0, Setup.ABSENT, 7, 8);
            edge.refuses(setup, "swap with A", 0, (f, v) -> Edge.told(f.swap(v, 0)), -1, 0, Setup.ABSENT, 7, 8);
            edge.refuses(setup, "swap itself", 0, (f, v) -> Edge.told(f.swap(v, v)), -1, 0, 4, Setup.ABSENT, 8);
            edge.still(setup, "swap two that aren't there", 0, f -> Edge.told(f.swap(6, 7)));
        }
        edge.still(Setup.NEW, "swap A and B", 0, f -> Edge.told(f.swap(0, 1)));
        edge.still(Setup.NO_CELLAR, "swap A and B", 0, f -> Edge.told(f.swap(0, 1)));
    }

    private void knock() {
        edge.promise(13);
        edge.says(": A POST is taken away.");
        UnderFloor floor = Kit.floor(Setup.CELLAR);
        int posts = 10;
        edge.due("posts at first", floor.count(8), posts);
        for (int place = -11; place < 71; place++) {
            boolean post = floor.at(place) == 1;
            posts -= post ? 1 : 0;
            edge.due("knock " + place, floor.knock(place), post);
            edge.due("at " + place + " then", floor.at(place) == 1, false);
            edge.due("posts then", floor.count(8), posts);
            edge.due("knock " + place + " again", floor.knock(place), false);
        }
        edge.due("no posts", floor.count(8), 0);
        edge.due("a place where one was", floor.at(44), 0);
        edge.due("a way where one was", floor.way(34, 44), 1);
        edge.due("what was behind", floor.way(0, 40), 4);
        edge.says("False: there is none.");
        for (Setup setup : Setup.values()) {
            edge.refuses(setup, "knock", 0, (f, v) -> Edge.told(f.knock(v)), -1, 0, 1, 2, 5, 9, 20, 40, 43, 50, 60);
        }
        edge.refuses(Setup.OPEN, "knock where one was", 0, (f, v) -> Edge.told(f.knock(v)), 41, 44);
        edge.refuses(Setup.NEW, "knock", 0, (f, v) -> Edge.told(f.knock(v)), 3, 12, 44);
    }

    private void out() {
        edge.terms();
        edge.says("OUT of a CRANK: WAY to START.");
        edge.promise(30);
        edge.says(": OUT.");
        UnderFloor row = Kit.floor(Edge.ROW);
        for (int crank = 0; crank < 8; crank++) {
            edge.due("out " + crank, row.out(crank), crank + 1);
        }
        row.set(0, 9);
        edge.due("steps, not seconds", row.out(7), 8);
        edge.due("the longest", Kit.floor(SNAKE).out(0), 33);
        int[] outs = {2, 8, 2, 7};
        for (int crank = 0; crank < 4; crank++) {
            int each = crank;
            edge.still(Setup.OPEN, "out " + crank, outs[crank], f -> f.out(each));
        }
        edge.says("NONE: none, no such CRANK.");
        edge.still(Setup.OPEN, "out of E, walled off", NONE, f -> f.out(Setup.WALLED));
        for (Setup setup : Setup.values()) {
            edge.refuses(setup, "out", NONE, UnderFloor::out, -1, Setup.ABSENT, 7, 8);
        }
        edge.still(Setup.NEW, "out A", NONE, f -> f.out(0));
        edge.still(Setup.NO_CELLAR, "out A", NONE, f -> f.out(0));
    }

    private void dead() {
        edge.terms();
        edge.says("DEAD: PLACES (no POSTS) that can't be come to from START: how many.");
        edge.promise(35);
        edge.says(": DEAD.");
        edge.due("none", Kit.floor("*A").dead(), 0);
        edge.due("none of the longest", Kit.floor(SNAKE).dead(), 0);
        edge.due("a crank", Kit.floor("*#A").dead(), 1);
        edge.due("a free one", Kit.floor("A*#.").dead(), 1);
        edge.due("the first place", Kit.floor(".#*A").dead(), 1);
        edge.due("the last place", Kit.floor("*A......./........./........./........./........#/.......#.").dead(), 1);
        edge.due("across a corner", Kit.floor("*#/#A").dead(), 1);
        edge.due("no posts", Kit.floor("*A#######/#########").dead(), 0);
        edge.due("most", Kit.floor(SHUT).dead(), 51);
        UnderFloor opened = Kit.floor(SHUT);
        opened.knock(1);
        edge.due("most, opened", opened.dead(), 0);
        edge.still(Setup.NO_PLAY, "dead: E and 43", 2, UnderFloor::dead);
        edge.still(Setup.OPEN, "dead: E and 41", 2, UnderFloor::dead);
        edge.says("NONE: no CELLAR.");
        edge.still(Setup.NEW, "dead", NONE, UnderFloor::dead);
        edge.still(Setup.NO_CELLAR, "dead", NONE, UnderFloor::dead);
    }

    private void images() {
        edge.terms();
        edge.says("By hand CRANKS are exchanged, POSTS taken away, WIND, STOOP, NIGHT told. An IMAGE keeps all of these; ");
        edge.promise(37);
        edge.says(": An IMAGE (instead of the one ahead): how many POSTS there are.");
        UnderFloor none = Kit.floor("*A");
        edge.due("image with no posts", none.image(), 0);
        edge.due("back to no posts", none.back(), 0);
        edge.due("image with most posts", Kit.floor("*A#######/#########/#########/#########/#########/#########").image(), 52);
        UnderFloor floor = Kit.floor("*A#B#", "A0,B0");
        floor.set(0, 2);
        edge.due("image", floor.image(), 2);
        floor.knock(2);
        floor.set(0, 3);
        edge.due("another", floor.image(), 1);
        floor.knock(4);
        floor.set(0, 4);
        edge.due("back to the later one", floor.back(), 1);
        edge.due("its posts", floor.count(8), 1);
        edge.due("its free place", floor.at(2), 0);
        edge.due("its post", floor.at(4), 1);
        edge.due("its stoop", floor.count(4), 3);
        edge.says("NONE: no CELLAR.");
        edge.still(Setup.NEW, "image", NONE, UnderFloor::image);
        edge.still(Setup.NO_CELLAR, "image", NONE, UnderFloor::image);
        UnderFloor refused = new UnderFloor();
        refused.set(1, 9);
        refused.image();
        refused.set(1, 5);
        Kit.text(refused, 0, "*A");
        edge.due("no image without a cellar", refused.back(), NONE);
        edge.due("the night stays", refused.count(5), 5);
    }

    private void backs() {
        edge.terms();
        edge.says("BACK: they are so again.");
        edge.promise(38);
        edge.says(": BACK: how many POSTS there are.");
        UnderFloor floor = Kit.floor("*A#BC", "A0,B0,C0");
        kept(floor);
        edge.due("image", floor.image(), 0);
        for (int again = 0; again < 3; again++) {
            floor.set(0, 9);
            floor.set(1, 0);
            floor.wind(0, 30);
            floor.wind(2, 1);
            floor.swap(0, 1);
            floor.swap(1, 2);
            edge.due("back", floor.back(), 0);
            asKept(floor);
        }
        UnderFloor posts = Kit.floor("*A#B#");
        posts.image();
        posts.knock(2);
        posts.knock(4);
        edge.due("back to two posts", posts.back(), 2);
        edge.due("the first post", posts.at(2), 1);
        edge.due("the other one", posts.at(4), 1);
        edge.due("knock it again", posts.knock(4), true);
        edge.due("one post", posts.count(8), 1);
        edge.says("NONE: no IMAGE of this CELLAR.");
        edge.still(Setup.NEW, "back", NONE, UnderFloor::back);
        edge.still(Setup.NO_CELLAR, "back", NONE, UnderFloor::back);
        edge.still(Setup.NO_PLAY, "back", NONE, UnderFloor::back);
        UnderFloor same = Setup.OPEN.floor();
        Kit.text(same, 0, Setup.CELLAR);
        edge.due("back to an image of the cellar ahead", same.back(), NONE);
        edge.due("the posts stay", same.count(8), 10);
        edge.due("an image of this one", same.image(), 10);
        edge.due("back to it", same.back(), 10);
        UnderFloor refused = Setup.OPEN.floor();
        Kit.text(refused, 0, "*A/");
        edge.due("a cellar refused: the image stays", refused.back(), 9);
    }

    /** "*A#BC": the POST away, A and C exchanged, WINDS, STOOP and NIGHT told. */
    private static void kept(UnderFloor floor) {
        floor.knock(2);
        floor.swap(0, 2);
        floor.wind(0, 7);
        floor.wind(1, 11);
        floor.set(0, 2);
        floor.set(1, 42);
    }

    private void asKept(UnderFloor floor) {
        edge.due("no post", floor.at(2), 0);
        edge.due("A is where C was", Kit.crank(floor, 0), 4);
        edge.due("at A", floor.at(4), 3);
        edge.due("B is where it was", Kit.crank(floor, 1), 3);
        edge.due("C is where A was", Kit.crank(floor, 2), 1);
        edge.due("at C", floor.at(1), 5);
        edge.due("stoop", floor.count(4), 2);
        edge.due("night", floor.count(5), 42);
        edge.due("C is done", floor.done(0, 210, 2, 0), 2 + 3);
        edge.due("B is done", floor.done(0, 210, 1, 0), 5 + 4 + 11);
        edge.due("A is done", floor.done(0, 210, 0, 0), 20 + 2 + 7);
    }

    private void counts() {
        edge.promise(39);
        edge.says(": 0 CRANKS, 1 PLAYS, 2 LAWS, 3 bytes of the TAPE, 4 STOOP (1 without a CELLAR), 5 NIGHT,"
            + " 6 the LAW that holds (NONE), 7 THUDS, 8 POSTS.");
        int[][] due = {{0, 0, 0, 0, 1, 0, NONE, 0, 0}, {0, 2, 1, 5, 1, 7, 0, 0, 0}, {5, 0, 0, 0, 2, 7, NONE, 0, 10},
            {5, 2, 1, 5, 2, 4, 0, 1, 8}, {5, 5, 4, 160, 2, 4, 0, 10, 8}};
        for (Setup setup : Setup.values()) {
            for (int what = 0; what <= 8; what++) {
                int each = what;
                edge.still(setup, "count " + what, due[setup.ordinal()][what], f -> f.count(each));
            }
        }
        UnderFloor most = Kit.floor("*A#######/#########/#########/#########/#########/#########");
        edge.due("most posts", most.count(8), 52);
        edge.due("fewest cranks", most.count(0), 1);
        edge.due("most cranks", Kit.floor(Edge.ROW).count(0), 8);
        edge.says("HIDDEN for others.");
        for (Setup setup : Setup.values()) {
            edge.refuses(setup, "count", HIDDEN, UnderFloor::count, -2, -1, 9, 10);
        }
    }

    private void constants() {
        edge.terms();
        edge.says("The constants: NONE = -1: None; refused.");
        edge.due("NONE", UnderFloor.NONE, NONE);
        edge.says("HIDDEN = -1000000: Not told.");
        edge.due("HIDDEN", UnderFloor.HIDDEN, -1000000);
    }
}
