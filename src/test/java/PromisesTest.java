/** Promise by promise: ordinary calls, the edges that the document names, wrong ones. */
public final class PromisesTest {
    private static final Kit KIT = new Kit("PromisesTest");
    private static final int NONE = -1;
    private static final int HIDDEN = -1000000;
    /** From START: A 2, B 4, C 2, D 6 steps; A B 2, A C 4, A D 4, B C 6, B D 4, C D 4. */
    private static final String GRID = "*.A.B/.##.#/C...D";

    private PromisesTest() {
    }

    public static void main(String[] args) {
        promise1();
        promise2();
        promise3();
        promise4();
        promise5();
        promises6To8();
        promise9();
        laws();
        promise10();
        promises11To13();
        promise14();
        promises15And16();
        promise17();
        promises18To21();
        promise22();
        promise23();
        promise24();
        promise25();
        promise26();
        promises27And28();
        promise29();
        promise30();
        promise31();
        promise32();
        promises33And34();
        promises35And36();
        promises37And38();
        promise39();
        KIT.close();
    }

    private static void due(String call, long got, long want) {
        KIT.due(call, got, want);
    }

    private static void due(String call, boolean got, boolean want) {
        KIT.due(call, got, want);
    }

    private static UnderFloor floor(String cellar, String... plays) {
        UnderFloor floor = new UnderFloor();
        due("text(0) of " + cellar, Kit.text(floor, 0, cellar) >= 1, true);
        for (int i = 0; i < plays.length; i++) {
            due("text(1) of " + plays[i], Kit.text(floor, 1, plays[i]), i);
        }
        return floor;
    }

    private static void promise1() {
        UnderFloor floor = new UnderFloor();
        due("new count 0", floor.count(0), 0);
        due("new count 1", floor.count(1), 0);
        due("new count 2", floor.count(2), 0);
        due("new count 3", floor.count(3), 0);
        due("new count 4", floor.count(4), 1);
        due("new count 5", floor.count(5), 0);
        due("new count 6", floor.count(6), NONE);
        due("new count 7", floor.count(7), 0);
        due("new count 8", floor.count(8), 0);
        due("new dead", floor.dead(), NONE);
        due("new first", floor.first(), NONE);
        due("new cue", floor.cue(0, NONE, 0), NONE);
    }

    private static void promise2() {
        UnderFloor floor = new UnderFloor();
        due("feed nothing", floor.feed(0, 0, 0, 0, 0), 0);
        due("feed with holes", floor.feed(0x2A000041, 0x00002E00, 0, 0, 0), 3);
        due("its fault", floor.fault(0), NONE);
        due("its cellar", floor.text(0), 1);
        due("its start", floor.at(0), 2);
        due("its crank", floor.at(1), 3);
        due("its last", floor.at(2), 0);
        for (int i = 1; i <= 8; i++) {
            due("feed 20", floor.feed(-1, -1, -1, -1, 0xE0E0E0E0), 20 * i);
        }
        due("feed 161", floor.feed(0, 0, 0, 0, 1), NONE);
        due("feed 160 and none", floor.feed(0, 0, 0, 0, 0), 160);
        due("end 159", floor.end(159), true);
        due("feed two beyond", floor.feed(0, 0x01000001, 0, 0, 0), NONE);
        due("feed two beyond in the third", floor.feed(0, 0, 0x01000001, 0, 0), NONE);
        due("feed two beyond in the fourth", floor.feed(0, 0, 0, 0x01000001, 0), NONE);
        due("feed two beyond in the last", floor.feed(0, 0, 0, 0, 0x01000001), NONE);
        due("feed two beyond in the first", floor.feed(0x01000001, 0, 0, 0, 0), NONE);
        due("feed two beyond in two", floor.feed(0, 0, 1, 1, 0), NONE);
        due("changes nothing", floor.count(3), 159);
        due("feed the last", floor.feed(0, 0, 1, 0, 0), 160);
    }

    private static void promise3() {
        UnderFloor floor = new UnderFloor();
        due("end 0 of 0", floor.end(0), true);
        due("end 1 of 0", floor.end(1), false);
        Kit.tape(floor, "*AB.");
        due("end -1", floor.end(-1), false);
        due("end 5", floor.end(5), false);
        due("still 4", floor.count(3), 4);
        due("end 4", floor.end(4), true);
        due("end 2", floor.end(2), true);
        due("then 2", floor.count(3), 2);
        due("the first two", floor.text(0), 1);
    }

    private static void fault(int sort, String text, int want) {
        due("fault(" + sort + ") of " + text, Kit.fault(sort, text), want);
    }

    private static void promise4() {
        due("fault -1", new UnderFloor().fault(-1), -2);
        due("fault 3", new UnderFloor().fault(3), -2);
        fault(0, "", 0);
        fault(0, "   ", 3);
        fault(0, "*A", NONE);
        fault(0, "..", 2);
        fault(0, "*#.", 3);
        fault(0, "AB/..", 5);
        fault(0, "*A.......", NONE);
        fault(0, "*A........", 9);
        fault(0, "*A/", 3);
        fault(0, "*A/. ", 5);
        fault(0, "*A./../...", 6);
        fault(0, "*A./....", 7);
        fault(0, "*A/../../../../../", 17);
        fault(0, "*A/../../../../...", 17);
        fault(0, "/*A", 0);
        fault(0, ".A/.A", 4);
        fault(0, ".*/.*", 4);
        fault(0, "*I", 1);
        fault(0, "*a", 1);
        fault(0, " * H ", NONE);
        fault(0, "*A\u0080", 2);
        fault(1, "", 0);
        fault(1, "H999", NONE);
        fault(1, "A", 1);
        fault(1, "A ", 2);
        fault(1, " A 1 , B 1 ", NONE);
        fault(1, "A1 2", 3);
        fault(1, "A1234", 4);
        fault(1, "A12,B3", 5);
        fault(1, "A12,B11 ,C99", 6);
        fault(1, "A12,B012", NONE);
        fault(1, "A12,B011", 7);
        fault(1, "A1,", 3);
        fault(1, "A1,,", 3);
        fault(1, "A1,B1,C1,D1,E1,F1,G1,H1", NONE);
        fault(1, "A1,B1,C1,D1,E1,F1,G1,H1,", 23);
        fault(1, "1A", 0);
        lawFaults();
    }

    private static void lawFaults() {
        fault(2, "", 0);
        fault(2, "y", 1);
        fault(2, "y:", 2);
        fault(2, "y:1", NONE);
        fault(2, " y : 1 + t ", NONE);
        fault(2, "y:1;", 4);
        fault(2, "y:1;n", 4);
        fault(2, "y:1;y:2", NONE);
        fault(2, "y:9999", NONE);
        fault(2, "y:99999", 6);
        fault(2, "y:9 9", 4);
        fault(2, "y:-1", 2);
        fault(2, "y:t?1", 3);
        fault(2, "y:t=1", 5);
        fault(2, "y:t=1;", 5);
        fault(2, "y:t=1?2", NONE);
        fault(2, "y:t=1=2?2", 5);
        fault(2, "y:t=1&k?2", 7);
        fault(2, "y:t=1&k<2|!n>3?c*l/[2-1]", NONE);
        fault(2, "y:(t)=1?2", 4);
        fault(2, "y:(t=1?2", 6);
        fault(2, "y:(t=1)+1", 7);
        fault(2, "y:(t=1)?(1)", 8);
        fault(2, "y:[t=1]?1", 4);
        fault(2, "y:[t]=1?1", NONE);
        fault(2, "y:[t]+1", NONE);
        fault(2, "y:!t", 4);
        fault(2, "y:t=!1", 4);
        fault(2, "y:1)", 3);
        fault(2, "y:1]", 3);
        fault(2, "y:!!!!!!t=1?1", NONE);
        fault(2, "y:!!!!!!!t=1?1", 8);
        fault(2, "y:((((((t=1))))))?1", NONE);
        fault(2, "y:(((((((t=1)))))))?1", 8);
        fault(2, "y:[[[[[[1]]]]]]", NONE);
        fault(2, "y:[[[[[[[1]]]]]]]", 8);
        fault(2, "y:!(!([t]=1))?[[[[[[1]]]]]]", NONE);
        fault(2, "y:!(!(![t=1", 9);
        fault(2, "y:!(!(![[t", 8);
        fault(2, "y:!(!(!t=[[t", 10);
        fault(2, "y:!!!!!!t=1&!!!!!!t=1?1", NONE);
        fault(2, "y:!!!!!t=1&[[[[[[t]]]]]]=1?1", NONE);
        fault(2, "y:!!!t=[[[1]]]&![[[[[t]]]]]=1?1", NONE);
        fault(2, "y:!!!t=[[[[1]]]]?1", 10);
    }

    private static void promise5() {
        UnderFloor floor = new UnderFloor();
        Kit.tape(floor, "*A");
        due("text -1", floor.text(-1), NONE);
        due("text 3", floor.text(3), NONE);
        due("no play", floor.text(1), NONE);
        due("no law", floor.text(2), NONE);
        due("the tape stays", floor.count(3), 2);
        due("a cellar", floor.text(0), 1);
        due("the tape is empty", floor.count(3), 0);
        for (int i = 0; i < 5; i++) {
            due("a play", Kit.text(floor, 1, "A" + i), i);
            due("the tape is empty behind a play", floor.count(3), 0);
        }
        due("a sixth play", Kit.text(floor, 1, "A1"), NONE);
        due("its tape stays", floor.count(3), 2);
        due("five plays", floor.count(1), 5);
        due("the third is as told", floor.cue(2, 0, 1), 2);
        for (int i = 0; i < 4; i++) {
            due("a law", Kit.text(floor, 2, "y:" + i), i);
            due("the tape is empty behind a law", floor.count(3), 0);
        }
        due("a fifth law", Kit.text(floor, 2, "y:1"), NONE);
        due("four laws", floor.count(2), 4);
        due("stoop", floor.set(0, 4), true);
        due("wind", floor.wind(0, 9), true);
        due("night", floor.set(1, 9), true);
        due("law", floor.set(2, 1), true);
        due("thud", floor.thud(1, 0), 1);
        due("image", floor.image(), 0);
        due("a fault", Kit.text(floor, 0, "*A/"), NONE);
        due("the cellar stays", floor.way(0, 1), 1);
        due("stoop stays", floor.count(4), 4);
        due("thuds stay", floor.count(7), 1);
        due("the image stays", floor.back(), 0);
        due("another cellar", Kit.text(floor, 0, "A*/B#"), 2);
        due("stoop as at first", floor.count(4), 1);
        due("wind as at first", floor.order(0, 0, 3), 1 + 3);
        due("no thuds", floor.count(7), 0);
        due("no image", floor.back(), NONE);
        due("the night stays", floor.count(5), 9);
        due("the law stays", floor.count(6), 1);
    }

    private static void promises6To8() {
        UnderFloor floor = floor(GRID);
        int[] at = {2, 4, 20, 24};
        for (int i = 0; i < 4; i++) {
            due("crank " + i, Kit.crank(floor, i), at[i]);
            due("at crank " + i, floor.at(at[i]), 3 + i);
        }
        due("crank 4 is not there", Kit.crank(floor, 4), -2);
        due("crank 8", Kit.crank(floor, 8), -2);
        due("crank -1", Kit.crank(floor, -1), -2);
        due("no cellar", Kit.crank(new UnderFloor(), 0), -2);
        due("at start", floor.at(0), 2);
        due("at a post", floor.at(12), 1);
        due("at nothing", floor.at(13), 0);
        due("at 5", floor.at(5), NONE);
        due("at 9", floor.at(9), NONE);
        due("at 30", floor.at(30), NONE);
        due("at -1", floor.at(-1), NONE);
        due("at the least", floor.at(Integer.MIN_VALUE), NONE);
        due("at the most", floor.at(Integer.MAX_VALUE), NONE);
        due("at without a cellar", new UnderFloor().at(0), NONE);
        due("way 0 4", floor.way(0, 4), 4);
        due("way 4 20", floor.way(4, 20), 6);
        due("way 24 0", floor.way(24, 0), 6);
        due("way to itself", floor.way(13, 13), 0);
        due("way to a post", floor.way(0, 11), NONE);
        due("way from a post", floor.way(11, 0), NONE);
        due("way of a post", floor.way(11, 11), NONE);
        due("way beyond", floor.way(0, 5), NONE);
        due("way from beyond", floor.way(-1, 0), NONE);
        due("way walled", floor("*#A").way(0, 2), NONE);
        due("no way round the edge", floor("#.*/A#./#..").way(2, 10), NONE);
        due("way without a cellar", new UnderFloor().way(0, 0), NONE);
    }

    private static void promise9() {
        UnderFloor floor = new UnderFloor();
        Kit.text(floor, 1, "C5,A7,H100");
        due("how many", floor.cue(0, NONE, 0), 3);
        due("how many by 1", floor.cue(0, NONE, 1), NONE);
        due("crank", floor.cue(0, 0, 0), 2);
        due("number", floor.cue(0, 1, 1), 7);
        due("time without a cellar", floor.cue(0, 2, 2), 100);
        due("the last crank", floor.cue(0, 2, 0), 7);
        due("cue 3", floor.cue(0, 3, 0), NONE);
        due("cue -2", floor.cue(0, -2, 0), NONE);
        due("what 3", floor.cue(0, 0, 3), NONE);
        due("what -1", floor.cue(0, 0, -1), NONE);
        due("play 1", floor.cue(1, 0, 0), NONE);
        due("play -1", floor.cue(-1, NONE, 0), NONE);
    }

    /** TIMES of one PLAY by one LAW in a NIGHT. */
    private static void times(String law, int night, int... want) {
        UnderFloor floor = new UnderFloor();
        Kit.text(floor, 1, "A10,C20,B30");
        due("text(2) of " + law, Kit.text(floor, 2, law), 0);
        due("set(2, 0)", floor.set(2, 0), true);
        due("set(1, " + night + ")", floor.set(1, night), true);
        for (int i = 0; i < 3; i++) {
            due("time " + i + " by " + law, floor.cue(0, i, 2), want[i]);
        }
    }

    private static void laws() {
        times("y:0", 0, 10, 20, 30);
        times("y:n", 7, 17, 27, 37);
        times("y:k", 0, 10, 21, 32);
        times("y:c", 0, 10, 22, 31);
        times("y:l", 0, 13, 23, 33);
        times("y:t", 0, 20, 40, 60);
        times("y:0-t", 0, 0, 0, 0);
        times("y:0-99", 0, 0, 0, 0);
        times("y:100", 0, 109, 119, 129);
        times("y:9999*9999", 0, 109, 119, 129);
        times("y:0-9999", 0, 0, 0, 0);
        times("y:50-k*40", 0, 60, 60, 60);
        times("y:2+3*4", 0, 24, 34, 44);
        times("y:[2+3]*4", 0, 30, 40, 50);
        times("y:20-5-5", 0, 20, 30, 40);
        times("y:40/4/5", 0, 12, 22, 32);
        times("y:7/2*2", 0, 16, 26, 36);
        times("y:[0-7]/2", 0, 7, 17, 27);
        times("y:7/0+1", 0, 11, 21, 31);
        times("y:9999*9999-9999*100-99", 0, 11, 21, 31);
        times("y:9999*9999/9999", 0, 109, 119, 129);
        times("y:9999*9999/[9999*9]-1", 0, 20, 30, 40);
        times("y:[0-9999]*9999+9999*100+99*1+5", 0, 14, 24, 34);
        times("y:t=20?5", 0, 10, 25, 30);
        times("y:t<20?5", 0, 15, 20, 30);
        times("y:t>20?5", 0, 10, 20, 35);
        times("y:!t>20?5", 0, 15, 25, 30);
        times("y:k=0|k=2?5;y:3", 0, 15, 23, 35);
        times("y:k=0|k=1&c=2?5", 0, 15, 25, 30);
        times("y:(k=0|k=1)&c=2?5", 0, 10, 25, 30);
        times("y:!(k=0|k=1)&c=1?5", 0, 10, 20, 35);
        times("y:!k=0|k=0?5", 0, 15, 25, 35);
        times("y:!k=0&k=0?5", 0, 10, 20, 30);
        times("y:n=1?1;y:n=2?2;y:n>1?3", 2, 12, 22, 32);
        times("y:1;y:2", 2, 11, 21, 31);
        times(" y : [ t + k ] = 21 ? 5", 0, 10, 25, 30);
        times("y:!!!!!!k=0?[[[[[[4]]]]]]", 0, 14, 20, 30);
    }

    private static void promise10() {
        UnderFloor floor = new UnderFloor();
        due("stoop without a cellar", floor.set(0, 2), false);
        due("night 0", floor.set(1, 0), true);
        due("night 99", floor.set(1, 99), true);
        due("night 100", floor.set(1, 100), false);
        due("night -1", floor.set(1, -1), false);
        due("still 99", floor.count(5), 99);
        due("law none", floor.set(2, NONE), true);
        due("law 0 of none", floor.set(2, 0), false);
        Kit.text(floor, 2, "y:5");
        due("law -2", floor.set(2, -2), false);
        due("law 1 of one", floor.set(2, 1), false);
        due("law 0", floor.set(2, 0), true);
        due("which holds", floor.count(6), 0);
        Kit.text(floor, 0, GRID);
        due("stoop 0", floor.set(0, 0), false);
        due("stoop 10", floor.set(0, 10), false);
        due("stoop 1", floor.set(0, 1), true);
        due("stoop 9", floor.set(0, 9), true);
        due("stoop is", floor.count(4), 9);
        due("what 3", floor.set(3, 1), false);
        due("what -1", floor.set(-1, 1), false);
        Kit.text(floor, 1, "A5");
        due("stoop counts", floor.order(0, 0, 3), 2 * 9 + 3);
        due("law counts", floor.cue(0, 0, 2), 10);
        due("law no more", floor.set(2, NONE), true);
        due("law counts no more", floor.cue(0, 0, 2), 5);
    }

    private static void promises11To13() {
        due("wind without a cellar", new UnderFloor().wind(0, 3), false);
        due("swap without a cellar", new UnderFloor().swap(0, 1), false);
        due("knock without a cellar", new UnderFloor().knock(0), false);
        UnderFloor floor = floor(GRID, "A5,B9,C20");
        due("wind 0", floor.wind(0, 0), false);
        due("wind 31", floor.wind(0, 31), false);
        due("wind 30", floor.wind(0, 30), true);
        due("wound", floor.order(0, 12, 3), 2 + 30 + 2 + 3 + 6 + 3);
        due("wind 1", floor.wind(0, 1), true);
        due("wound again", floor.done(0, 12, 0, 1), 0);
        due("wind of none", floor.wind(4, 3), false);
        due("wind of -1", floor.wind(-1, 3), false);
        due("wind of 8", floor.wind(8, 3), false);
        due("swap alike", floor.swap(1, 1), false);
        due("swap with none", floor.swap(0, 4), false);
        due("swap of none", floor.swap(5, 0), false);
        due("swap out of bounds", floor.swap(-1, 8), false);
        due("swap", floor.swap(0, 3), true);
        due("where A is", Kit.crank(floor, 0), 24);
        due("where D is", Kit.crank(floor, 3), 2);
        due("what is at A's", floor.at(24), 3);
        due("what is at D's", floor.at(2), 6);
        due("the wind goes with the crank", floor.done(0, 12, 0, 0), 6 + 1);
        due("knock nothing", floor.knock(13), false);
        due("knock a crank", floor.knock(24), false);
        due("knock beyond", floor.knock(-1), false);
        due("knock start", floor.knock(0), false);
        due("way ahead", floor.way(2, 22), 4);
        due("knock", floor.knock(12), true);
        due("knocked", floor.at(12), 0);
        due("knock again", floor.knock(12), false);
        due("way behind", floor.way(2, 22), 2);
        due("posts", floor.count(8), 2);
    }

    private static void promise14() {
        UnderFloor floor = floor(GRID, "A5,B9,C20", "E1", "A3,A3,B3", "A0,B0,C0,D0,A0,B0,C0,D0");
        due("lates", floor.order(0, 12, 0), 1);
        due("greatest", floor.order(0, 12, 1), 1);
        due("how many", floor.order(0, 12, 2), 1);
        due("last", floor.order(0, 12, 3), 20);
        due("210 lates", floor.order(0, 210, 0), 20 - 20 + 29 - 9 + 34 - 5);
        due("210 greatest", floor.order(0, 210, 1), 29);
        due("210 how many", floor.order(0, 210, 2), 2);
        due("210 last", floor.order(0, 210, 3), 34);
        due("one crank twice", floor.order(2, 12, 0), 2 + 5 + 10);
        due("eight", floor.order(3, 1234567, 3), 2 + 2 + 6 + 4 + 4 + 2 + 6 + 4 + 24);
        due("a digit twice", floor.order(0, 11, 0), NONE);
        due("a digit too high", floor.order(0, 13, 0), NONE);
        due("a digit too many", floor.order(0, 1012, 0), NONE);
        due("eight and one", floor.order(3, 101234567, 0), NONE);
        due("below 0", floor.order(0, -12, 0), NONE);
        due("the least int", floor.order(3, Integer.MIN_VALUE, 0), NONE);
        due("the most int", floor.order(3, Integer.MAX_VALUE, 0), NONE);
        due("what -1", floor.order(0, 12, -1), NONE);
        due("what 4", floor.order(0, 12, 4), NONE);
        due("play 4", floor.order(4, 0, 0), NONE);
        due("play -1", floor.order(-1, 0, 0), NONE);
        due("it can't be", floor.order(1, 0, 0), NONE);
        due("walled", floor("*#A", "A5").order(0, 0, 0), NONE);
        UnderFloor bare = new UnderFloor();
        Kit.text(bare, 1, "A5");
        due("no cellar", bare.order(0, 0, 0), NONE);
        UnderFloor late = floor("*A", "A999");
        Kit.text(late, 2, "y:99");
        late.set(2, 0);
        due("the latest second", late.order(0, 0, 3), 1098);
        due("none late", late.order(0, 0, 2), 0);
    }

    private static void promises15And16() {
        UnderFloor floor = floor(GRID, "A5,B9,C20", "A10,A10", "E5");
        int[][] want = {{5, 0, 2}, {10, 1, 7}, {20, 0, 16}};
        for (int cue = 0; cue < 3; cue++) {
            for (int what = 0; what < 3; what++) {
                due("done " + cue + " " + what, floor.done(0, 12, cue, what), want[cue][what]);
            }
        }
        due("done what 3", floor.done(0, 12, 0, 3), NONE);
        due("done what -1", floor.done(0, 12, 0, -1), NONE);
        due("done cue 3", floor.done(0, 12, 3, 0), NONE);
        due("done cue -1", floor.done(0, 12, -1, 0), NONE);
        due("done no order", floor.done(0, 22, 0, 0), NONE);
        due("done no play", floor.done(3, 0, 0, 0), NONE);
        due("done can't be", floor.done(2, 0, 0, 0), NONE);
        due("done no cellar", new UnderFloor().done(0, 0, 0, 0), NONE);
        int[] where = {8, 8, 0, 0, 0, 0, 8, 1, 1, 1, 1, 8, 8, 8, 8, 8, 2, 2, 2, 2, 2, 9};
        for (int second = 0; second < where.length; second++) {
            due("where " + second, floor.where(0, 12, second), where[second]);
        }
        due("where long after", floor.where(0, 12, Integer.MAX_VALUE), 9);
        due("where below 0", floor.where(0, 12, -1), NONE);
        due("where no order", floor.where(0, 123, 0), NONE);
        due("where no play", floor.where(-1, 0, 0), NONE);
        due("where can't be", floor.where(2, 0, 0), NONE);
        due("where no cellar", new UnderFloor().where(0, 0, 0), NONE);
        due("twice at one, between", floor.where(1, 1, 10), 0);
        due("twice at one, the second comes at once", floor.done(1, 1, 1, 2), 10);
        due("twice at one, at the end", floor.where(1, 1, 13), 0);
        due("twice at one, behind", floor.where(1, 1, 14), 9);
    }

    private static void promise17() {
        UnderFloor floor = floor(GRID, "A5,B9,C20", "E5", "D3,A4,B5", "A5,A5,C5");
        due("best by 0", floor.best(0, 0, 0), 12);
        due("best by 0 is", floor.best(0, 0, 1), 1);
        due("best by 1 is", floor.best(0, 1, 1), 1);
        due("best by 2 is", floor.best(0, 2, 1), 1);
        // A 5, B 10, D 17, or A 5, D 12, B 19
        due("best by 0 of three", floor.best(2, 0, 0), 120);
        due("lates of three", floor.best(2, 0, 1), 1 + 5 + 14);
        due("greatest of three", floor.best(2, 1, 1), 14);
        due("greatest of three by", floor.best(2, 1, 0), 102);
        due("fewest of three", floor.best(2, 2, 1), 3);
        due("fewest of three by", floor.best(2, 2, 0), 12);
        due("of several the least", floor.best(3, 2, 0), 12);
        due("wish 3", floor.best(0, 3, 0), NONE);
        due("wish -1", floor.best(0, -1, 0), NONE);
        due("what 2", floor.best(0, 0, 2), NONE);
        due("what -1", floor.best(0, 0, -1), NONE);
        due("it can't be", floor.best(1, 0, 0), NONE);
        due("play 4", floor.best(4, 0, 0), NONE);
        due("no cellar", new UnderFloor().best(0, 0, 0), NONE);
    }

    private static void promises18To21() {
        UnderFloor floor = floor(GRID, "A5,B9,C20", "E5,A9", "A99,B199", "A99,B199");
        int[] want = {1, 1, 0, 1, 1, 1, 0};
        for (int some = 1; some < 8; some++) {
            due("met " + some, floor.met(0, some), want[some - 1]);
        }
        due("met 0", floor.met(0, 0), NONE);
        due("met 8", floor.met(0, 8), NONE);
        due("met -1", floor.met(0, -1), NONE);
        due("met without what can't be", floor.met(1, 2), 1);
        due("met with what can't be", floor.met(1, 3), 0);
        due("met no play", floor.met(4, 1), NONE);
        due("met no cellar", new UnderFloor().met(0, 1), NONE);
        due("knot", floor.knot(0), 3);
        due("knot of what can't be", floor.knot(1), 1);
        due("knot of none", floor.knot(2), NONE);
        due("knot no play", floor.knot(-1), NONE);
        due("knot no cellar", new UnderFloor().knot(0), NONE);
        due("age none", floor.age(0), 0);
        due("age can't be", floor.age(1), 0);
        due("age most", floor.age(2), 9);
        due("age no play", floor.age(4), NONE);
        due("age no cellar", new UnderFloor().age(0), NONE);
        due("first of several", floor.first(), 0);
        floor.set(0, 5);
        due("age has its own stoop", floor.age(2), 9);
        due("stoop stays", floor.count(4), 5);
        UnderFloor two = floor(GRID, "A99", "B23,A99", "B23");
        due("age of five", two.age(1), 5);
        due("first is the second", two.first(), 1);
        due("first of those that meet all", floor(GRID, "A99", "A99,B199").first(), 0);
        due("first without plays", floor(GRID).first(), NONE);
        due("knot of few rather than of low bits", floor(GRID, "A5,B9,C12").knot(0), 3);
        due("knot of one", floor(GRID, "A5,B9,D9,C99").knot(0), 3);
        due("knot of the fewest", floor(GRID, "A5,B9,D9").knot(0), 3);
        due("knot of one late alone", floor(GRID, "C5,A9,D9").knot(0), 3);
        due("knot fewest of the higher bits", floor("*.A.....B", "A5,B10").knot(0), 2);
    }

    private static void promise22() {
        // without 11 nothing changes, without 12 A and C are nearer: 2 to 22 in two steps
        UnderFloor floor = floor(GRID, "A5,D10", "E1");
        due("lates as it is", floor.best(0, 0, 1), 2);
        due("post", floor.post(0, 0), 11);
        due("post makes it", floor.post(0, 1), 2);
        UnderFloor wall = floor("*#A/.#./..#", "A5", "A5,B9");
        due("walled", wall.best(0, 0, 1), NONE);
        due("the post that lets it be", wall.post(0, 0), 1);
        due("lates then", wall.post(0, 1), 0);
        due("the post stays", wall.at(1), 1);
        due("it can't be", wall.post(1, 0), NONE);
        UnderFloor far = floor("*..#A/.#.#./.#.../.####", "A7");
        due("round", far.way(0, 4), 8);
        due("nearest", far.post(0, 0), 3);
        due("nearest is", far.post(0, 1), 0);
        due("what 2", floor.post(0, 2), NONE);
        due("what -1", floor.post(0, -1), NONE);
        due("no play", floor.post(2, 0), NONE);
        due("no crank", floor.post(1, 0), NONE);
        due("no posts", floor("*A", "A1").post(0, 0), NONE);
        due("no cellar", new UnderFloor().post(0, 0), NONE);
    }

    private static void promise23() {
        UnderFloor floor = floor(GRID, "A5,B9,C20", "E1", "A4,B7", "D99");
        floor.wind(1, 5);
        due("as it is", floor.best(0, 0, 1), 3 + 1);
        due("rope", floor.rope(0, 0), 1);
        due("rope makes it", floor.rope(0, 1), 1);
        // A 9, B 14, C 23; with A in four: A 6, B 11, C 20
        floor.wind(0, 7);
        floor.wind(1, 3);
        due("rope of the first", floor.rope(0, 0), 0);
        due("rope of the first makes it", floor.rope(0, 1), 1 + 2);
        due("wind stays", floor.order(0, 12, 0), 4 + 5 + 3);
        due("rope that makes nothing", floor.rope(3, 0), 0);
        due("rope that makes nothing is", floor.rope(3, 1), 0);
        due("it can't be", floor.rope(1, 0), NONE);
        due("what 2", floor.rope(0, 2), NONE);
        due("what -1", floor.rope(0, -1), NONE);
        due("no play", floor.rope(4, 0), NONE);
        due("no cellar", new UnderFloor().rope(0, 0), NONE);
        due("the lowest in the cellar", floor("*.C", "C9").rope(0, 0), 2);
    }

    private static void promise24() {
        UnderFloor floor = floor("*A.B.C", "C4", "B8", "E1", "C99");
        due("as it is", floor.best(0, 0, 1) + floor.best(1, 0, 1), 4);
        due("exchange", floor.exchange(0, 1, 0), 2);
        due("exchange makes it", floor.exchange(0, 1, 1), 0);
        due("by the other order", floor.exchange(1, 0, 0), 2);
        due("none of several", floor.exchange(1, 3, 0), 0);
        due("none makes it", floor.exchange(1, 3, 1), 0);
        due("nothing is exchanged", Kit.crank(floor, 0), 1);
        due("it can't be", floor.exchange(0, 2, 0), NONE);
        due("it can't be then", floor.exchange(2, 0, 1), NONE);
        due("alike", floor.exchange(1, 1, 0), NONE);
        due("what 2", floor.exchange(0, 1, 2), NONE);
        due("no play", floor.exchange(0, 4, 0), NONE);
        due("no play ahead", floor.exchange(-1, 0, 0), NONE);
        due("no cellar", new UnderFloor().exchange(0, 1, 0), NONE);
        UnderFloor wall = floor("*.A#B", "B9", "C9", "B9");
        due("with a crank that isn't there", wall.exchange(0, 1, 0), NONE);
        due("it can be by an exchange", wall.exchange(0, 2, 0), 1);
        due("lates by an exchange", wall.exchange(0, 2, 1), 0);
    }

    private static void promise25() {
        UnderFloor floor = floor(GRID, "A5,B9,C20,D31", "A5,E9,C20", "A5,E9");
        due("the book", floor.order(0, 123, 0), 1);
        due("skip B", floor.skip(0, 1, 1), 0 + 0 + 0);
        due("skip C", floor.skip(0, 2, 2), 1 + 0);
        due("skip B and C", floor.skip(0, 1, 2), 0);
        due("skip to the end", floor.skip(0, 1, 3), 0);
        due("skip the last", floor.skip(0, 3, 3), 1);
        due("skip what can't be", floor.skip(1, 1, 1), 0);
        due("skip the rest can't be", floor.skip(1, 2, 2), NONE);
        // C at 20 less (9 less 5): 16; A 5, C come 9, 12, done 16
        UnderFloor late = floor(GRID, "A5,B15,C20");
        due("skip so that the next is late", late.skip(0, 1, 1), 12 - 10);
        due("skip 0", floor.skip(0, 0, 0), NONE);
        due("skip back", floor.skip(0, 2, 1), NONE);
        due("skip beyond", floor.skip(0, 3, 4), NONE);
        due("skip -1", floor.skip(0, -1, 1), NONE);
        due("no play", floor.skip(3, 1, 1), NONE);
        due("no cellar", new UnderFloor().skip(0, 1, 1), NONE);
    }

    private static void promise26() {
        UnderFloor floor = floor(GRID, "A5,B9,C20", "E5");
        Kit.text(floor, 2, "y:n=2|n=4?0-3;y:n=3?0-1");
        due("no law: the first", floor.nights(0, 30, 0), 0);
        due("no law: lates", floor.nights(0, 30, 1), 1);
        floor.set(2, 0);
        floor.set(1, 50);
        due("two nights", floor.nights(0, 2, 0), 0);
        due("two nights are", floor.nights(0, 2, 1), 1);
        due("three nights", floor.nights(0, 3, 0), 2);
        // TIMES 2, 6, 17: A 5, B 10, C come 16, 19
        due("three nights are", floor.nights(0, 3, 1), 3 + 4 + 2);
        due("of several the first", floor.nights(0, 30, 0), 2);
        due("one night", floor.nights(0, 1, 0), 0);
        due("the night stays", floor.count(5), 50);
        due("0 nights", floor.nights(0, 0, 0), NONE);
        due("31 nights", floor.nights(0, 31, 0), NONE);
        due("what 2", floor.nights(0, 3, 2), NONE);
        due("what -1", floor.nights(0, 3, -1), NONE);
        due("it can't be", floor.nights(1, 3, 0), NONE);
        due("no play", floor.nights(2, 3, 0), NONE);
        due("no cellar", new UnderFloor().nights(0, 1, 0), NONE);
    }

    private static void promises27And28() {
        due("thud without a cellar", new UnderFloor().thud(0, 0), NONE);
        UnderFloor floor = floor(GRID, "A5,B9,C20", "E5", "A0,B0,C0,D0,A0,B0,C0,D0");
        due("all orders fit", floor.fit(0, NONE), 6);
        due("the first", floor.fit(0, 0), 12);
        due("the second", floor.fit(0, 1), 21);
        due("the last", floor.fit(0, 5), 210);
        due("beyond", floor.fit(0, 6), NONE);
        due("-2", floor.fit(0, -2), NONE);
        due("all orders of eight", floor.fit(2, NONE), 40320);
        due("the last of eight", floor.fit(2, 40319), 76543210);
        due("one in the midst", floor.fit(2, 5040), 10234567);
        due("beyond eight", floor.fit(2, 40320), NONE);
        due("none can be", floor.fit(1, NONE), 0);
        due("the first of none", floor.fit(1, 0), NONE);
        due("thud below", floor.thud(-1, 0), NONE);
        due("thud above", floor.thud(1000, 0), NONE);
        due("thud of none", floor.thud(5, 4), NONE);
        due("thud of -1", floor.thud(5, -1), NONE);
        due("thud of 8", floor.thud(5, 8), NONE);
        due("a thud where it comes", floor.thud(2, 0), 1);
        due("those with A first", floor.fit(0, NONE), 2);
        due("the first of those", floor.fit(0, 0), 12);
        due("the second of those", floor.fit(0, 1), 21);
        due("the third of those", floor.fit(0, 2), NONE);
        due("a thud where it goes", floor.thud(5, 0), 2);
        due("still two", floor.fit(0, NONE), 2);
        due("a thud at B", floor.thud(10, 1), 3);
        due("one", floor.fit(0, NONE), 1);
        due("which", floor.fit(0, 0), 12);
        due("a thud at C in the wait", floor.thud(20, 2), 4);
        due("still one", floor.fit(0, NONE), 1);
        due("a thud one second behind", floor.thud(21, 2), 5);
        due("none", floor.fit(0, NONE), 0);
        for (int i = 6; i <= 10; i++) {
            due("thud", floor.thud(999, 3), i);
        }
        due("an eleventh", floor.thud(1, 0), NONE);
        due("ten", floor.count(7), 10);
        due("no play", floor.fit(3, NONE), NONE);
        due("no cellar", new UnderFloor().fit(0, NONE), NONE);
    }

    private static void promise29() {
        UnderFloor floor = floor(GRID, "A5,D10,B12", "E5", "A99");
        floor.wind(3, 9);
        // alone: A 5, D 18, B 25; the boy at 23 comes to D at 1
        due("alone", floor.best(0, 0, 1) > 0, true);
        due("he takes D", floor.boy(0, 23, 1, 0), 2);
        due("none late then", floor.boy(0, 23, 1, 1), 0);
        due("he stoops more", floor.boy(0, 23, 2, 1), 1);
        due("none of several", floor.boy(2, 0, 1, 0), 0);
        due("none late", floor.boy(2, 0, 1, 1), 0);
        UnderFloor wall = floor("*.A#B", "A5,B5");
        due("he comes where the hand can't", wall.boy(0, 4, 9, 0), 2);
        due("none late by both", wall.boy(0, 4, 9, 1), 0);
        due("neither comes there", wall.boy(0, 1, 1, 0), NONE);
        due("a post", wall.boy(0, 3, 1, 0), NONE);
        due("no place", wall.boy(0, 5, 1, 0), NONE);
        due("no place below", wall.boy(0, -1, 1, 0), NONE);
        due("stoop 0", wall.boy(0, 4, 0, 0), NONE);
        due("stoop 10", wall.boy(0, 4, 10, 0), NONE);
        due("what 2", wall.boy(0, 4, 1, 2), NONE);
        due("what -1", wall.boy(0, 4, 1, -1), NONE);
        due("no play", wall.boy(1, 4, 1, 0), NONE);
        due("it can't be", floor.boy(1, 0, 1, 0), NONE);
        due("no cellar", new UnderFloor().boy(0, 0, 1, 0), NONE);
        UnderFloor all = floor("*..A.", "A5,A9");
        due("he takes all", all.boy(0, 4, 1, 0), 1);
        all.set(0, 9);
        due("he takes all from a slow hand", all.boy(0, 4, 1, 0), 3);
        due("lates of his", all.boy(0, 4, 1, 1), 0);
    }

    private static void promise30() {
        UnderFloor floor = floor(GRID);
        due("out A", floor.out(0), 2);
        due("out B", floor.out(1), 4);
        due("out D", floor.out(3), 6);
        due("out E", floor.out(4), NONE);
        due("out -1", floor.out(-1), NONE);
        due("out 8", floor.out(8), NONE);
        floor.set(0, 9);
        due("steps, not seconds", floor.out(0), 2);
        due("walled", floor("*#A").out(0), NONE);
        due("no cellar", new UnderFloor().out(0), NONE);
    }

    private static void promise31() {
        UnderFloor floor = floor(GRID, "A5,B9,C20", "A9,B13,C40", "E1");
        due("walk", floor.walk(0, 12, 0), 2 + 2 + 6);
        due("walk back", floor.walk(0, 210, 0), 2 + 6 + 2);
        due("idle", floor.walk(0, 12, 1), 1);
        due("idle more", floor.walk(1, 12, 1), 4 + 0 + 40 - 23);
        due("no idle", floor.walk(0, 210, 1), 15);
        floor.set(0, 2);
        due("steps, not seconds", floor.walk(0, 12, 0), 10);
        due("what 2", floor.walk(0, 12, 2), NONE);
        due("what -1", floor.walk(0, 12, -1), NONE);
        due("no order", floor.walk(0, 112, 0), NONE);
        due("it can't be", floor.walk(2, 0, 0), NONE);
        due("no play", floor.walk(3, 0, 0), NONE);
        due("no cellar", new UnderFloor().walk(0, 0, 0), NONE);
    }

    private static void promise32() {
        UnderFloor floor = floor(GRID, "D3,A4,B5", "A5,B9,C20", "E1");
        due("mend 0", floor.mend(0, 0, 0), 120);
        due("mend 0 lates", floor.mend(0, 0, 1), 20);
        // D 9, A 16, B 21 or D 9, B 16, A 21
        due("mend 1", floor.mend(0, 1, 0), 12);
        due("mend 1 lates", floor.mend(0, 1, 1), 6 + 12 + 16);
        due("mend 2", floor.mend(0, 2, 0), 12);
        due("mend all", floor.mend(0, 3, 0), 12);
        due("mend all lates", floor.mend(0, 3, 1), 34);
        due("mend beyond", floor.mend(0, 4, 0), NONE);
        due("mend -1", floor.mend(0, -1, 0), NONE);
        due("mend the book", floor.mend(1, 3, 1), 1);
        due("what 2", floor.mend(0, 0, 2), NONE);
        due("what -1", floor.mend(0, 0, -1), NONE);
        due("it can't be", floor.mend(2, 0, 0), NONE);
        due("no play", floor.mend(3, 0, 0), NONE);
        due("no cellar", new UnderFloor().mend(0, 0, 0), NONE);
    }

    private static void promises33And34() {
        UnderFloor floor = floor(GRID, "A5,B9,C20", "A99,B199", "E1,A5", "A1,B1");
        due("slack of A", floor.slack(0, 0), 0);
        due("slack of B", floor.slack(0, 1), 0);
        due("slack of C", floor.slack(0, 2), 1);
        due("slack of thirty", floor.slack(1, 0), 30);
        due("slack of late ones", floor.slack(3, 1), 0);
        due("slack cue 3", floor.slack(0, 3), NONE);
        due("slack cue -1", floor.slack(0, -1), NONE);
        due("slack can't be", floor.slack(2, 1), NONE);
        due("slack no play", floor.slack(4, 0), NONE);
        due("slack no cellar", new UnderFloor().slack(0, 0), NONE);
        due("wind stays", floor.order(0, 12, 0), 1);
        UnderFloor next = floor("*AB", "A9,B12");
        due("slack till the next is late", next.slack(0, 0), 5);
        due("urgent", floor.urgent(0), 2);
        due("urgent of none", floor.urgent(1), 0);
        due("urgent of both", floor.urgent(3), 3);
        due("urgent can't be", floor.urgent(2), NONE);
        due("urgent no play", floor.urgent(-1), NONE);
        due("urgent no cellar", new UnderFloor().urgent(0), NONE);
        due("times stay", floor.cue(0, 1, 2), 9);
    }

    private static void promises35And36() {
        due("none dead", floor(GRID).dead(), 0);
        due("dead", floor("*#A./.#../#...").dead(), 7);
        due("dead cranks too", floor("*#A").dead(), 1);
        due("dead no cellar", new UnderFloor().dead(), NONE);
        UnderFloor floor = floor(GRID, "A5,B9,C20", "E1", "C5");
        due("pillar", floor.pillar(0, 0), 3);
        due("pillar can't be", floor.pillar(0, 1), HIDDEN);
        due("pillar that makes most", floor.pillar(2, 0), 10);
        due("pillar makes", floor.pillar(2, 1), 8 + 3 - 5);
        due("nothing is put", floor.at(10), 0);
        UnderFloor idle = floor("*A../....", "A9");
        due("of several the lowest", idle.pillar(0, 0), 2);
        due("makes none late", idle.pillar(0, 1), 0);
        due("no place for it", floor("*A/##", "A9").pillar(0, 0), NONE);
        due("no place for it, lates", floor("*A/##", "A9").pillar(0, 1), NONE);
        due("it can't be as it is", floor.pillar(1, 0), NONE);
        due("what 2", floor.pillar(0, 2), NONE);
        due("what -1", floor.pillar(0, -1), NONE);
        due("no play", floor.pillar(3, 0), NONE);
        due("no cellar", new UnderFloor().pillar(0, 0), NONE);
    }

    private static void promises37And38() {
        due("image no cellar", new UnderFloor().image(), NONE);
        due("back no cellar", new UnderFloor().back(), NONE);
        UnderFloor floor = floor(GRID, "A5");
        Kit.text(floor, 2, "y:1");
        due("back without an image", floor.back(), NONE);
        floor.set(0, 2);
        floor.set(1, 7);
        floor.wind(0, 9);
        floor.swap(1, 2);
        floor.knock(11);
        due("image", floor.image(), 2);
        floor.set(0, 3);
        floor.set(1, 8);
        floor.set(2, 0);
        floor.wind(0, 4);
        floor.swap(0, 2);
        floor.knock(12);
        floor.thud(4, 0);
        Kit.tape(floor, "A");
        due("back", floor.back(), 2);
        due("stoop", floor.count(4), 2);
        due("night", floor.count(5), 7);
        due("wind", floor.done(0, 0, 0, 0), 2 * 2 + 9);
        due("cranks", Kit.crank(floor, 2), 4);
        due("cranks at", floor.at(4), 5);
        due("cranks as ahead", Kit.crank(floor, 1), 20);
        due("posts", floor.at(12), 1);
        due("posts away", floor.at(11), 0);
        due("cranks in all", floor.count(0), 4);
        due("the law stays", floor.count(6), 0);
        due("thuds stay", floor.count(7), 1);
        due("the tape stays", floor.count(3), 1);
        floor.knock(12);
        due("back again", floor.back(), 2);
        floor.knock(12);
        due("another image", floor.image(), 1);
        floor.knock(14);
        due("back to that", floor.back(), 1);
        due("one post", floor.count(8), 1);
    }

    private static void promise39() {
        UnderFloor floor = floor(GRID, "A5", "B6");
        Kit.text(floor, 2, "y:1");
        floor.set(0, 4);
        floor.set(1, 5);
        floor.set(2, 0);
        floor.thud(1, 0);
        Kit.tape(floor, "abc");
        int[] want = {4, 2, 1, 3, 4, 5, 0, 1, 3};
        for (int what = 0; what < want.length; what++) {
            due("count " + what, floor.count(what), want[what]);
        }
        due("count 9", floor.count(9), HIDDEN);
        due("count -1", floor.count(-1), HIDDEN);
        due("NONE", UnderFloor.NONE, NONE);
        due("HIDDEN", UnderFloor.HIDDEN, HIDDEN);
    }
}
