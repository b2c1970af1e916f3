/** The texts of LAWS, their FAULTS, what their SUMS and CONDITIONS come to, and the TIMES by them. */
final class LawEdges {
    private static final int NONE = Edge.NONE;
    private static final String DIGITS = "0123456789";
    /** What an ATOM of one sign may be. */
    private static final String ATOMS = DIGITS + "tkncl";
    private static final String COMPARED = "=<>";

    private final Edge edge;

    private LawEdges(Edge edge) {
        this.edge = edge;
    }

    static void all(Edge edge) {
        LawEdges edges = new LawEdges(edge);
        edge.terms();
        edges.clauses();
        edges.clause();
        edges.conditions();
        edges.sums();
        edges.atoms();
        edges.conditionsAhead();
        edges.within();
        edges.bounds();
        edges.divisions();
        edges.truths();
        edges.worths();
        edges.letters();
        edges.times();
        edges.faults();
    }

    /** Of a PLAY by a LAW. */
    private static UnderFloor ruled(String play, String law) {
        UnderFloor floor = new UnderFloor();
        if (Kit.text(floor, 1, play) != 0 || Kit.text(floor, 2, law) != 0 || !floor.set(2, 0)) {
            throw new IllegalStateException("not taken: " + play + " by " + law);
        }
        return floor;
    }

    private void worth(String law, int want) {
        edge.due("the worth of " + law, ruled("A500", law).cue(0, 0, 2) - 500, want);
    }

    private void holds(String condition) {
        worth("y:" + condition + "?7;y:0-7", 7);
    }

    private void fails(String condition) {
        worth("y:" + condition + "?7;y:0-7", -7);
    }

    private void times(String play, String law, int... want) {
        UnderFloor floor = ruled(play, law);
        for (int cue = 0; cue < want.length; cue++) {
            edge.due("the time of cue " + cue + " of " + play + " by " + law, floor.cue(0, cue, 2), want[cue]);
        }
    }

    private void clauses() {
        edge.says("LAWS (4 at most) are TEXTS: CLAUSES with ; between, one at least: ");
        UnderFloor floor = new UnderFloor();
        for (int law = 0; law < 4; law++) {
            edge.due("a law", Kit.text(floor, 2, "y:" + law), law);
        }
        edge.due("a fifth", Kit.text(floor, 2, "y:5"), NONE);
        edge.due("how many", floor.count(2), 4);
        edge.fault(2, "", 0);
        edge.fault(2, ";", 0);
        edge.fault(2, ";y:1", 0);
        edge.fault(2, "y:1;", 4);
        edge.fault(2, "y:1;;y:1", 4);
        edge.fault(2, "y:1y:1", 3);
        edge.behind(2, "y:1;", "", "y ");
        for (int clauses = 1; clauses <= 40; clauses++) {
            String law = Edge.times(clauses, ";y:7").substring(1);
            edge.fault(2, law, NONE);
            worth(law, 7);
        }
        String many = Edge.times(19, "y:k>0?1;") + "y:42";
        edge.fault(2, many, NONE);
        worth(many, 42);
    }

    private void clause() {
        edge.says("y, : , perhaps CONDITION ?, then SUM.");
        edge.behind(2, "", "", "y ");
        edge.behind(2, "y", "", ": ");
        edge.behind(2, "y:", ATOMS, "[!( ");
        edge.behind(2, "y:1=1?", ATOMS, "[ ");
        edge.behind(2, "y:1=1?1", DIGITS + " ", "+-*/;");
        edge.fault(2, "y:?1", 2);
        edge.fault(2, "y1", 1);
        edge.fault(2, "Y:1", 0);
        edge.fault(2, "y:1?1", 3);
        edge.fault(2, "y:1=1", 5);
        edge.fault(2, "y:1=1;y:1", 5);
        edge.fault(2, "y:1=1?1?1", 7);
        edge.fault(2, "y:1=1?1=1", 7);
        edge.fault(2, "y:1=1?1=1?1", 7);
        edge.beginnings(2, "y:!(t=1)&k<2|n>3?c*l/[2-1]+4;y:0", 18, 20, 26, 28, 32);
    }

    private void conditions() {
        edge.says("CONDITION: TRUTHS with | between; TRUTH: UNITS with & between; UNIT: ! UNIT, ( CONDITION ),"
            + " or SUM, one of = < >, SUM.");
        String start = ATOMS + "[!( ";
        for (String ahead : new String[] {"y:!", "y:(", "y:1=1|", "y:1=1&", "y:!!", "y:((", "y:(1=1|", "y:(1=1&"}) {
            edge.behind(2, ahead, "", start);
        }
        for (String sign : new String[] {"=", "<", ">"}) {
            edge.behind(2, "y:1" + sign, "", ATOMS + "[ ");
            edge.behind(2, "y:(1" + sign, "", ATOMS + "[ ");
            edge.behind(2, "y:1" + sign + "1", "", DIGITS + "+-*/&|? ");
            edge.behind(2, "y:(1" + sign + "1", "", DIGITS + "+-*/&|) ");
            edge.fault(2, "y:1" + sign + "1?1", NONE);
        }
        edge.behind(2, "y:!1", "", DIGITS + "+-*/=<> ");
        edge.behind(2, "y:(1", "", DIGITS + "+-*/=<> ");
        edge.behind(2, "y:1=1|1", "", DIGITS + "+-*/=<> ");
        edge.behind(2, "y:1=1&1", "", DIGITS + "+-*/=<> ");
        edge.behind(2, "y:(1=1)", "", "&|? ");
        edge.behind(2, "y:!1=1", "", DIGITS + "+-*/&|? ");
        edge.behind(2, "y:((1=1)", "", "&|) ");
        edge.fault(2, "y:()?1", 3);
        edge.fault(2, "y:1=1||1=1?1", 6);
        edge.fault(2, "y:1=1&&1=1?1", 6);
        edge.fault(2, "y:1=!1?1", 4);
        edge.fault(2, "y:1=(1)?1", 4);
        edge.fault(2, "y:1==1?1", 4);
        edge.fault(2, "y:1<=1?1", 4);
        edge.fault(2, "y:1=1)?1", 5);
        edge.fault(2, "y:(1=1?1", 6);
        edge.fault(2, "y:((1=1)?1", 8);
    }

    private void sums() {
        edge.says("SUM: TERMS with + or - between; TERM: ATOMS with * or / between; ");
        for (char sign : "+-*/".toCharArray()) {
            edge.behind(2, "y:1" + sign, ATOMS, "[ ");
            edge.behind(2, "y:1" + sign + "1", DIGITS + " ", "+-*/;" + COMPARED);
            edge.fault(2, "y:" + sign + "1", 2);
            edge.fault(2, "y:1" + sign + sign + "1", 4);
            edge.fault(2, "y:[" + sign + "1]", 3);
            edge.fault(2, "y:1=" + sign + "1?1", 4);
        }
        String[] right = {"20-5-5=10", "20-5+5=20", "20+5-5=20", "100/10/5=2", "100/10*5=50", "2*7/3=4", "7/3*2=4",
            "2+3*4=14", "2*3+4=10", "20-4/2=18", "20/4-2=3", "[2+3]*4=20", "20-[5-5]=20", "100/[10/5]=50",
            "2*[3+4]*5=70", "10-2*3-1=3", "1+2*3*4+5=30"};
        for (String each : right) {
            holds(each);
        }
    }

    private void atoms() {
        edge.says("ATOM: a number (1 to 4 digits), a letter (t k n c l), [ SUM ].");
        edge.behind(2, "y:12", DIGITS + " ", "+-*/;" + COMPARED);
        edge.behind(2, "y:123", DIGITS + " ", "+-*/;" + COMPARED);
        edge.behind(2, "y:1234", " ", "+-*/;" + COMPARED);
        edge.behind(2, "y:1 ", " ", "+-*/;" + COMPARED);
        edge.behind(2, "y:t", " ", "+-*/;" + COMPARED);
        edge.behind(2, "y:[", "", ATOMS + "[ ");
        edge.behind(2, "y:[1", "]", DIGITS + "+-*/ ");
        edge.behind(2, "y:[1]", " ", "+-*/;" + COMPARED);
        edge.fault(2, "y:[]", 3);
        edge.fault(2, "y:[1", 4);
        edge.fault(2, "y:[1))", 4);
        edge.fault(2, "y:[1=1]", 4);
        edge.fault(2, "y:1]", 3);
        String[] right = {"0=0000", "9=0009", "9999=9998+1", "9999>9998", "1000=999+1", "10=9+1", "100=99+1", "[7]=7",
            "[[7]]=7", "t=500", "k=0", "n=0", "c=0", "l=1", "[t-k]=500"};
        for (String each : right) {
            holds(each);
        }
    }

    private void conditionsAhead() {
        edge.says("(A CLAUSE that goes on with ! or ( behind its : has a CONDITION.)");
        edge.fault(2, "y:(1)", 4);
        edge.fault(2, "y:(1+1)", 6);
        edge.fault(2, "y:(1)=1?1", 4);
        edge.fault(2, "y:(1=1)", 7);
        edge.fault(2, "y:(1=1);y:1", 7);
        edge.fault(2, "y:(1=1)+1", 7);
        edge.fault(2, "y:(1=1)=1", 7);
        edge.fault(2, "y: (1=1)?1", NONE);
        edge.fault(2, "y:!1", 4);
        edge.fault(2, "y:!1;y:1", 4);
        edge.fault(2, "y:!1=1", 6);
        edge.fault(2, "y:!1=1;y:1", 6);
        edge.fault(2, "y: !1=1?1", NONE);
        edge.fault(2, "y:1;y:(1)", 8);
        edge.fault(2, "y:1;y:!1;", 8);
    }

    /** So many openings of a row, of which the bits tell ! or (, and behind them [ alone. */
    private static String openings(int units, int bits, int brackets) {
        StringBuilder text = new StringBuilder();
        for (int i = 0; i < units; i++) {
            text.append((bits >> i & 1) == 0 ? '!' : '(');
        }
        return text + Edge.times(brackets, "[");
    }

    private void within() {
        edge.says("At most six of ( [ ! within one another.");
        for (int units = 0; units <= 6; units++) {
            for (int bits = 0; bits < 1 << units; bits++) {
                String six = openings(units, bits, 6 - units);
                String closed = "t" + Edge.times(6 - units, "]") + "=500" + Edge.times(Integer.bitCount(bits), ")") + "?7";
                edge.fault(2, "y:" + six + closed, NONE);
                int denied = units - Integer.bitCount(bits);
                worth("y:" + six + closed, denied % 2 == 0 ? 7 : 0);
                for (char seventh : "([!".toCharArray()) {
                    edge.fault(2, "y:" + six + seventh, 8);
                    edge.fault(2, "y: " + six + " " + seventh + "t", 10);
                    edge.fault(2, "y:1;y:" + six + seventh, 12);
                }
            }
        }
        String six = "[[[[[[7]]]]]]";
        worth("y:" + six, 7);
        worth("y:" + six + "+" + six + "*" + six, 56);
        worth("y:" + six + "=" + six + "?" + six + ";y:" + six, 7);
        worth("y:!!!!!!t=500&!!!!!!t=500|!!!!!!t=500?" + six, 7);
        worth("y:((((((t=500))))))&((((((t=500))))))?" + six, 7);
        worth("y:(((((!t=1)&(t=500)))))?7", 7);
        worth("y:!!!t=[[[500]]]?7;y:8", 8);
        worth("y:[[[[[[1]+[2]]+[3]]]]]+[1]", 7);
        edge.says(", a seventh of ( [ ! are such.");
        edge.fault(2, "y:[[[[[[1+[2]]]]]]]", 10);
        edge.fault(2, "y:[[[[[[1]+[[2]]]]]]]", 12);
        edge.fault(2, "y:!!!t=[[[[1]]]]?1", 10);
        edge.fault(2, "y:(((((!t=1&!!t=1", 13);
        edge.fault(2, "y:((((((t=1)))))&((((((t=1", 22);
        edge.fault(2, "y:((((((t=1|(t=1", 12);
        edge.fault(2, "y:((((((t=[1", 10);
        edge.fault(2, "y:t=1?[[[[[[[1", 12);
        edge.fault(2, "y:!!!!!!t=1&!!!!!!!t", 18);
    }

    private void bounds() {
        edge.says("Behind each sign numbers are within -1,000,000 .. 1,000,000");
        String[] right = {"1000*1000/1000=1000", "1000*1000/999=1001", "999*1000+999<1000*1000", "999*1000+999+1=1000*1000",
            "1000*1000+1=1000*1000", "999*1000+999+2=1000*1000", "1001*1000=1000*1000", "9999*9999=1000*1000",
            "1000*1000+5-5=1000*1000-5", "1000*1000-1<1000*1000", "1000*1001/1001=999", "1001*1000/2*2=1000*1000",
            "0-1000*1000/1000=0-1000", "[0-1000*1000]/999=0-1001", "0-999*1000-999>0-1000*1000",
            "0-999*1000-999-1=0-1000*1000", "0-1000*1000-1=0-1000*1000", "0-999*1000-999-2=0-1000*1000",
            "[0-1001]*1000=0-1000*1000", "[0-9999]*9999=0-1000*1000", "0-1000*1000-5+5=5-1000*1000",
            "0-1000*1000+1>0-1000*1000", "[0-1000]*1001/1001=0-999", "[0-9999]*[0-9999]=1000*1000",
            "1000*1000-[0-1000*1000]=1000*1000", "0-1000*1000-1000*1000=0-1000*1000", "1000*1000*1000*1000*1000=1000*1000",
            "[1000*1000+1]-1=1000*1000-1", "9999*9999-9999*9999=0", "1000*1000-0=1000*1000", "1000*1000*1=1000*1000"};
        for (String each : right) {
            holds(each);
        }
    }

    private void divisions() {
        edge.says("; / cuts towards 0, by 0 gives 0.");
        String[] right = {"7/2=3", "[0-7]/2=0-3", "7/[0-2]=0-3", "[0-7]/[0-2]=3", "1/2=0", "[0-1]/2=0", "6/7=0", "7/7=1",
            "8/7=1", "13/7=1", "14/7=2", "7/0=0", "0/0=0", "[0-7]/0=0", "7/[1-1]=0", "7/k=0", "5/0+1=1", "1+5/0=1",
            "5/0*3=0", "1000*1000/0=0", "1000*1000/[0-1]=0-1000*1000", "[0-1000*1000]/[0-1]=1000*1000", "0/5=0",
            "1000*1000/1=1000*1000", "7/1=7"};
        for (String each : right) {
            holds(each);
        }
    }

    private void truths() {
        edge.says("or SUM, one of = < >, SUM.");
        for (int one = 499; one <= 501; one++) {
            worth("y:t=" + one + "?7", one == 500 ? 7 : 0);
            worth("y:t<" + one + "?7", one == 501 ? 7 : 0);
            worth("y:t>" + one + "?7", one == 499 ? 7 : 0);
        }
        fails("0-1>0");
        holds("0-1<0");
        edge.says("CONDITION: TRUTHS with | between; TRUTH: UNITS with & between; UNIT: ! UNIT, ( CONDITION ),");
        for (int bits = 0; bits < 8; bits++) {
            boolean a = (bits & 4) != 0;
            boolean b = (bits & 2) != 0;
            boolean c = (bits & 1) != 0;
            truth("a|b&c", bits, a || b && c);
            truth("a&b|c", bits, a && b || c);
            truth("(a|b)&c", bits, (a || b) && c);
            truth("a&(b|c)", bits, a && (b || c));
            truth("a|b|c", bits, a || b || c);
            truth("a&b&c", bits, a && b && c);
            truth("!a&b", bits, !a && b);
            truth("!a|b", bits, !a || b);
            truth("a|!b&c", bits, a || !b && c);
            truth("!(a&b)", bits, !(a && b));
            truth("!(a|b)&c", bits, !(a || b) && c);
            truth("!!a&!b", bits, a && !b);
        }
    }

    /** A condition of a, b and c, each of which holds if its bit is 1 (c the lowest). */
    private void truth(String condition, int bits, boolean want) {
        String told = condition.replace("a", (bits >> 2 & 1) + "=1").replace("b", (bits >> 1 & 1) + "=1")
            .replace("c", (bits & 1) + "=1");
        worth("y:" + told + "?7;y:0-7", want ? 7 : -7);
    }

    private void worths() {
        edge.says("WORTH: the SUM of the first CLAUSE whose CONDITION holds (or has none), 0 without.");
        worth("y:1=1?5;y:1=1?6", 5);
        worth("y:1=2?5;y:1=1?6", 6);
        worth("y:1=2?5;y:1=2?6;y:1=1?7;y:1=1?8", 7);
        worth("y:5;y:1=1?6", 5);
        worth("y:5;y:6", 5);
        worth("y:0;y:6", 0);
        worth("y:1=1?0;y:6", 0);
        worth("y:1=2?5;y:6;y:7", 6);
        worth("y:1=2?5", 0);
        worth("y:1=2?5;y:1>2?6", 0);
        edge.says("of each its number and the WORTH of the LAW that holds (none at first: 0), held within -99 .. 99");
        int[] numbers = {0, 1, 98, 99, 100, 101, 500, 999, 9999};
        for (int each : numbers) {
            worth("y:" + each, Math.min(99, each));
            worth("y:0-" + each, -Math.min(99, each));
        }
        worth("y:1000*1000", 99);
        worth("y:0-1000*1000", -99);
        UnderFloor floor = ruled("A500", "y:7");
        floor.set(2, NONE);
        edge.due("none holds", floor.cue(0, 0, 2), 500);
        UnderFloor none = new UnderFloor();
        Kit.text(none, 1, "A0,B500,C999");
        Kit.text(none, 2, "y:7");
        edge.due("none at first", none.cue(0, 0, 2), 0);
        edge.due("none at first", none.cue(0, 1, 2), 500);
        edge.due("none at first", none.cue(0, 2, 2), 999);
        none.set(2, 0);
        edge.due("the greatest", none.cue(0, 2, 2), 1006);
        times("A999,B999", "y:99", 1098, 1098);
        times("A999,B999", "y:c*9999", 999, 1098);
    }

    private void letters() {
        edge.says("Letters: t its number, k which CUE (0 first), n the NIGHT, c its CRANK (A 0), l how many CUES.");
        String eight = "H0,G100,F200,E300,D400,C500,B600,A999";
        times(eight, "y:k", 0, 101, 202, 303, 404, 505, 606, 999 + 7);
        times(eight, "y:c", 7, 106, 205, 304, 403, 502, 601, 999);
        times(eight, "y:l", 8, 108, 208, 308, 408, 508, 608, 999 + 8);
        times(eight, "y:n", 0, 100, 200, 300, 400, 500, 600, 999);
        times(eight, "y:t/10", 0, 110, 220, 330, 440, 550, 660, 999 + 99);
        times(eight, "y:t=999?1;y:t=0?2", 2, 100, 200, 300, 400, 500, 600, 1000);
        times("A7", "y:l", 8);
        times("A1,B1,C1", "y:k*10+l", 4, 14, 24);
        // t stays the number, though the TIME of the CUE ahead is more
        times("A10,B20,C30", "y:k=0?90;y:t=20?81;y:t", 100, 101, 101);
        for (int night : new int[] {0, 1, 98, 99}) {
            UnderFloor floor = ruled("A500", "y:n");
            edge.due("night", floor.set(1, night), true);
            edge.due("n in night " + night, floor.cue(0, 0, 2), 500 + night);
        }
    }

    private void times() {
        edge.says("; 0 at least, and no less than the TIME of the CUE ahead.");
        times("A0,B0", "y:0-1", 0, 0);
        times("A98,B99,C100,D101", "y:0-99", 0, 0, 1, 2);
        times("A99", "y:0-100", 0);
        times("A0,B0,C0", "y:0", 0, 0, 0);
        times("A10,B20,C30", "y:k=0?9", 19, 20, 30);
        times("A10,B20,C30", "y:k=0?10", 20, 20, 30);
        times("A10,B20,C30", "y:k=0?11", 21, 21, 30);
        times("A10,B20,C30", "y:k=0?50", 60, 60, 60);
        times("A10,B20,C30", "y:k=0?15;y:k=1?0-99", 25, 25, 30);
        times("A10,B20,C30", "y:k=1?10", 10, 30, 30);
        times("A10,B20,C30", "y:k=1?11", 10, 31, 31);
        times("A10,B20,C30", "y:k=2?0-10", 10, 20, 20);
        times("A10,B20,C30", "y:k=2?0-11", 10, 20, 20);
        times("A10,B20,C30", "y:k=2?0-9", 10, 20, 21);
        times("A1,B1,C1,D1,E1,F1,G1,H1", "y:99-k*99", 100, 100, 100, 100, 100, 100, 100, 100);
    }

    private void faults() {
        edge.says("(a fifth one in a LAW)");
        edge.fault(2, "y:1234", NONE);
        edge.fault(2, "y:12345", 6);
        edge.fault(2, "y:00001", 6);
        edge.fault(2, "y:123456", 6);
        edge.fault(2, "y:t=12345?1", 8);
        edge.fault(2, "y:t=1?12345", 10);
        edge.fault(2, "y:1;y:12345", 10);
        edge.fault(2, "y:[12345]", 7);
        edge.fault(2, "y:1+ 12345", 9);
        edge.fault(2, "y:!12345=1?1", 7);
    }
}
