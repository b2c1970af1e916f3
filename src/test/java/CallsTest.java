/** Long runs of calls on new objects, each answer held against the Oracle's. */
public final class CallsTest {
    private static final Kit KIT = new Kit("CallsTest");

    private final Dice dice;
    private final Texts texts;
    private final UnderFloor floor = new UnderFloor();
    private final Oracle oracle = new Oracle();
    private final String run;
    private final int mostCues;
    private int cranks = 8;
    private int calls;

    private CallsTest(int seed, int mostCues) {
        dice = new Dice(seed);
        texts = new Texts(dice);
        texts.blanks = dice.oneIn(2);
        run = "run " + seed + " ";
        this.mostCues = mostCues;
    }

    public static void main(String[] args) {
        int runs = args.length > 0 ? Integer.parseInt(args[0]) : 400;
        for (int seed = 0; seed < runs; seed++) {
            new CallsTest(seed, seed % 40 == 0 ? 6 : seed % 4 == 0 ? 5 : 4).play(200);
        }
        // the greatest PLAYS: the Oracle is slow there
        for (int seed = runs; seed < runs + runs / 25; seed++) {
            new CallsTest(seed, 8).play(80);
        }
        KIT.close();
    }

    private void play(int most) {
        newCellar();
        newPlay();
        newPlay();
        for (int i = 0; i < most; i++) {
            call();
        }
    }

    private void due(String call, int got, int want) {
        KIT.due(run + "call " + calls + " " + call, got, want);
    }

    private void newCellar() {
        int rows = dice.from(1, 6);
        int columns = dice.from(2, 9);
        int free = rows * columns - 1;
        int letters = Math.max(1, Math.min(free, dice.from(1, 8)));
        int posts = dice.below(Math.max(1, (free - letters) * (1 + dice.below(3)) / 5 + 1));
        String text = texts.cellar(rows, columns, letters, posts);
        if (text.length() > 160) {
            text = text.replace(" ", "");
        }
        due("text(0) " + text, Kit.text(floor, 0, text), oracle.cellar(text));
        cranks = 8;
    }

    private void newPlay() {
        int[][] cues = new int[dice.from(1, mostCues)][];
        cues = texts.play(cues.length, 8, dice.oneIn(5) ? 0 : dice.from(1, 25));
        for (int tries = 0; tries < 30 && !dice.oneIn(6) && !standsFor(cues); tries++) {
            cues = texts.play(cues.length, 8, dice.from(1, 25));
        }
        due("text(1) " + texts.text, Kit.text(floor, 1, texts.text), oracle.play(cues));
        floor.end(0);
    }

    /** A FAULT asked for, whatever it is, changes nothing but the tape. */
    private void textsThatAreNotTaken() {
        String text = texts.cellar(dice.from(1, 6), dice.from(5, 9), dice.from(1, 3), 2);
        Kit.tape(floor, text.replace(" ", ""));
        due("fault(0)", floor.fault(0), Oracle.NONE);
        texts.play(3, 8, 20);
        Kit.tape(floor, texts.text);
        due("fault(1)", floor.fault(1), Oracle.NONE);
        texts.law();
        Kit.tape(floor, texts.text);
        due("fault(2)", floor.fault(2), Oracle.NONE);
        due("text(0) of a law", floor.text(0), Oracle.NONE);
        floor.end(0);
    }

    private boolean standsFor(int[][] cues) {
        for (int[] cue : cues) {
            if (oracle.place(cue[0]) == Oracle.NONE) {
                return false;
            }
        }
        return true;
    }

    private void newLaw() {
        Oracle.Worth law = texts.law();
        due("text(2) " + texts.text, Kit.text(floor, 2, texts.text), oracle.law(law));
        floor.end(0);
    }

    private int play() {
        return dice.oneIn(12) ? dice.from(-1, 5) : dice.below(Math.max(1, oracle.plays.size()));
    }

    private int what(int most) {
        return dice.oneIn(12) ? dice.from(-1, most + 1) : dice.from(0, most);
    }

    private int size(int play) {
        return oracle.isPlay(play) ? oracle.size(play) : 3;
    }

    private int order(int play) {
        if (dice.oneIn(12)) {
            return dice.from(-2, 400);
        }
        int n = 0;
        int seen = 0;
        for (int i = 0; i < size(play); i++) {
            int cue = dice.below(size(play));
            while ((seen >> cue & 1) == 1) {
                cue = (cue + 1) % size(play);
            }
            seen |= 1 << cue;
            n = 10 * n + cue;
        }
        return n;
    }

    private int place() {
        return dice.from(-2, 61);
    }

    private int letter() {
        return dice.oneIn(12) ? dice.from(-2, 9) : dice.below(8);
    }

    private void call() {
        calls++;
        int sort = dice.below(37);
        if (sort < 12) {
            told(sort);
        } else if (sort < 24) {
            byOrder(sort);
        } else {
            altered(sort);
        }
    }

    private void flag(String call, boolean got, boolean want) {
        due(call, got ? 1 : 0, want ? 1 : 0);
    }

    private void told(int sort) {
        int a = letter();
        int b = letter();
        int p = place();
        int q = place();
        int v = dice.oneIn(6) ? dice.from(-2, 101) : dice.from(1, 9);
        switch (sort) {
            case 0: due("crank " + a, Kit.crank(floor, a), oracle.crank(a)); break;
            case 1: due("at " + p, floor.at(p), oracle.at(p)); break;
            case 2: due("way " + p + " " + q, floor.way(p, q), oracle.way(p, q)); break;
            case 3: int w = what(2);
                v = w == 1 ? dice.from(-1, 100) : w == 2 ? dice.from(-2, 4) : v;
                flag("set " + w + " " + v, floor.set(w, v), oracle.set(w, v)); break;
            case 4: v = dice.from(-1, 32);
                flag("wind " + a + " " + v, floor.wind(a, v), oracle.wind(a, v)); break;
            case 5: flag("swap " + a + " " + b, floor.swap(a, b), oracle.swap(a, b)); break;
            case 6: flag("knock " + p, floor.knock(p), oracle.knock(p)); break;
            case 7: if (dice.oneIn(3)) { newCellar(); } else { textsThatAreNotTaken(); } break;
            case 8: if (dice.oneIn(3)) { newPlay(); } break;
            case 9: if (dice.oneIn(2)) { newLaw(); } break;
            case 10: due("image", floor.image(), oracle.image()); break;
            default: if (dice.oneIn(2)) { due("back", floor.back(), oracle.back()); } break;
        }
    }

    private void byOrder(int sort) {
        int p = play();
        int o = order(p);
        int c = dice.from(-1, size(p));
        int s = dice.oneIn(3) ? dice.from(-1, 1200) : dice.from(0, 80);
        int w = what(1);
        int w3 = what(3);
        int k = dice.from(-1, size(p) + 1);
        String at = p + " " + o + " " + c + " " + s + " " + w + " " + w3 + " " + k;
        switch (sort) {
            case 12: due("cue " + at, floor.cue(p, c, w3), oracle.cue(p, c, w3)); break;
            case 13: due("order " + at, floor.order(p, o, w3), oracle.order(p, o, w3)); break;
            case 14: due("done " + at, floor.done(p, o, c, w3), oracle.done(p, o, c, w3)); break;
            case 15: due("where " + at, floor.where(p, o, s), oracle.where(p, o, s)); break;
            case 16: due("walk " + at, floor.walk(p, o, w), oracle.walk(p, o, w)); break;
            case 17: due("best " + at, floor.best(p, w3, w), oracle.best(p, w3, w)); break;
            case 18: due("mend " + at, floor.mend(p, k, w), oracle.mend(p, k, w)); break;
            case 19: due("slack " + at, floor.slack(p, c), oracle.slack(p, c)); break;
            case 20: due("urgent " + at, floor.urgent(p), oracle.urgent(p)); break;
            case 21: int bits = dice.from(-1, 1 << size(p));
                due("met " + at + " " + bits, floor.met(p, bits), oracle.met(p, bits)); break;
            case 22: due("knot " + at, floor.knot(p), oracle.knot(p)); break;
            default: due("age " + at, floor.age(p), oracle.age(p)); break;
        }
    }

    /** Mostly a THUD that some ORDER makes, so that ORDERS are left that fit. */
    private void thud(int play, int second, int letter) {
        int heard = dice.oneIn(5) ? letter : oracle.where(play, order(play), second);
        if (heard < 8 || dice.oneIn(20)) {
            due("thud " + second + " " + heard, floor.thud(second, heard), oracle.thud(second, heard));
        }
    }

    private void altered(int sort) {
        int p = play();
        int q = play();
        int w = what(1);
        int i = dice.from(-1, size(p));
        int j = dice.from(i - 1, size(p));
        int n = dice.from(-1, 32);
        int a = letter();
        int s = dice.from(-1, dice.oneIn(9) ? 1001 : 60);
        int place = place();
        int stoop = dice.from(0, 10);
        int nth = dice.from(-2, 12);
        String at = p + " " + q + " " + w + " " + i + " " + j + " " + n + " " + a + " " + s + " " + place + " " + nth;
        switch (sort) {
            case 24: due("first", floor.first(), oracle.first()); break;
            case 25: due("post " + at, floor.post(p, w), oracle.post(p, w)); break;
            case 26: due("rope " + at, floor.rope(p, w), oracle.rope(p, w)); break;
            case 27: due("exchange " + at, floor.exchange(p, q, w), oracle.exchange(p, q, w)); break;
            case 28: due("skip " + at, floor.skip(p, i, j), oracle.skip(p, i, j)); break;
            case 29: due("nights " + at, floor.nights(p, n, w), oracle.nights(p, n, w)); break;
            case 30: thud(p, s, a); break;
            case 31: due("fit " + at, floor.fit(p, nth), oracle.fit(p, nth)); break;
            case 32: due("boy " + at, floor.boy(p, place, stoop, w), oracle.boy(p, place, stoop, w)); break;
            case 33: due("out " + at, floor.out(a), oracle.out(a)); break;
            case 34: due("dead " + at, floor.dead(), oracle.dead()); break;
            case 35: due("pillar " + at, floor.pillar(p, w), oracle.pillar(p, w)); break;
            default: int c = dice.from(-1, 9);
                due("count " + c, floor.count(c), oracle.count(c)); break;
        }
    }
}
