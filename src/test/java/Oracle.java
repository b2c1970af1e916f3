import java.util.ArrayList;
import java.util.Arrays;
import java.util.List;

/**
 * The document told a second time, in the most roundabout way: every ORDER is tried,
 * every WAY is found by Floyd and Warshall. It takes texts that are known to be right.
 */
final class Oracle {
    static final int NONE = -1;
    static final int HIDDEN = -1000000;
    static final int THROWS = -2;

    /** A LAW as a function, so that no text needs reading here. */
    interface Worth {
        long of(long t, long k, long n, long c, long l);
    }

    static final class State {
        char[][] grid;
        int[] wind = {3, 3, 3, 3, 3, 3, 3, 3};
        int stoop = 1;
        int night;

        State copy() {
            State copy = new State();
            if (grid != null) {
                copy.grid = new char[grid.length][];
                for (int i = 0; i < grid.length; i++) {
                    copy.grid[i] = grid[i].clone();
                }
            }
            copy.wind = wind.clone();
            copy.stoop = stoop;
            copy.night = night;
            return copy;
        }

        int find(char sign) {
            for (int r = 0; grid != null && r < grid.length; r++) {
                for (int c = 0; c < grid[r].length; c++) {
                    if (grid[r][c] == sign) {
                        return 10 * r + c;
                    }
                }
            }
            return NONE;
        }

        char sign(int place) {
            if (grid == null || place < 0 || place / 10 >= grid.length || place % 10 >= grid[0].length) {
                return 0;
            }
            return grid[place / 10][place % 10];
        }

        void put(int place, char sign) {
            grid[place / 10][place % 10] = sign;
        }

        /** Steps between all PLACES told as numbers below 60. */
        int[][] ways() {
            int far = 10000;
            int[][] d = new int[60][60];
            for (int i = 0; i < 60; i++) {
                Arrays.fill(d[i], far);
                if (sign(i) != 0 && sign(i) != '#') {
                    d[i][i] = 0;
                    int[] next = {i + 1, i - 1, i + 10, i - 10};
                    for (int j : next) {
                        if (sign(j) != 0 && sign(j) != '#') {
                            d[i][j] = 1;
                        }
                    }
                }
            }
            for (int k = 0; k < 60; k++) {
                for (int i = 0; i < 60; i++) {
                    for (int j = 0; j < 60; j++) {
                        d[i][j] = Math.min(d[i][j], d[i][k] + d[k][j]);
                    }
                }
            }
            for (int[] row : d) {
                for (int j = 0; j < 60; j++) {
                    if (row[j] >= far) {
                        row[j] = NONE;
                    }
                }
            }
            return d;
        }
    }

    /** One hand, what it has to do. */
    static final class Hand {
        int[][] ways;
        int from;
        int stoop;
        int[] places;
        int[] cranks;
        int[] winds;
        int[] times;

        /** Per CUE: come, done; null: it can't be. */
        int[][] go(int[] order) {
            int[][] told = new int[cranks.length][];
            int second = 0;
            int place = from;
            for (int cue : order) {
                if (places[cue] == NONE || ways[place][places[cue]] == NONE) {
                    return null;
                }
                int come = second + ways[place][places[cue]] * stoop;
                second = Math.max(come + winds[cue], times[cue]);
                place = places[cue];
                told[cue] = new int[] {come, second};
            }
            return told;
        }

        /** 0 all LATES, 1 the greatest, 2 how many, 3 the last second; NONE: it can't be. */
        int price(int[] order, int what) {
            int[][] told = go(order);
            if (told == null) {
                return NONE;
            }
            int[] all = new int[4];
            for (int cue : order) {
                int late = Math.max(0, told[cue][1] - times[cue]);
                all[0] += late;
                all[1] = Math.max(all[1], late);
                all[2] += late > 0 ? 1 : 0;
                all[3] = Math.max(all[3], told[cue][1]);
            }
            return all[what];
        }

        /** The ORDER and its price; null: it can't be. */
        int[] best(int[] cues, int fixed, int what) {
            int[] best = null;
            for (int[] order : orders(cues)) {
                boolean keeps = true;
                for (int i = 0; i < fixed; i++) {
                    keeps &= order[i] == cues[i];
                }
                int price = keeps ? price(order, what) : NONE;
                if (price != NONE && (best == null || price < best[1])) {
                    best = new int[] {number(order), price};
                }
            }
            return best;
        }

        int least(int[] cues) {
            int[] best = best(cues, 0, 0);
            return best == null ? NONE : best[1];
        }
    }

    final List<int[][]> plays = new ArrayList<>();
    final List<Worth> laws = new ArrayList<>();
    final List<int[]> thuds = new ArrayList<>();
    State state = new State();
    State image;
    int held = NONE;

    static int number(int[] order) {
        int n = 0;
        for (int cue : order) {
            n = 10 * n + cue;
        }
        return n;
    }

    /** All ORDERS of CUES that are told rising, in rising order. */
    static List<int[]> orders(int[] cues) {
        List<int[]> all = new ArrayList<>();
        int[] now = cues.clone();
        while (true) {
            all.add(now.clone());
            int i = now.length - 2;
            while (i >= 0 && now[i] > now[i + 1]) {
                i--;
            }
            if (i < 0) {
                return all;
            }
            int j = now.length - 1;
            while (now[j] < now[i]) {
                j--;
            }
            int swap = now[i];
            now[i] = now[j];
            now[j] = swap;
            for (int a = i + 1, b = now.length - 1; a < b; a++, b--) {
                swap = now[a];
                now[a] = now[b];
                now[b] = swap;
            }
        }
    }

    static int[] cuesOf(int bits) {
        int[] cues = new int[Integer.bitCount(bits)];
        int n = 0;
        for (int i = 0; i < 31; i++) {
            if ((bits >> i & 1) == 1) {
                cues[n++] = i;
            }
        }
        return cues;
    }

    boolean isPlay(int play) {
        return play >= 0 && play < plays.size();
    }

    int size(int play) {
        return plays.get(play).length;
    }

    int[] book(int play) {
        return cuesOf((1 << size(play)) - 1);
    }

    int[] times(int play, int night) {
        int[][] cues = plays.get(play);
        int[] times = new int[cues.length];
        for (int k = 0; k < cues.length; k++) {
            long worth = held == NONE ? 0 : laws.get(held).of(cues[k][1], k, night, cues[k][0], cues.length);
            worth = worth > 99 ? 99 : worth < -99 ? -99 : worth;
            times[k] = (int) Math.max(0, cues[k][1] + worth);
            if (k > 0 && times[k] < times[k - 1]) {
                times[k] = times[k - 1];
            }
        }
        return times;
    }

    Hand hand(State s, int play) {
        Hand hand = new Hand();
        int[][] cues = plays.get(play);
        hand.ways = s.ways();
        hand.from = s.find('*');
        hand.stoop = s.stoop;
        hand.times = times(play, s.night);
        hand.places = new int[cues.length];
        hand.cranks = new int[cues.length];
        hand.winds = new int[cues.length];
        for (int i = 0; i < cues.length; i++) {
            hand.cranks[i] = cues[i][0];
            hand.places[i] = s.find((char) ('A' + cues[i][0]));
            hand.winds[i] = s.wind[cues[i][0]];
        }
        return hand;
    }

    boolean stands() {
        return state.grid != null;
    }

    boolean ready(int play) {
        return stands() && isPlay(play);
    }

    // ---- the face ----

    int cellar(String text) {
        String[] rows = text.replace(" ", "").split("/");
        int night = state.night;
        state = new State();
        state.night = night;
        state.grid = new char[rows.length][];
        for (int i = 0; i < rows.length; i++) {
            state.grid[i] = rows[i].toCharArray();
        }
        image = null;
        thuds.clear();
        return count(0);
    }

    int play(int[][] cues) {
        if (plays.size() == 5) {
            return NONE;
        }
        plays.add(cues);
        return plays.size() - 1;
    }

    int law(Worth law) {
        if (laws.size() == 4) {
            return NONE;
        }
        laws.add(law);
        return laws.size() - 1;
    }

    int place(int crank) {
        return crank < 0 || crank > 7 ? NONE : state.find((char) ('A' + crank));
    }

    int crank(int crank) {
        return place(crank) == NONE ? THROWS : place(crank);
    }

    int at(int place) {
        char sign = state.sign(place);
        switch (sign) {
            case 0: return NONE;
            case '.': return 0;
            case '#': return 1;
            case '*': return 2;
            default: return sign - 'A' + 3;
        }
    }

    int way(int from, int to) {
        return from < 0 || to < 0 || from >= 60 || to >= 60 ? NONE : state.ways()[from][to];
    }

    int cue(int play, int cue, int what) {
        if (!isPlay(play)) {
            return NONE;
        }
        if (cue == NONE && what == 0) {
            return size(play);
        }
        if (cue < 0 || cue >= size(play) || what < 0 || what > 2) {
            return NONE;
        }
        return what == 2 ? times(play, state.night)[cue] : plays.get(play)[cue][what];
    }

    boolean set(int what, int v) {
        if (what == 0 && stands() && v >= 1 && v <= 9) {
            state.stoop = v;
            return true;
        }
        if (what == 1 && v >= 0 && v <= 99) {
            state.night = v;
            return true;
        }
        if (what == 2 && v >= -1 && v < laws.size()) {
            held = v;
            return true;
        }
        return false;
    }

    boolean wind(int crank, int v) {
        if (place(crank) == NONE || v < 1 || v > 30) {
            return false;
        }
        state.wind[crank] = v;
        return true;
    }

    static void exchanged(State s, int one, int other) {
        int a = s.find((char) ('A' + one));
        int b = s.find((char) ('A' + other));
        s.put(a, (char) ('A' + other));
        s.put(b, (char) ('A' + one));
    }

    boolean swap(int one, int other) {
        if (one == other || place(one) == NONE || place(other) == NONE) {
            return false;
        }
        exchanged(state, one, other);
        return true;
    }

    boolean knock(int place) {
        if (state.sign(place) != '#') {
            return false;
        }
        state.put(place, '.');
        return true;
    }

    /** The digits of an ORDER; null: there is no such ORDER. */
    int[] digits(int play, int order) {
        for (int[] each : orders(book(play))) {
            if (number(each) == order) {
                return each;
            }
        }
        return null;
    }

    int order(int play, int order, int what) {
        if (!ready(play) || what < 0 || what > 3 || digits(play, order) == null) {
            return NONE;
        }
        return hand(state, play).price(digits(play, order), what);
    }

    int done(int play, int order, int cue, int what) {
        if (!ready(play) || what < 0 || what > 2 || digits(play, order) == null || cue < 0 || cue >= size(play)) {
            return NONE;
        }
        Hand hand = hand(state, play);
        int[][] told = hand.go(digits(play, order));
        if (told == null) {
            return NONE;
        }
        int[] answers = {told[cue][1], Math.max(0, told[cue][1] - hand.times[cue]), told[cue][0]};
        return answers[what];
    }

    int where(int play, int order, int second) {
        if (!ready(play) || second < 0 || digits(play, order) == null) {
            return NONE;
        }
        Hand hand = hand(state, play);
        int[] cues = digits(play, order);
        int[][] told = hand.go(cues);
        if (told == null) {
            return NONE;
        }
        for (int cue : cues) {
            if (second >= told[cue][0] && second <= told[cue][1]) {
                return hand.cranks[cue];
            }
        }
        return second > told[cues[cues.length - 1]][1] ? 9 : 8;
    }

    int best(int play, int wish, int what) {
        if (!ready(play) || wish < 0 || wish > 2 || what < 0 || what > 1) {
            return NONE;
        }
        int[] best = hand(state, play).best(book(play), 0, wish);
        return best == null ? NONE : best[what];
    }

    boolean isMet(Hand hand, int bits) {
        return hand.least(cuesOf(bits)) == 0;
    }

    int met(int play, int some) {
        if (!ready(play) || some < 1 || some >= 1 << size(play)) {
            return NONE;
        }
        return isMet(hand(state, play), some) ? 1 : 0;
    }

    int knot(int play) {
        if (!ready(play)) {
            return NONE;
        }
        int knot = NONE;
        for (int bits = 1; bits < 1 << size(play); bits++) {
            boolean fewer = knot == NONE || Integer.bitCount(bits) < Integer.bitCount(knot);
            if (fewer && !isMet(hand(state, play), bits)) {
                knot = bits;
            }
        }
        return knot;
    }

    int age(int play) {
        if (!ready(play)) {
            return NONE;
        }
        int age = 0;
        Hand hand = hand(state, play);
        for (hand.stoop = 1; hand.stoop <= 9; hand.stoop++) {
            if (hand.least(book(play)) == 0) {
                age = hand.stoop;
            }
        }
        return age;
    }

    int first() {
        int first = NONE;
        for (int play = 0; stands() && play < plays.size(); play++) {
            if (first == NONE || age(play) < age(first)) {
                first = play;
            }
        }
        return first;
    }

    int post(int play, int what) {
        if (!ready(play) || what < 0 || what > 1) {
            return NONE;
        }
        int[] best = {NONE, NONE};
        for (int place = 0; place < 60; place++) {
            if (state.sign(place) == '#') {
                State s = state.copy();
                s.put(place, '.');
                int lates = hand(s, play).least(book(play));
                if (lates != NONE && (best[1] == NONE || lates < best[1])) {
                    best = new int[] {place, lates};
                }
            }
        }
        return best[what];
    }

    int rope(int play, int what) {
        if (!ready(play) || what < 0 || what > 1) {
            return NONE;
        }
        int[] best = {NONE, NONE};
        for (int crank = 0; crank < 8; crank++) {
            if (place(crank) != NONE) {
                State s = state.copy();
                s.wind[crank] = s.wind[crank] / 2 + s.wind[crank] % 2;
                int lates = hand(s, play).least(book(play));
                if (lates != NONE && (best[1] == NONE || lates < best[1])) {
                    best = new int[] {crank, lates};
                }
            }
        }
        return best[what];
    }

    int both(State s, int play, int other) {
        int one = hand(s, play).least(book(play));
        int two = hand(s, other).least(book(other));
        return one == NONE || two == NONE ? NONE : one + two;
    }

    int exchange(int play, int other, int what) {
        if (!ready(play) || !ready(other) || play == other || what < 0 || what > 1) {
            return NONE;
        }
        int[] best = {0, both(state, play, other)};
        for (int one = 0; one < 8; one++) {
            for (int two = one + 1; two < 8; two++) {
                if (place(one) != NONE && place(two) != NONE) {
                    State s = state.copy();
                    exchanged(s, one, two);
                    int lates = both(s, play, other);
                    if (lates != NONE && (best[1] == NONE || lates < best[1])) {
                        best = new int[] {10 * one + two, lates};
                    }
                }
            }
        }
        return best[1] == NONE ? NONE : best[what];
    }

    int skip(int play, int from, int to) {
        if (!ready(play) || from < 1 || to < from || to >= size(play)) {
            return NONE;
        }
        Hand hand = hand(state, play);
        int earlier = hand.times[to] - hand.times[from - 1];
        int bits = 0;
        for (int i = 0; i < size(play); i++) {
            if (i < from || i > to) {
                bits |= 1 << i;
            }
            if (i > to) {
                hand.times[i] -= earlier;
            }
        }
        return hand.price(cuesOf(bits), 0);
    }

    int nights(int play, int n, int what) {
        if (!ready(play) || n < 1 || n > 30 || what < 0 || what > 1) {
            return NONE;
        }
        int[] worst = {NONE, NONE};
        for (int night = 0; night < n; night++) {
            State s = state.copy();
            s.night = night;
            int lates = hand(s, play).price(book(play), 0);
            if (lates > worst[1]) {
                worst = new int[] {night, lates};
            }
        }
        return worst[what];
    }

    int thud(int second, int crank) {
        if (second < 0 || second > 999 || place(crank) == NONE || thuds.size() == 10) {
            return NONE;
        }
        thuds.add(new int[] {second, crank});
        return thuds.size();
    }

    int fit(int play, int i) {
        if (!ready(play) || i < -1) {
            return NONE;
        }
        List<Integer> fits = new ArrayList<>();
        Hand hand = hand(state, play);
        for (int[] order : orders(book(play))) {
            int[][] told = hand.go(order);
            boolean fit = told != null;
            for (int[] thud : thuds) {
                boolean heard = false;
                for (int cue = 0; fit && cue < told.length; cue++) {
                    heard |= hand.cranks[cue] == thud[1] && told[cue][0] <= thud[0] && thud[0] <= told[cue][1];
                }
                fit &= heard;
            }
            if (fit) {
                fits.add(number(order));
            }
        }
        if (i == NONE) {
            return fits.size();
        }
        return i < fits.size() ? fits.get(i) : NONE;
    }

    int boy(int play, int place, int stoop, int what) {
        char sign = state.sign(place);
        if (!ready(play) || sign == 0 || sign == '#' || stoop < 1 || stoop > 9 || what < 0 || what > 1) {
            return NONE;
        }
        int all = (1 << size(play)) - 1;
        Hand hand = hand(state, play);
        Hand boy = hand(state, play);
        boy.from = place;
        boy.stoop = stoop;
        int[] best = {NONE, NONE};
        for (int bits = 0; bits <= all; bits++) {
            int boys = boy.least(cuesOf(bits));
            int hands = hand.least(cuesOf(all - bits));
            if (boys != NONE && hands != NONE && (best[1] == NONE || boys + hands < best[1])) {
                best = new int[] {bits, boys + hands};
            }
        }
        return best[what];
    }

    int out(int crank) {
        return place(crank) == NONE ? NONE : state.ways()[place(crank)][state.find('*')];
    }

    int walk(int play, int order, int what) {
        if (!ready(play) || what < 0 || what > 1 || digits(play, order) == null) {
            return NONE;
        }
        Hand hand = hand(state, play);
        int[] cues = digits(play, order);
        int[][] told = hand.go(cues);
        if (told == null) {
            return NONE;
        }
        int steps = 0;
        int idle = 0;
        int place = hand.from;
        for (int cue : cues) {
            steps += hand.ways[place][hand.places[cue]];
            place = hand.places[cue];
            idle += Math.max(0, hand.times[cue] - told[cue][0] - hand.winds[cue]);
        }
        return what == 0 ? steps : idle;
    }

    int mend(int play, int k, int what) {
        if (!ready(play) || k < 0 || k > size(play) || what < 0 || what > 1) {
            return NONE;
        }
        int[] best = hand(state, play).best(book(play), k, 0);
        return best == null ? NONE : best[what];
    }

    int slack(int play, int cue) {
        if (!ready(play) || cue < 0 || cue >= size(play)) {
            return NONE;
        }
        int asItIs = hand(state, play).price(book(play), 0);
        int slack = NONE;
        for (int more = 0; more <= 30 && asItIs != NONE; more++) {
            Hand hand = hand(state, play);
            hand.winds[cue] += more;
            if (hand.price(book(play), 0) <= asItIs) {
                slack = more;
            }
        }
        return slack;
    }

    int urgent(int play) {
        if (!ready(play) || hand(state, play).least(book(play)) == NONE) {
            return NONE;
        }
        int bits = 0;
        int asItIs = hand(state, play).least(book(play));
        for (int i = 0; i < size(play); i++) {
            Hand hand = hand(state, play);
            hand.times[i] += 1;
            if (hand.least(book(play)) < asItIs) {
                bits |= 1 << i;
            }
        }
        return bits;
    }

    int dead() {
        if (!stands()) {
            return NONE;
        }
        int dead = 0;
        int[][] ways = state.ways();
        for (int place = 0; place < 60; place++) {
            char sign = state.sign(place);
            if (sign != 0 && sign != '#' && ways[place][state.find('*')] == NONE) {
                dead++;
            }
        }
        return dead;
    }

    int pillar(int play, int what) {
        if (!ready(play) || what < 0 || what > 1 || hand(state, play).least(book(play)) == NONE) {
            return NONE;
        }
        int which = NONE;
        int most = NONE;
        for (int place = 0; place < 60; place++) {
            if (state.sign(place) == '.') {
                State s = state.copy();
                s.put(place, '#');
                int lates = hand(s, play).least(book(play));
                lates = lates == NONE ? Integer.MAX_VALUE : lates;
                if (which == NONE || lates > most) {
                    which = place;
                    most = lates;
                }
            }
        }
        if (which == NONE) {
            return NONE;
        }
        return what == 0 ? which : most == Integer.MAX_VALUE ? HIDDEN : most;
    }

    int image() {
        if (!stands()) {
            return NONE;
        }
        image = state.copy();
        return count(8);
    }

    int back() {
        if (image == null) {
            return NONE;
        }
        state = image.copy();
        return count(8);
    }

    int count(int what) {
        int cranks = 0;
        int posts = 0;
        for (int place = 0; place < 60; place++) {
            char sign = state.sign(place);
            cranks += sign >= 'A' && sign <= 'H' ? 1 : 0;
            posts += sign == '#' ? 1 : 0;
        }
        switch (what) {
            case 0: return cranks;
            case 1: return plays.size();
            case 2: return laws.size();
            case 3: return 0;
            case 4: return state.stoop;
            case 5: return state.night;
            case 6: return held;
            case 7: return thuds.size();
            case 8: return posts;
            default: return HIDDEN;
        }
    }
}
