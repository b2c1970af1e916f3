/** Makes right texts of all three sorts, and tells LAWS as functions without reading them. */
final class Texts {
    final Dice dice;
    /** The text that was made last. */
    String text = "";
    boolean blanks;

    Texts(Dice dice) {
        this.dice = dice;
    }

    String cellar(int rows, int columns, int cranks, int posts) {
        char[] cells = new char[rows * columns];
        java.util.Arrays.fill(cells, '.');
        put(cells, '*');
        int letters = 0;
        for (int i = 0; i < cranks; i++) {
            int letter = dice.below(8);
            while ((letters >> letter & 1) == 1) {
                letter = (letter + 1) % 8;
            }
            letters |= 1 << letter;
            put(cells, (char) ('A' + letter));
        }
        for (int i = 0; i < posts; i++) {
            put(cells, '#');
        }
        StringBuilder out = new StringBuilder();
        for (int i = 0; i < cells.length; i++) {
            out.append(i > 0 && i % columns == 0 ? "/" : "").append(dice.blanks(blanks)).append(cells[i]);
        }
        text = out.append(dice.blanks(blanks)).toString();
        return text;
    }

    private void put(char[] cells, char sign) {
        for (int tries = 0; tries < 1000; tries++) {
            int at = dice.below(cells.length);
            if (cells[at] == '.') {
                cells[at] = sign;
                return;
            }
        }
    }

    int[][] play(int size, int cranks, int gap) {
        int[][] cues = new int[size][2];
        StringBuilder out = new StringBuilder();
        int number = dice.below(gap + 1);
        for (int i = 0; i < size; i++) {
            cues[i][0] = dice.below(cranks);
            cues[i][1] = number;
            out.append(i > 0 ? "," : "").append(dice.blanks(blanks)).append((char) ('A' + cues[i][0]));
            out.append(dice.blanks(blanks)).append(number < 100 && dice.oneIn(9) ? "0" : "").append(number);
            out.append(dice.blanks(blanks));
            number = Math.min(999, number + dice.below(gap + 1));
        }
        text = out.toString();
        return cues;
    }

    /** A value and how it is written. */
    private static final class Sum {
        final Oracle.Worth worth;
        final String text;

        Sum(Oracle.Worth worth, String text) {
            this.worth = worth;
            this.text = text;
        }
    }

    private interface Holds {
        boolean at(long t, long k, long n, long c, long l);
    }

    private static final class Condition {
        final Holds holds;
        final String text;

        Condition(Holds holds, String text) {
            this.holds = holds;
            this.text = text;
        }
    }

    Oracle.Worth law() {
        while (true) {
            Oracle.Worth law = clauses(dice.from(1, 3));
            if (text.length() <= 160) {
                return law;
            }
        }
    }

    private Oracle.Worth clauses(int most) {
        String b = dice.blanks(blanks);
        boolean conditional = dice.oneIn(2) || most > 1;
        Condition condition = conditional ? condition(dice.below(4)) : null;
        Sum sum = sum(dice.below(3));
        String head = b + "y" + dice.blanks(blanks) + ":" + b;
        String own = head + (condition == null ? "" : condition.text + "?") + sum.text;
        Oracle.Worth rest = (t, k, n, c, l) -> 0;
        if (most > 1) {
            rest = clauses(most - 1);
            own = own + ";" + text;
        }
        text = own;
        Oracle.Worth others = rest;
        return (t, k, n, c, l) -> condition == null || condition.holds.at(t, k, n, c, l)
            ? sum.worth.of(t, k, n, c, l) : others.of(t, k, n, c, l);
    }

    private Condition condition(int within) {
        Condition one = truth(within);
        if (!dice.oneIn(3)) {
            return one;
        }
        Condition other = condition(within);
        return new Condition((t, k, n, c, l) -> one.holds.at(t, k, n, c, l) || other.holds.at(t, k, n, c, l),
            one.text + "|" + other.text);
    }

    private Condition truth(int within) {
        Condition one = unit(within);
        if (!dice.oneIn(3)) {
            return one;
        }
        Condition other = truth(within);
        return new Condition((t, k, n, c, l) -> one.holds.at(t, k, n, c, l) && other.holds.at(t, k, n, c, l),
            one.text + "&" + other.text);
    }

    private Condition unit(int within) {
        int sort = within > 0 ? dice.below(4) : 0;
        if (sort == 1) {
            Condition one = unit(within - 1);
            return new Condition((t, k, n, c, l) -> !one.holds.at(t, k, n, c, l), "!" + dice.blanks(blanks) + one.text);
        }
        if (sort == 2) {
            Condition one = condition(within - 1);
            return new Condition(one.holds, "(" + one.text + dice.blanks(blanks) + ")" + dice.blanks(blanks));
        }
        Sum left = sum(within);
        Sum right = sum(within);
        switch (dice.below(3)) {
            case 0: return new Condition((t, k, n, c, l) ->
                left.worth.of(t, k, n, c, l) == right.worth.of(t, k, n, c, l), left.text + "=" + right.text);
            case 1: return new Condition((t, k, n, c, l) ->
                left.worth.of(t, k, n, c, l) < right.worth.of(t, k, n, c, l), left.text + "<" + right.text);
            default: return new Condition((t, k, n, c, l) ->
                left.worth.of(t, k, n, c, l) > right.worth.of(t, k, n, c, l), left.text + ">" + right.text);
        }
    }

    static long bounded(long v) {
        return v > 1000000 ? 1000000 : v < -1000000 ? -1000000 : v;
    }

    private Sum sum(int within) {
        Sum sum = term(within);
        for (int i = dice.below(3); i > 0; i--) {
            Sum one = sum;
            Sum other = term(within);
            sum = dice.oneIn(2)
                ? new Sum((t, k, n, c, l) -> bounded(one.worth.of(t, k, n, c, l) + other.worth.of(t, k, n, c, l)),
                    one.text + "+" + other.text)
                : new Sum((t, k, n, c, l) -> bounded(one.worth.of(t, k, n, c, l) - other.worth.of(t, k, n, c, l)),
                    one.text + "-" + other.text);
        }
        return sum;
    }

    private static long quotient(long a, long b) {
        return b == 0 ? 0 : a / b;
    }

    private Sum term(int within) {
        Sum term = atom(within);
        for (int i = dice.below(6) / 3 * dice.below(4); i > 0; i--) {
            Sum one = term;
            Sum other = atom(within);
            term = dice.oneIn(2)
                ? new Sum((t, k, n, c, l) -> bounded(one.worth.of(t, k, n, c, l) * other.worth.of(t, k, n, c, l)),
                    one.text + "*" + other.text)
                : new Sum((t, k, n, c, l) -> quotient(one.worth.of(t, k, n, c, l), other.worth.of(t, k, n, c, l)),
                    one.text + "/" + other.text);
        }
        return term;
    }

    private Sum atom(int within) {
        String b = dice.blanks(blanks);
        if (within > 0 && dice.oneIn(4)) {
            Sum sum = sum(within - 1);
            return new Sum(sum.worth, b + "[" + sum.text + "]" + dice.blanks(blanks));
        }
        switch (dice.below(8)) {
            case 0: return new Sum((t, k, n, c, l) -> t, b + "t");
            case 1: return new Sum((t, k, n, c, l) -> k, b + "k");
            case 2: return new Sum((t, k, n, c, l) -> n, b + "n");
            case 3: return new Sum((t, k, n, c, l) -> c, b + "c");
            case 4: return new Sum((t, k, n, c, l) -> l, b + "l");
            default:
                int number = dice.oneIn(3) ? dice.below(10000) : dice.below(12);
                return new Sum((t, k, n, c, l) -> number, b + (number < 10 && dice.oneIn(5) ? "00" : "") + number);
        }
    }
}
