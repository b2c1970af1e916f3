/** FAULTS of texts made by chance: right ones, cut ones, ones with a byte changed. */
public final class FaultTest {
    private static final String[] SIGNS = {" ./#*ABCDEFGHI/", " ,,ABCDEFGHI0123456789", " y::?;tknclm0123456789[]()!&|=<>+-*/"};

    private FaultTest() {
    }

    public static void main(String[] args) {
        Kit kit = new Kit("FaultTest");
        for (int seed = 1; seed <= 30000; seed++) {
            Dice dice = new Dice(seed);
            Texts texts = new Texts(dice);
            texts.blanks = dice.oneIn(2);
            int sort = dice.below(3);
            String text = made(texts, sort);
            kit.due("fault of the right " + text, text.length() > 160 ? -1 : Kit.fault(sort, text), -1);
            for (int times = dice.from(1, 3); times > 0; times--) {
                text = changed(dice, sort, text);
            }
            if (text.length() <= 160) {
                kit.due("fault " + sort + " of " + text, Kit.fault(sort, text), Grammar.fault(sort, text));
            }
        }
        kit.close();
    }

    private static String made(Texts texts, int sort) {
        Dice dice = texts.dice;
        if (sort == 0) {
            int places = dice.from(2, 9);
            return texts.cellar(dice.from(1, 6), places, dice.from(1, Math.min(8, places - 1)), dice.below(3));
        }
        if (sort == 1) {
            texts.play(dice.from(1, 8), 8, dice.oneIn(3) ? 3 : 140);
        } else {
            texts.law();
        }
        return texts.text;
    }

    private static String changed(Dice dice, int sort, String text) {
        int at = dice.below(text.length() + 1);
        char sign = SIGNS[sort].charAt(dice.below(SIGNS[sort].length()));
        String head = text.substring(0, at);
        String rest = text.substring(at);
        switch (dice.below(5)) {
            case 0: return head;
            case 1: return head + (rest.isEmpty() ? "" : rest.substring(1));
            case 2: return head + sign + (rest.isEmpty() ? "" : rest.substring(1));
            case 3: return head + sign + sign + rest;
            default: return head + sign + rest;
        }
    }
}
