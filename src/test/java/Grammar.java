/** The FAULT of a text told a second time: LAWS by an automaton with a stack, the others byte by byte. */
final class Grammar {
    private Grammar() {
    }

    static int fault(int sort, String text) {
        return sort == 0 ? cellar(text) : sort == 1 ? play(text) : law(text);
    }

    static int cellar(String text) {
        int row = 0;
        int column = 0;
        int width = 0;
        String seen = "";
        for (int i = 0; i < text.length(); i++) {
            char sign = text.charAt(i);
            if (sign == ' ') {
                continue;
            }
            if (sign == '/') {
                boolean whole = row == 0 ? column >= 2 : column == width;
                if (!whole || row == 5) {
                    return i;
                }
                width = row == 0 ? column : width;
                row++;
                column = 0;
                continue;
            }
            if (".#*ABCDEFGH".indexOf(sign) < 0 || column == (row == 0 ? 9 : width)) {
                return i;
            }
            if (sign != '.' && sign != '#' && seen.indexOf(sign) >= 0) {
                return i;
            }
            seen += sign;
            column++;
        }
        boolean whole = row == 0 ? column >= 2 : column == width;
        boolean start = seen.indexOf('*') >= 0;
        boolean crank = !seen.replaceAll("[^A-H]", "").isEmpty();
        return whole && start && crank ? -1 : text.length();
    }

    static int play(String text) {
        int state = 0;
        int cues = 1;
        int ahead = 0;
        int number = 0;
        int digits = 0;
        for (int i = 0; i <= text.length(); i++) {
            char sign = i < text.length() ? text.charAt(i) : 0;
            boolean digit = sign >= '0' && sign <= '9';
            if (state == 2) {
                if (digit && digits < 3) {
                    number = 10 * number + sign - '0';
                    digits++;
                    continue;
                }
                if (number < ahead) {
                    return i - 1;
                }
                ahead = number;
                state = 3;
            }
            if (i == text.length()) {
                return state == 3 ? -1 : i;
            }
            if (sign == ' ') {
                continue;
            }
            if (state == 0 && sign >= 'A' && sign <= 'H') {
                state = 1;
            } else if (state == 1 && digit) {
                state = 2;
                number = sign - '0';
                digits = 1;
            } else if (state == 3 && sign == ',' && cues < 8) {
                state = 0;
                cues++;
            } else {
                return i;
            }
        }
        return text.length();
    }

    /** What a CLAUSE has been so far: not known yet, a UNIT's left or right SUM, or the SUM behind its ?. */
    private enum Part { UNKNOWN, LEFT, RIGHT, VALUE }

    private static final class Stack {
        private final StringBuilder signs = new StringBuilder();

        char top() {
            return signs.length() == 0 ? 0 : signs.charAt(signs.length() - 1);
        }

        boolean push(char sign) {
            signs.append(sign);
            return signs.length() <= 6;
        }

        boolean pop(char sign) {
            boolean is = top() == sign;
            if (is) {
                signs.setLength(signs.length() - 1);
            }
            return is;
        }

        /** A UNIT has ended, and with it each ! ahead of it. */
        void endUnit() {
            while (top() == '!') {
                pop('!');
            }
        }
    }

    private static final char CLAUSE = 'y';
    private static final char COLON = ':';
    private static final char OPERAND = 'o';
    private static final char BEHIND_ATOM = 'b';
    private static final char BEHIND_PAREN = ')';

    static int law(String text) {
        Stack stack = new Stack();
        Part part = Part.UNKNOWN;
        char state = CLAUSE;
        int digits = 0;
        for (int i = 0; i < text.length(); i++) {
            char sign = text.charAt(i);
            boolean digit = sign >= '0' && sign <= '9';
            if (digit && digits > 0 && digits < 4) {
                digits++;
                continue;
            }
            digits = 0;
            if (sign == ' ') {
                continue;
            }
            if (state == CLAUSE || state == COLON) {
                if (sign != state) {
                    return i;
                }
                state = sign == COLON ? OPERAND : COLON;
                part = Part.UNKNOWN;
                continue;
            }
            if (state == OPERAND) {
                boolean first = part == Part.LEFT || part == Part.UNKNOWN && text.substring(0, i).trim().endsWith(":");
                boolean unit = (sign == '!' || sign == '(') && first && stack.top() != '[';
                unit &= text.substring(0, i).trim().matches("(?s).*[:!(&|]");
                if (digit || "tknclt".indexOf(sign) >= 0) {
                    state = BEHIND_ATOM;
                    digits = digit ? 1 : 0;
                } else if (unit || sign == '[') {
                    if (!stack.push(sign)) {
                        return i;
                    }
                    part = unit ? Part.LEFT : part;
                } else {
                    return i;
                }
                continue;
            }
            boolean within = stack.top() == '[';
            boolean ends = !within && (state == BEHIND_PAREN || part == Part.RIGHT);
            if (state == BEHIND_ATOM && "+-*/".indexOf(sign) >= 0) {
                state = OPERAND;
            } else if (state == BEHIND_ATOM && sign == ']' && stack.pop('[')) {
                state = BEHIND_ATOM;
            } else if (state == BEHIND_ATOM && "=<>".indexOf(sign) >= 0 && !within
                && (part == Part.UNKNOWN || part == Part.LEFT)) {
                part = Part.RIGHT;
                state = OPERAND;
            } else if (ends && "&|".indexOf(sign) >= 0) {
                stack.endUnit();
                part = Part.LEFT;
                state = OPERAND;
            } else if (ends && sign == ')') {
                stack.endUnit();
                if (!stack.pop('(')) {
                    return i;
                }
                state = BEHIND_PAREN;
            } else if (ends && sign == '?') {
                stack.endUnit();
                if (stack.top() != 0) {
                    return i;
                }
                part = Part.VALUE;
                state = OPERAND;
            } else if (state == BEHIND_ATOM && !within && sign == ';'
                && (part == Part.UNKNOWN || part == Part.VALUE)) {
                state = CLAUSE;
            } else {
                return i;
            }
        }
        boolean may = state == BEHIND_ATOM && stack.top() == 0 && (part == Part.UNKNOWN || part == Part.VALUE);
        return may ? -1 : text.length();
    }
}
