/** What all tests use: counting what is right and what is wrong, and texts fed as numbers. */
final class Kit {
    private final String name;
    private int right;
    private int wrong;

    Kit(String name) {
        this.name = name;
    }

    void due(String call, long got, long want) {
        if (got == want) {
            right++;
            return;
        }
        wrong++;
        if (wrong <= 40) {
            System.out.println(name + ": " + call + " answered " + got + ", due is " + want);
        }
    }

    void due(String call, boolean got, boolean want) {
        due(call, got ? 1 : 0, want ? 1 : 0);
    }

    int wrong() {
        return wrong;
    }

    /** Prints the closing line; exit code 1 if anything was wrong. */
    void close() {
        System.out.println(name + ": " + right + " passed, " + wrong + " failed");
        if (wrong != 0) {
            System.exit(1);
        }
    }

    /** The tape becomes this text, of signs 1 to 255. */
    static void tape(UnderFloor floor, String text) {
        floor.end(0);
        for (int from = 0; from < text.length(); from += 20) {
            int[] n = numbers(text.substring(from, Math.min(text.length(), from + 20)));
            if (floor.feed(n[0], n[1], n[2], n[3], n[4]) < 0) {
                throw new IllegalStateException("the tape is full: " + text);
            }
        }
    }

    /** Twenty signs at most as five numbers, the highest byte first. */
    static int[] numbers(String text) {
        int[] n = new int[5];
        for (int i = 0; i < text.length(); i++) {
            n[i / 4] |= (text.charAt(i) & 255) << (24 - 8 * (i % 4));
        }
        return n;
    }

    static int text(UnderFloor floor, int sort, String text) {
        tape(floor, text);
        return floor.text(sort);
    }

    /** A new object with this CELLAR and these PLAYS. */
    static UnderFloor floor(String cellar, String... plays) {
        UnderFloor floor = new UnderFloor();
        if (text(floor, 0, cellar) < 1) {
            throw new IllegalStateException("no cellar: " + cellar);
        }
        for (String play : plays) {
            if (text(floor, 1, play) < 0) {
                throw new IllegalStateException("no play: " + play);
            }
        }
        return floor;
    }

    static int fault(int sort, String text) {
        UnderFloor floor = new UnderFloor();
        tape(floor, text);
        return floor.fault(sort);
    }

    /** Where a CRANK is; -2 where NoSuchElementException is thrown. */
    static int crank(UnderFloor floor, int crank) {
        try {
            return floor.crank(crank);
        } catch (java.util.NoSuchElementException none) {
            return -2;
        }
    }
}
