import java.util.function.Supplier;

/** Objects made by the same calls: a new one each time that one has been asked almost as often as the document promises. */
final class Fresh {
    /** The document promises 512 calls; some of them are spent on making the object. */
    private static final int CALLS = 400;

    private final Supplier<UnderFloor> made;
    private UnderFloor floor;
    private int calls;

    Fresh(Supplier<UnderFloor> made) {
        this.made = made;
        floor = made.get();
    }

    /** A new object with this CELLAR and these PLAYS. */
    Fresh(String cellar, String... plays) {
        this(() -> Kit.floor(cellar, plays));
    }

    /** For one call, which must not change the object. */
    UnderFloor floor() {
        if (calls >= CALLS) {
            floor = made.get();
            calls = 0;
        }
        calls++;
        return floor;
    }
}
