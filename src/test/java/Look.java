/**
 * What an object tells when it is asked all: held against what another one tells, it shows what a call has changed.
 * It alters the object that it asks, so that one is of no use any more.
 */
final class Look {
    private static final int[] BOOK = {0, 0, 1, 12, 123, 1234, 12345, 123456, 1234567};

    private final UnderFloor floor;
    private final StringBuilder seen = new StringBuilder();

    private Look(UnderFloor floor) {
        this.floor = floor;
    }

    static String at(UnderFloor floor) {
        Look look = new Look(floor);
        look.counts("");
        look.cellar("");
        look.plays();
        look.laws();
        look.tape();
        look.row("back", floor.back());
        look.counts("back: ");
        look.cellar("back: ");
        return look.seen.toString();
    }

    private void row(String name, int... answers) {
        seen.append(name);
        for (int answer : answers) {
            seen.append(' ').append(answer);
        }
        seen.append('\n');
    }

    private void counts(String when) {
        for (int what = 0; what <= 8; what++) {
            row(when + "count " + what, floor.count(what));
        }
    }

    private void cellar(String when) {
        for (int place = 0; place < 60; place++) {
            if (place % 10 < 6) {
                row(when + "at " + place, floor.at(place));
            }
        }
        for (int crank = 0; crank < 8; crank++) {
            row(when + "crank " + crank, Kit.crank(floor, crank));
        }
        for (int play = 0; play < floor.count(1); play++) {
            int size = floor.cue(play, Edge.NONE, 0);
            for (int cue = 0; cue < size; cue++) {
                row(when + "done " + play + " " + cue, floor.done(play, BOOK[size], cue, 0));
            }
        }
    }

    private void plays() {
        for (int play = 0; play < 5; play++) {
            int size = floor.cue(play, Edge.NONE, 0);
            row("cues " + play, size);
            for (int cue = 0; cue < size; cue++) {
                row("cue " + play + " " + cue, floor.cue(play, cue, 0), floor.cue(play, cue, 1), floor.cue(play, cue, 2));
            }
            row("fit " + play, floor.fit(play, Edge.NONE), floor.fit(play, 0));
        }
    }

    private void laws() {
        for (int law = 0; law < floor.count(2); law++) {
            floor.set(2, law);
            for (int cue = 0; cue < 4; cue++) {
                row("by law " + law + " cue " + cue, floor.cue(0, cue, 2));
            }
        }
    }

    /** What the tape holds is seen best when it is taken as a PLAY, of which there may be too many. */
    private void tape() {
        row("faults", floor.fault(0), floor.fault(1), floor.fault(2));
        int play = floor.text(1);
        row("text", play);
        for (int cue = 0; cue < 2 && play != Edge.NONE; cue++) {
            row("taken " + cue, floor.cue(play, cue, 0), floor.cue(play, cue, 1));
        }
    }
}
