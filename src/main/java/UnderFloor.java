import java.util.NoSuchElementException;

/** One hand under the floor: a CELLAR of CRANKS, PLAYS of CUES, LAWS by which they are late or early. */
public final class UnderFloor {
    public static final int NONE = -1;
    public static final int HIDDEN = -1000000;

    private static final int NO_SORT = -2;
    private static final int SORT_CELLAR = 0;
    private static final int SORT_PLAY = 1;
    private static final int SORT_LAW = 2;

    private static final int MOST_BYTES = 160;
    private static final int MOST_PLAYS = 5;
    private static final int MOST_LAWS = 4;
    private static final int MOST_CUES = 8;
    private static final int MOST_THUDS = 10;
    private static final int MOST_STOOP = 9;
    private static final int MOST_WIND = 30;
    private static final int MOST_SLACK = 30;
    private static final int MOST_NIGHTS = 30;
    private static final int LAST_NIGHT = 99;
    private static final int LAST_THUD = 999;

    private static final int CRANKS = 8;
    /** A PLACE is 10 times its ROW and its COLUMN: six ROWS of ten, the tenth COLUMN always outside. */
    private static final int PLACES = 60;
    private static final int SETS = 256;

    private static final int OUTSIDE = -1;
    private static final int FREE = 0;
    private static final int POST = 1;
    private static final int START = 2;
    private static final int FIRST_CRANK = 3;

    private static final int GOES = 8;
    private static final int ALL_DONE = 9;

    private static final int ALL_LATES = 0;
    private static final int GREATEST_LATE = 1;
    private static final int HOW_MANY_LATE = 2;

    private final Text tape;
    private final Reader reader;
    private final Law law;
    private final Cellar cellar;
    private final Cellar kept;
    private final Cellar trial;
    private final Play[] plays;
    private final Play draft;
    private final Text[] laws;
    private final Ways ways;
    private final Job job;
    private final Job boysJob;
    private final Run run;
    private final Search search;
    private final Thuds thuds;
    private int playCount;
    private int lawCount;
    private int lawHeld;

    public UnderFloor() {
        tape = new Text();
        reader = new Reader(tape);
        law = new Law(reader);
        cellar = new Cellar();
        kept = new Cellar();
        trial = new Cellar();
        plays = new Play[MOST_PLAYS];
        for (int i = 0; i < MOST_PLAYS; i++) {
            plays[i] = new Play();
        }
        draft = new Play();
        laws = new Text[MOST_LAWS];
        for (int i = 0; i < MOST_LAWS; i++) {
            laws[i] = new Text();
        }
        ways = new Ways();
        job = new Job(ways);
        boysJob = new Job(ways);
        run = new Run();
        search = new Search(job);
        thuds = new Thuds(job);
        lawHeld = NONE;
    }

    // ---- texts ----

    public int feed(int a, int b, int c, int d, int e) {
        int more = Text.bytesIn(a) + Text.bytesIn(b) + Text.bytesIn(c) + Text.bytesIn(d) + Text.bytesIn(e);
        if (tape.length + more > MOST_BYTES) {
            return NONE;
        }
        tape.add(a);
        tape.add(b);
        tape.add(c);
        tape.add(d);
        tape.add(e);
        return tape.length;
    }

    public boolean end(int n) {
        return tape.cut(n);
    }

    public int fault(int sort) {
        return isSort(sort) ? faultOfTape(sort) : NO_SORT;
    }

    public int text(int sort) {
        if (!isSort(sort) || faultOfTape(sort) != NONE) {
            return NONE;
        }
        if (sort == SORT_CELLAR) {
            return takeCellar();
        }
        return sort == SORT_PLAY ? takePlay() : takeLaw();
    }

    private static boolean isSort(int sort) {
        return sort >= SORT_CELLAR && sort <= SORT_LAW;
    }

    private int faultOfTape(int sort) {
        reader.open(tape);
        if (sort == SORT_CELLAR) {
            return trial.read(reader);
        }
        return sort == SORT_PLAY ? draft.read(reader) : law.check();
    }

    private int takeCellar() {
        reader.open(tape);
        cellar.read(reader);
        kept.clear();
        thuds.size = 0;
        tape.cut(0);
        return cellar.crankCount;
    }

    private int takePlay() {
        if (playCount >= MOST_PLAYS) {
            return NONE;
        }
        reader.open(tape);
        plays[playCount].read(reader);
        tape.cut(0);
        playCount++;
        return playCount - 1;
    }

    private int takeLaw() {
        if (lawCount >= MOST_LAWS) {
            return NONE;
        }
        laws[lawCount].copy(tape);
        tape.cut(0);
        lawCount++;
        return lawCount - 1;
    }

    // ---- the CELLAR and what is told by hand ----

    public int crank(int crank) throws NoSuchElementException {
        int place = cellar.placeOf(crank);
        if (place == NONE) {
            throw new NoSuchElementException("no such crank");
        }
        return place;
    }

    public int at(int place) {
        return cellar.cellAt(place);
    }

    public int way(int from, int to) {
        ways.measure(cellar, from);
        return ways.stepsTo(to);
    }

    public boolean set(int what, int v) {
        if (what == 0) {
            return cellar.tellStoop(v);
        }
        if (what == 1) {
            return cellar.tellNight(v);
        }
        if (what != 2 || v < NONE || v >= lawCount) {
            return false;
        }
        lawHeld = v;
        return true;
    }

    public boolean wind(int crank, int v) {
        return cellar.tellWind(crank, v);
    }

    public boolean swap(int one, int other) {
        return cellar.exchangeCranks(one, other);
    }

    public boolean knock(int place) {
        return cellar.takePost(place);
    }

    public int image() {
        if (!cellar.stands()) {
            return NONE;
        }
        kept.copy(cellar);
        return cellar.posts;
    }

    public int back() {
        if (!kept.stands()) {
            return NONE;
        }
        cellar.copy(kept);
        return cellar.posts;
    }

    public int out(int crank) {
        ways.measure(cellar, cellar.placeOf(crank));
        return ways.stepsTo(cellar.start);
    }

    public int dead() {
        if (!cellar.stands()) {
            return NONE;
        }
        ways.measure(cellar, cellar.start);
        int dead = 0;
        for (int place = 0; place < PLACES; place++) {
            if (cellar.isOpen(place) && ways.stepsTo(place) == NONE) {
                dead++;
            }
        }
        return dead;
    }

    public int count(int what) {
        switch (what) {
            case 0: return cellar.crankCount;
            case 1: return playCount;
            case 2: return lawCount;
            case 3: return tape.length;
            case 4: return cellar.stoop;
            case 5: return cellar.night;
            case 6: return lawHeld;
            case 7: return thuds.size;
            case 8: return cellar.posts;
            default: return HIDDEN;
        }
    }

    // ---- PLAYS by an ORDER ----

    public int cue(int play, int cue, int what) {
        if (!isPlay(play)) {
            return NONE;
        }
        Play asked = plays[play];
        if (cue == NONE && what == 0) {
            return asked.size;
        }
        if (cue < 0 || cue >= asked.size || what < 0 || what > 2) {
            return NONE;
        }
        if (what == 2) {
            law.fillTimes(plays[play], lawThatHolds(), cellar.night, job.times);
            return job.times[cue];
        }
        return what == 0 ? asked.letters[cue] : asked.numbers[cue];
    }

    public int order(int play, int order, int what) {
        if (what < 0 || what > 3 || !runs(play, order)) {
            return NONE;
        }
        switch (what) {
            case 0: return run.lates;
            case 1: return run.greatest;
            case 2: return run.howMany;
            default: return run.last;
        }
    }

    public int done(int play, int order, int cue, int what) {
        if (what < 0 || what > 2 || !runs(play, order) || cue < 0 || cue >= job.size) {
            return NONE;
        }
        if (what == 2) {
            return run.comes[cue];
        }
        return what == 0 ? run.dones[cue] : run.dones[cue] - job.times[cue];
    }

    public int where(int play, int order, int second) {
        if (second < 0 || !runs(play, order)) {
            return NONE;
        }
        return run.crankAt(job, second);
    }

    public int walk(int play, int order, int what) {
        if (!isHalf(what) || !runs(play, order)) {
            return NONE;
        }
        return what == 0 ? run.steps : run.idle;
    }

    private boolean isPlay(int play) {
        return play >= 0 && play < playCount && play < plays.length;
    }

    /** Of two things that a method can tell: is this one of them? */
    private static boolean isHalf(int what) {
        return what == 0 || what == 1;
    }

    private Text lawThatHolds() {
        return lawHeld >= 0 && lawHeld < lawCount && lawHeld < laws.length ? laws[lawHeld] : null;
    }

    /** Lays out the job of a PLAY in the CELLAR as it stands; false: there is no such one. */
    private boolean lay(int play) {
        if (!cellar.stands() || !isPlay(play)) {
            return false;
        }
        job.prepare(cellar, plays[play]);
        law.fillTimes(plays[play], lawThatHolds(), cellar.night, job.times);
        return true;
    }

    private boolean runs(int play, int order) {
        return lay(play) && run.takeOrder(order, job.size) && run.go(job);
    }

    /** All LATES of a set of CUES by the BOOK; NONE: it can't be. */
    private int latesByBook(int some) {
        run.takeBook(some, job.size);
        return run.go(job) ? run.lates : NONE;
    }

    // ---- the best ORDERS ----

    public int best(int play, int wish, int what) {
        if (wish < ALL_LATES || wish > HOW_MANY_LATE || !isHalf(what) || !lay(play)) {
            return NONE;
        }
        return told(wish, 0, what);
    }

    public int mend(int play, int k, int what) {
        if (!isHalf(what) || !lay(play) || k < 0 || k > job.size) {
            return NONE;
        }
        return told(ALL_LATES, k, what);
    }

    /** The best ORDER with its first CUES as the BOOK has them, or what it costs. */
    private int told(int wish, int fixed, int what) {
        if (!search.seek(job, wish, fixed)) {
            return NONE;
        }
        return what == 0 ? search.order : search.least;
    }

    private int leastLates() {
        return told(ALL_LATES, 0, 1);
    }

    public int met(int play, int some) {
        if (!lay(play) || some <= 0 || some > job.allCues()) {
            return NONE;
        }
        return isMet(some) ? 1 : 0;
    }

    /**
     * None LATE means that each is DONE at its TIME, and winding takes a second at least:
     * so the TIMES rise along such an ORDER, and no other than the BOOK's can be it.
     */
    private boolean isMet(int some) {
        return latesByBook(some) == 0;
    }

    public int knot(int play) {
        if (!lay(play)) {
            return NONE;
        }
        int knot = NONE;
        int fewest = MOST_CUES + 1;
        for (int some = 1; some <= job.allCues(); some++) {
            int cues = Integer.bitCount(some);
            if (cues < fewest && !isMet(some)) {
                fewest = cues;
                knot = some;
            }
        }
        return knot;
    }

    public int age(int play) {
        return lay(play) ? ageOfJob() : NONE;
    }

    private int ageOfJob() {
        for (int stoop = MOST_STOOP; stoop > 0; stoop--) {
            job.stoop = stoop;
            if (isMet(job.allCues())) {
                return stoop;
            }
        }
        return 0;
    }

    public int first() {
        int first = NONE;
        int least = MOST_STOOP + 1;
        for (int play = 0; play < playCount; play++) {
            int age = lay(play) ? ageOfJob() : NONE;
            if (age != NONE && age < least) {
                least = age;
                first = play;
            }
        }
        return first;
    }

    // ---- what helps most, what harms most ----

    public int post(int play, int what) {
        if (!isHalf(what) || !lay(play)) {
            return NONE;
        }
        int which = NONE;
        int least = NONE;
        for (int place = 0; place < PLACES; place++) {
            trial.copy(cellar);
            int lates = trial.takePost(place) ? leastInTrial(play) : NONE;
            if (lates != NONE && (least == NONE || lates < least)) {
                least = lates;
                which = place;
            }
        }
        return what == 0 ? which : least;
    }

    public int rope(int play, int what) {
        if (!isHalf(what) || !lay(play)) {
            return NONE;
        }
        int which = NONE;
        int least = NONE;
        for (int crank = 0; crank < CRANKS; crank++) {
            trial.copy(cellar);
            int lates = trial.halveWind(crank) ? leastInTrial(play) : NONE;
            if (lates != NONE && (least == NONE || lates < least)) {
                least = lates;
                which = crank;
            }
        }
        return what == 0 ? which : least;
    }

    public int exchange(int play, int other, int what) {
        if (!isHalf(what) || play == other || !lay(play) || !lay(other)) {
            return NONE;
        }
        trial.copy(cellar);
        int which = 0;
        int least = leastTogether(play, other);
        for (int pair = 0; pair < CRANKS * CRANKS; pair++) {
            int low = pair / CRANKS;
            int high = pair % CRANKS;
            trial.copy(cellar);
            int lates = low < high && trial.exchangeCranks(low, high) ? leastTogether(play, other) : NONE;
            if (lates != NONE && (least == NONE || lates < least)) {
                least = lates;
                which = 10 * low + high;
            }
        }
        return what == 1 || least == NONE ? least : which;
    }

    public int pillar(int play, int what) {
        if (!isHalf(what) || !lay(play) || leastLates() == NONE) {
            return NONE;
        }
        int which = NONE;
        int most = NONE;
        for (int place = 0; place < PLACES && most != HIDDEN; place++) {
            trial.copy(cellar);
            if (!trial.putPost(place)) {
                continue;
            }
            int lates = leastInTrial(play);
            if (lates == NONE || lates > most) {
                most = lates == NONE ? HIDDEN : lates;
                which = place;
            }
        }
        return what == 0 ? which : most;
    }

    /** BEST of a PLAY as if the CELLAR were the trial one; the TIMES are those told already. */
    private int leastInTrial(int play) {
        job.prepare(trial, plays[play]);
        return leastLates();
    }

    private int leastTogether(int play, int other) {
        job.prepare(trial, plays[play]);
        law.fillTimes(plays[play], lawThatHolds(), cellar.night, job.times);
        int ones = leastLates();
        job.prepare(trial, plays[other]);
        law.fillTimes(plays[other], lawThatHolds(), cellar.night, job.times);
        int others = leastLates();
        return ones == NONE || others == NONE ? NONE : ones + others;
    }

    public int urgent(int play) {
        if (!lay(play)) {
            return NONE;
        }
        int asItIs = leastLates();
        if (asItIs == NONE) {
            return NONE;
        }
        int urgent = 0;
        for (int cue = 0; cue < job.size; cue++) {
            job.times[cue]++;
            if (leastLates() < asItIs) {
                urgent |= 1 << cue;
            }
            job.times[cue]--;
        }
        return urgent;
    }

    // ---- the BOOK altered ----

    public int skip(int play, int from, int to) {
        if (!lay(play) || from <= 0 || to < from || to >= job.size) {
            return NONE;
        }
        int earlier = job.times[to] - job.times[from - 1];
        int rest = job.allCues();
        for (int cue = from; cue < job.size; cue++) {
            if (cue <= to) {
                rest &= ~(1 << cue);
            } else {
                job.times[cue] -= earlier;
            }
        }
        return latesByBook(rest);
    }

    public int nights(int play, int n, int what) {
        if (!isHalf(what) || n < 1 || n > MOST_NIGHTS || !lay(play)) {
            return NONE;
        }
        int which = NONE;
        int most = NONE;
        for (int night = 0; night < n; night++) {
            law.fillTimes(plays[play], lawThatHolds(), night, job.times);
            int lates = latesByBook(job.allCues());
            if (lates > most) {
                most = lates;
                which = night;
            }
        }
        return what == 0 ? which : most;
    }

    public int slack(int play, int cue) {
        if (!lay(play) || cue < 0 || cue >= job.size) {
            return NONE;
        }
        int asItIs = latesByBook(job.allCues());
        if (asItIs == NONE) {
            return NONE;
        }
        int slack = 0;
        for (int longer = 1; longer <= MOST_SLACK; longer++) {
            job.winds[cue]++;
            if (latesByBook(job.allCues()) > asItIs) {
                break;
            }
            slack = longer;
        }
        return slack;
    }

    // ---- THUDS and the BOY ----

    public int thud(int second, int crank) {
        if (second < 0 || second > LAST_THUD || cellar.placeOf(crank) == NONE) {
            return NONE;
        }
        return thuds.add(second, crank) ? thuds.size : NONE;
    }

    public int fit(int play, int i) {
        if (i < NONE || !lay(play)) {
            return NONE;
        }
        return thuds.fitting(job, i);
    }

    public int boy(int play, int place, int stoop, int what) {
        if (!isHalf(what) || stoop < 1 || stoop > MOST_STOOP || !cellar.isOpen(place) || !lay(play)) {
            return NONE;
        }
        boysJob.copy(job);
        boysJob.standAt(cellar, place, stoop);
        int which = search.share(job, boysJob);
        if (which == NONE) {
            return NONE;
        }
        return what == 0 ? which : search.least;
    }

    /** A row of bytes: the TAPE, or a LAW. */
    private static final class Text {
        private final int[] bytes = new int[MOST_BYTES];
        private int length;

        /** How many bytes of a number are not 0. */
        static int bytesIn(int number) {
            int bytes = 0;
            for (int shift = 24; shift >= 0; shift -= 8) {
                if ((number >>> shift & 255) != 0) {
                    bytes++;
                }
            }
            return bytes;
        }

        void add(int number) {
            for (int shift = 24; shift >= 0; shift -= 8) {
                int sign = number >>> shift & 255;
                if (sign != 0 && length < bytes.length) {
                    bytes[length] = sign;
                    length++;
                }
            }
        }

        boolean cut(int n) {
            if (n < 0 || n > length) {
                return false;
            }
            length = n;
            return true;
        }

        void copy(Text other) {
            System.arraycopy(other.bytes, 0, bytes, 0, MOST_BYTES);
            length = other.length;
        }
    }

    /** Reads a text sign by sign and keeps the first byte at which it can't go on. */
    private static final class Reader {
        private static final int END = -1;
        private static final int BLANK = 32;

        private Text text;
        private int pos;
        private int fault;

        Reader(Text text) {
            this.text = text;
            fault = NONE;
        }

        void open(Text next) {
            text = next;
            pos = 0;
            fault = NONE;
        }

        /** The next sign behind blanks; END behind a FAULT too, so that whoever reads comes to an end. */
        int peek() {
            if (fault != NONE) {
                return END;
            }
            while (pos < text.length && text.bytes[pos] == BLANK) {
                pos++;
            }
            return pos < text.length ? text.bytes[pos] : END;
        }

        /** Goes on behind the sign that was looked at. */
        void pass() {
            if (pos < text.length) {
                pos++;
            }
        }

        boolean take(int sign) {
            if (peek() != sign) {
                return false;
            }
            pos++;
            return true;
        }

        void need(int sign) {
            if (peek() == sign) {
                pos++;
            } else {
                refuseAt(pos);
            }
        }

        void needEnd() {
            if (peek() != END) {
                refuseAt(pos);
            }
        }

        void refuseAt(int place) {
            if (fault == NONE) {
                fault = place;
            }
        }

        /** A number of so many digits at most; a further digit is left, and nothing goes on with one. */
        int number(int most) {
            if (!isDigit(peek())) {
                refuseAt(pos);
                return 0;
            }
            int number = 0;
            for (int digits = 0; digits < most && pos < text.length && isDigit(text.bytes[pos]); digits++) {
                number = 10 * number + text.bytes[pos] - '0';
                pos++;
            }
            return number;
        }

        static boolean isDigit(int sign) {
            return sign >= '0' && sign <= '9';
        }
    }

    /** The CUES of a PLAY: their letters (A 0) and their numbers. */
    private static final class Play {
        private static final int MOST_DIGITS = 3;

        private final int[] letters = new int[MOST_CUES];
        private final int[] numbers = new int[MOST_CUES];
        private int size;

        /** Answers the FAULT. */
        int read(Reader reader) {
            size = 0;
            readCue(reader, 0);
            for (int cue = 1; cue < MOST_CUES && reader.take(','); cue++) {
                readCue(reader, cue);
            }
            reader.needEnd();
            return reader.fault;
        }

        private void readCue(Reader reader, int cue) {
            int letter = reader.peek();
            if (letter < 'A' || letter > 'H') {
                reader.refuseAt(reader.pos);
                return;
            }
            reader.pass();
            int number = reader.number(MOST_DIGITS);
            if (cue > 0 && number < numbers[cue - 1]) {
                reader.refuseAt(reader.pos - 1);
            }
            letters[cue] = letter - 'A';
            numbers[cue] = number;
            size = cue + 1;
        }
    }

    /** Reads a LAW and reckons its WORTH in one go. */
    private static final class Law {
        private static final int MOST_WITHIN = 6;
        private static final int MOST_DIGITS = 4;
        private static final int BOUND = 1000000;
        private static final int MOST_WORTH = 99;

        private final Reader reader;
        private int number;
        private int place;
        private int night;
        private int crank;
        private int howMany;

        Law(Reader reader) {
            this.reader = reader;
        }

        /** The FAULT of the text that the reader has open. */
        int check() {
            worth();
            return reader.fault;
        }

        /** The TIMES of a PLAY's CUES by a LAW (null: none). */
        void fillTimes(Play play, Text held, int atNight, int[] times) {
            int ahead = 0;
            night = atNight;
            howMany = play.size;
            for (int cue = 0; cue < play.size && cue < times.length; cue++) {
                number = play.numbers[cue];
                place = cue;
                crank = play.letters[cue];
                int time = number;
                if (held != null) {
                    reader.open(held);
                    time += Math.max(-MOST_WORTH, Math.min(MOST_WORTH, worth()));
                }
                ahead = Math.max(ahead, time);
                times[cue] = ahead;
            }
        }

        private int worth() {
            int worth = 0;
            boolean found = false;
            for (int clause = 0; clause < MOST_BYTES; clause++) {
                reader.need('y');
                reader.need(':');
                boolean holds = true;
                if (startsCondition()) {
                    holds = condition(0);
                    reader.need('?');
                }
                int sum = sum(0);
                if (holds && !found) {
                    found = true;
                    worth = sum;
                }
                if (!reader.take(';')) {
                    break;
                }
            }
            reader.needEnd();
            return worth;
        }

        /** A SUM is read ahead, for only the sign behind it tells whether it is a CONDITION's. */
        private boolean startsCondition() {
            int sign = reader.peek();
            if (sign == '!' || sign == '(') {
                return true;
            }
            int start = reader.pos;
            sum(0);
            boolean compared = isComparison(reader.peek());
            reader.pos = start;
            return compared;
        }

        private static boolean isComparison(int sign) {
            return sign == '=' || sign == '<' || sign == '>';
        }

        private boolean condition(int within) {
            boolean holds = truth(within);
            for (int i = 0; i < MOST_BYTES && reader.take('|'); i++) {
                holds = truth(within) || holds;
            }
            return holds;
        }

        private boolean truth(int within) {
            boolean holds = unit(within);
            for (int i = 0; i < MOST_BYTES && reader.take('&'); i++) {
                holds = unit(within) && holds;
            }
            return holds;
        }

        private boolean unit(int within) {
            int sign = reader.peek();
            if (sign != '!' && sign != '(') {
                return comparison(within);
            }
            if (within >= MOST_WITHIN) {
                reader.refuseAt(reader.pos);
                return false;
            }
            reader.pass();
            return sign == '!' ? denied(within + 1) : enclosed(within + 1);
        }

        private boolean denied(int within) {
            return !unit(within);
        }

        private boolean enclosed(int within) {
            boolean holds = condition(within);
            reader.need(')');
            return holds;
        }

        private boolean comparison(int within) {
            int left = sum(within);
            int sign = reader.peek();
            if (!isComparison(sign)) {
                reader.refuseAt(reader.pos);
                return false;
            }
            reader.pass();
            int right = sum(within);
            if (sign == '=') {
                return left == right;
            }
            return sign == '<' ? left < right : left > right;
        }

        private int sum(int within) {
            long sum = term(within);
            for (int i = 0; i < MOST_BYTES; i++) {
                if (reader.take('+')) {
                    sum = held(sum + term(within));
                } else if (reader.take('-')) {
                    sum = held(sum - term(within));
                } else {
                    break;
                }
            }
            return (int) sum;
        }

        private int term(int within) {
            long term = atom(within);
            for (int i = 0; i < MOST_BYTES; i++) {
                if (reader.take('*')) {
                    term = held(term * atom(within));
                } else if (reader.take('/')) {
                    int divisor = atom(within);
                    term = divisor == 0 ? 0 : held(term / divisor);
                } else {
                    break;
                }
            }
            return (int) term;
        }

        private static long held(long number) {
            return Math.max(-BOUND, Math.min(BOUND, number));
        }

        private int atom(int within) {
            int sign = reader.peek();
            if (Reader.isDigit(sign)) {
                return reader.number(MOST_DIGITS);
            }
            if (sign == '[' && within < MOST_WITHIN) {
                reader.pass();
                int sum = sum(within + 1);
                reader.need(']');
                return sum;
            }
            return letter(sign);
        }

        private int letter(int sign) {
            int worth = 0;
            switch (sign) {
                case 't': worth = number; break;
                case 'k': worth = place; break;
                case 'n': worth = night; break;
                case 'c': worth = crank; break;
                case 'l': worth = howMany; break;
                default: reader.refuseAt(reader.pos); return 0;
            }
            reader.pass();
            return worth;
        }
    }

    /** What stands under the floor, and what is told by hand: STOOP, WIND, NIGHT. */
    private static final class Cellar {
        private static final int MOST_ROWS = 6;
        private static final int MOST_COLUMNS = 9;
        private static final int FEWEST_COLUMNS = 2;
        private static final int WIND_AT_FIRST = 3;

        private final int[] cells = new int[PLACES];
        private final int[] places = new int[CRANKS];
        private final int[] winds = new int[CRANKS];
        private int start;
        private int width;
        private int crankCount;
        private int posts;
        private int stoop;
        private int night;

        Cellar() {
            clear();
        }

        /** The NIGHT stays: it is told without a CELLAR too. */
        void clear() {
            for (int place = 0; place < PLACES; place++) {
                cells[place] = OUTSIDE;
            }
            for (int crank = 0; crank < CRANKS; crank++) {
                places[crank] = NONE;
                winds[crank] = WIND_AT_FIRST;
            }
            start = NONE;
            width = 0;
            crankCount = 0;
            posts = 0;
            stoop = 1;
        }

        boolean stands() {
            return width > 0;
        }

        /** Answers the FAULT. */
        int read(Reader reader) {
            clear();
            readRow(reader, 0);
            for (int row = 1; row < MOST_ROWS && reader.take('/'); row++) {
                readRow(reader, row);
            }
            reader.needEnd();
            if (start == NONE || crankCount == 0) {
                reader.refuseAt(reader.pos);
            }
            return reader.fault;
        }

        private void readRow(Reader reader, int row) {
            int most = row == 0 ? MOST_COLUMNS : width;
            int column = 0;
            for (; column < most; column++) {
                int cell = cellOf(reader.peek());
                if (cell == OUTSIDE) {
                    break;
                }
                put(reader, 10 * row + column, cell);
            }
            if (row == 0) {
                width = column;
            }
            if (column < FEWEST_COLUMNS || column < width) {
                reader.refuseAt(reader.pos);
            }
        }

        private static int cellOf(int sign) {
            switch (sign) {
                case '.': return FREE;
                case '#': return POST;
                case '*': return START;
                default: return sign >= 'A' && sign <= 'H' ? FIRST_CRANK + sign - 'A' : OUTSIDE;
            }
        }

        private void put(Reader reader, int place, int cell) {
            int crank = cell - FIRST_CRANK;
            boolean again = cell == START ? start != NONE : placeOf(crank) != NONE;
            if (again) {
                reader.refuseAt(reader.pos);
                return;
            }
            reader.pass();
            cells[place] = cell;
            if (cell == START) {
                start = place;
            } else if (cell == POST) {
                posts++;
            } else if (crank >= 0) {
                places[crank] = place;
                crankCount++;
            }
        }

        void copy(Cellar other) {
            System.arraycopy(other.cells, 0, cells, 0, PLACES);
            System.arraycopy(other.places, 0, places, 0, CRANKS);
            System.arraycopy(other.winds, 0, winds, 0, CRANKS);
            start = other.start;
            width = other.width;
            crankCount = other.crankCount;
            posts = other.posts;
            stoop = other.stoop;
            night = other.night;
        }

        int placeOf(int crank) {
            return crank >= 0 && crank < CRANKS ? places[crank] : NONE;
        }

        int windOf(int crank) {
            return crank >= 0 && crank < CRANKS ? winds[crank] : WIND_AT_FIRST;
        }

        int cellAt(int place) {
            return place >= 0 && place < PLACES ? cells[place] : OUTSIDE;
        }

        boolean isOpen(int place) {
            return place >= 0 && place < PLACES && cells[place] != OUTSIDE && cells[place] != POST;
        }

        boolean tellStoop(int seconds) {
            if (!stands() || seconds < 1 || seconds > MOST_STOOP) {
                return false;
            }
            stoop = seconds;
            return true;
        }

        boolean tellNight(int next) {
            if (next < 0 || next > LAST_NIGHT) {
                return false;
            }
            night = next;
            return true;
        }

        boolean tellWind(int crank, int seconds) {
            if (placeOf(crank) == NONE || seconds < 1 || seconds > MOST_WIND) {
                return false;
            }
            winds[crank] = seconds;
            return true;
        }

        boolean halveWind(int crank) {
            return tellWind(crank, (windOf(crank) + 1) / 2);
        }

        boolean exchangeCranks(int one, int other) {
            int ones = placeOf(one);
            int others = placeOf(other);
            if (ones == NONE || others == NONE || one == other) {
                return false;
            }
            places[one] = others;
            places[other] = ones;
            cells[others] = FIRST_CRANK + one;
            cells[ones] = FIRST_CRANK + other;
            return true;
        }

        boolean takePost(int place) {
            if (cellAt(place) != POST) {
                return false;
            }
            cells[place] = FREE;
            posts--;
            return true;
        }

        boolean putPost(int place) {
            if (cellAt(place) != FREE) {
                return false;
            }
            cells[place] = POST;
            posts++;
            return true;
        }
    }

    /** The WAYS from one PLACE. */
    private static final class Ways {
        private final int[] steps = new int[PLACES];
        private final int[] queue = new int[PLACES];
        private int queued;

        /** From no PLACE, or from a POST, there is no WAY to any. */
        void measure(Cellar cellar, int from) {
            for (int place = 0; place < PLACES; place++) {
                steps[place] = NONE;
            }
            queued = 0;
            reach(cellar, from, 0);
            for (int next = 0; next < queued && next < PLACES; next++) {
                int place = queue[next];
                int further = stepsTo(place) + 1;
                reach(cellar, place - 10, further);
                reach(cellar, place - 1, further);
                reach(cellar, place + 1, further);
                reach(cellar, place + 10, further);
            }
        }

        private void reach(Cellar cellar, int place, int way) {
            if (cellar.isOpen(place) && steps[place] == NONE && queued < PLACES) {
                steps[place] = way;
                queue[queued] = place;
                queued++;
            }
        }

        int stepsTo(int place) {
            return place >= 0 && place < PLACES ? steps[place] : NONE;
        }
    }

    /** What one hand has to do: CUES with their TIMES and WIND, and the WAYS between their CRANKS. */
    private static final class Job {
        private static final int FROM_START = MOST_CUES;

        private final Ways ways;
        private final int[] cranks = new int[MOST_CUES];
        private final int[] times = new int[MOST_CUES];
        private final int[] winds = new int[MOST_CUES];
        private final int[] steps = new int[(MOST_CUES + 1) * MOST_CUES];
        private int size;
        private int stoop;

        Job(Ways ways) {
            this.ways = ways;
        }

        /** All but the TIMES. */
        void prepare(Cellar cellar, Play play) {
            size = play.size;
            for (int cue = 0; cue < size && cue < MOST_CUES; cue++) {
                cranks[cue] = play.letters[cue];
                winds[cue] = cellar.windOf(cranks[cue]);
            }
            stoop = cellar.stoop;
            measure(cellar, FROM_START, cellar.start);
            for (int cue = 0; cue < size && cue < MOST_CUES; cue++) {
                measure(cellar, cue, cellar.placeOf(cranks[cue]));
            }
        }

        void standAt(Cellar cellar, int place, int seconds) {
            stoop = seconds;
            measure(cellar, FROM_START, place);
        }

        private void measure(Cellar cellar, int from, int place) {
            ways.measure(cellar, place);
            for (int cue = 0; cue < size && cue < MOST_CUES; cue++) {
                steps[from * MOST_CUES + cue] = ways.stepsTo(cellar.placeOf(cranks[cue]));
            }
        }

        void copy(Job other) {
            System.arraycopy(other.cranks, 0, cranks, 0, MOST_CUES);
            System.arraycopy(other.times, 0, times, 0, MOST_CUES);
            System.arraycopy(other.winds, 0, winds, 0, MOST_CUES);
            System.arraycopy(other.steps, 0, steps, 0, (MOST_CUES + 1) * MOST_CUES);
            size = other.size;
            stoop = other.stoop;
        }

        int allCues() {
            return (1 << size) - 1;
        }

        int stepsBetween(int from, int cue) {
            int index = from * MOST_CUES + cue;
            return index >= 0 && index < steps.length ? steps[index] : NONE;
        }

        /** Where all can be come to from START, all can be come to from one another. */
        boolean canBe() {
            for (int cue = 0; cue < size; cue++) {
                if (stepsBetween(FROM_START, cue) == NONE) {
                    return false;
                }
            }
            return true;
        }

        /** The second at which the CRANK of a CUE is come to from another's; NONE: it can't be. */
        int comes(int second, int from, int cue) {
            int way = stepsBetween(from, cue);
            return way == NONE ? NONE : second + way * stoop;
        }

        int wound(int come, int cue) {
            return come + winds[cue];
        }

        int dones(int come, int cue) {
            return Math.max(wound(come, cue), times[cue]);
        }
    }

    /** The HAND by one ORDER: when it comes, when what is DONE. */
    private static final class Run {
        private final int[] cues = new int[MOST_CUES];
        private final int[] comes = new int[MOST_CUES];
        private final int[] dones = new int[MOST_CUES];
        private int length;
        private int lates;
        private int greatest;
        private int howMany;
        private int last;
        private int steps;
        private int idle;

        /** False: the digits are no ORDER of so many CUES. */
        boolean takeOrder(int order, int size) {
            int rest = order;
            int seen = 0;
            length = size;
            for (int i = size - 1; i >= 0 && i < MOST_CUES; i--) {
                int cue = rest % 10;
                rest /= 10;
                if (cue < 0 || cue >= size || (seen >> cue & 1) == 1) {
                    return false;
                }
                seen |= 1 << cue;
                cues[i] = cue;
            }
            return rest == 0;
        }

        /** Of the BOOK the CUES of a set alone. */
        void takeBook(int some, int size) {
            length = 0;
            for (int cue = 0; cue < size && cue < MOST_CUES; cue++) {
                if ((some >> cue & 1) == 1 && length < MOST_CUES) {
                    cues[length] = cue;
                    length++;
                }
            }
        }

        /** False: it can't be. */
        boolean go(Job job) {
            int from = Job.FROM_START;
            lates = 0;
            greatest = 0;
            howMany = 0;
            last = 0;
            steps = 0;
            idle = 0;
            for (int i = 0; i < length && i < MOST_CUES; i++) {
                int cue = cues[i];
                int come = job.comes(last, from, cue);
                if (come == NONE) {
                    return false;
                }
                steps += job.stepsBetween(from, cue);
                last = job.dones(come, cue);
                idle += last - job.wound(come, cue);
                comes[cue] = come;
                dones[cue] = last;
                addLate(last - job.times[cue]);
                from = cue;
            }
            return true;
        }

        private void addLate(int late) {
            lates += late;
            greatest = Math.max(greatest, late);
            if (late > 0) {
                howMany++;
            }
        }

        int crankAt(Job job, int second) {
            for (int i = 0; i < length && i < MOST_CUES; i++) {
                int cue = cues[i];
                if (comes[cue] <= second && second <= dones[cue]) {
                    return job.cranks[cue];
                }
            }
            return second > last ? ALL_DONE : GOES;
        }
    }

    /** Looks through the ORDERS of a job, the least as digits first. */
    private static final class Search {
        /** More than any second or any LATES; two of it are no number that wraps around. */
        private static final int FAR = 1000000000;

        private final int[] seconds = new int[SETS * MOST_CUES];
        private final int[] costs = new int[SETS * MOST_CUES];
        private final int[] handsLates = new int[SETS];
        private final int[] boysLates = new int[SETS];
        private Job job;
        private int wish;
        private int fixed;
        private int least;
        private int order;

        Search(Job first) {
            job = first;
        }

        /** The best ORDER among those whose first CUES are as in the BOOK; false: it can't be. */
        boolean seek(Job asked, int by, int first) {
            job = asked;
            wish = by;
            fixed = first;
            least = FAR;
            order = 0;
            if (!job.canBe()) {
                return false;
            }
            forget();
            visit(0, 0, Job.FROM_START, 0, 0, 0);
            return least != FAR;
        }

        private void forget() {
            int all = (job.allCues() + 1) * MOST_CUES;
            for (int i = 0; i < all && i < seconds.length; i++) {
                seconds[i] = FAR;
                costs[i] = FAR;
            }
        }

        private void visit(int depth, int some, int from, int second, int cost, int digits) {
            if (depth >= job.size) {
                least = cost;
                order = digits;
                return;
            }
            int low = depth < fixed ? depth : 0;
            int high = depth < fixed ? depth + 1 : job.size;
            for (int cue = low; cue < high; cue++) {
                int come = (some >> cue & 1) == 1 ? NONE : job.comes(second, from, cue);
                if (come != NONE) {
                    follow(depth, some | 1 << cue, cue, come, cost, 10 * digits + cue);
                }
            }
        }

        private void follow(int depth, int some, int cue, int come, int cost, int digits) {
            int done = job.dones(come, cue);
            int more = withLate(cost, done - job.times[cue]);
            if (more < least && isNew(some, cue, done, more)) {
                visit(depth + 1, some, cue, done, more, digits);
            }
        }

        private int withLate(int cost, int late) {
            if (wish == ALL_LATES) {
                return cost + late;
            }
            if (wish == GREATEST_LATE) {
                return Math.max(cost, late);
            }
            return late > 0 ? cost + 1 : cost;
        }

        /**
         * False: the same CUES were DONE with the same one last, no later and at no greater cost, by less digits:
         * whatever follows is no better than what followed there.
         */
        private boolean isNew(int some, int last, int second, int cost) {
            int index = some * MOST_CUES + last;
            if (index < 0 || index >= seconds.length) {
                return true;
            }
            if (seconds[index] <= second && costs[index] <= cost) {
                return false;
            }
            seconds[index] = second;
            costs[index] = cost;
            return true;
        }

        /** The set that the BOY takes, with the LATES of both in least; NONE: it can't be. */
        int share(Job hands, Job boys) {
            weigh(hands, handsLates);
            weigh(boys, boysLates);
            int all = hands.allCues();
            int which = NONE;
            least = FAR;
            for (int some = 0; some <= all && some < SETS; some++) {
                int boysPart = boysLates[some];
                int handsPart = handsLates[all & ~some];
                if (boysPart != FAR && handsPart != FAR && boysPart + handsPart < least) {
                    least = boysPart + handsPart;
                    which = some;
                }
            }
            return which;
        }

        /** The least LATES of each set of CUES. */
        private void weigh(Job asked, int[] lates) {
            job = asked;
            for (int some = 0; some < lates.length; some++) {
                lates[some] = FAR;
            }
            forget();
            gather(0, 0, Job.FROM_START, 0, 0, lates);
        }

        private void gather(int depth, int some, int from, int second, int cost, int[] lates) {
            if (some < 0 || some >= lates.length || depth > job.size) {
                return;
            }
            lates[some] = Math.min(lates[some], cost);
            for (int cue = 0; cue < job.size; cue++) {
                int come = (some >> cue & 1) == 1 ? NONE : job.comes(second, from, cue);
                if (come != NONE) {
                    gatherBehind(depth, some | 1 << cue, cue, come, cost, lates);
                }
            }
        }

        private void gatherBehind(int depth, int some, int cue, int come, int cost, int[] lates) {
            int done = job.dones(come, cue);
            int more = cost + done - job.times[cue];
            if (isNew(some, cue, done, more)) {
                gather(depth + 1, some, cue, done, more, lates);
            }
        }
    }

    /** At which seconds the HAND was heard at which CRANKS. */
    private static final class Thuds {
        private final int[] seconds = new int[MOST_THUDS];
        private final int[] cranks = new int[MOST_THUDS];
        private int size;
        private Job job;
        private int wanted;
        private int fits;
        private int found;

        Thuds(Job first) {
            job = first;
        }

        boolean add(int second, int crank) {
            if (size >= MOST_THUDS) {
                return false;
            }
            seconds[size] = second;
            cranks[size] = crank;
            size++;
            return true;
        }

        /** How many ORDERS fit (i NONE), or the i-th of them (NONE: there is none). */
        int fitting(Job asked, int i) {
            job = asked;
            wanted = i;
            fits = 0;
            found = NONE;
            if (job.canBe()) {
                visit(0, 0, 0, Job.FROM_START, 0, 0);
            }
            return i == NONE ? fits : found;
        }

        private void visit(int depth, int heard, int some, int from, int second, int digits) {
            if (heard == (1 << size) - 1 && passesOver(job.size - depth)) {
                return;
            }
            if (depth >= job.size) {
                if (heard == (1 << size) - 1) {
                    found = digits;
                }
                return;
            }
            for (int cue = 0; cue < job.size && found == NONE; cue++) {
                int come = (some >> cue & 1) == 1 ? NONE : job.comes(second, from, cue);
                if (come != NONE) {
                    follow(depth, heard, some | 1 << cue, cue, come, 10 * digits + cue);
                }
            }
        }

        private void follow(int depth, int heard, int some, int cue, int come, int digits) {
            int done = job.dones(come, cue);
            int more = heard | heardAt(job.cranks[cue], come, done);
            if (!isMissed(more, done)) {
                visit(depth + 1, more, some, cue, done, digits);
            }
        }

        /** With all THUDS heard every ORDER of the rest fits: they are counted at once, if the wanted one isn't there. */
        private boolean passesOver(int rest) {
            int orders = 1;
            for (int i = 2; i <= rest; i++) {
                orders *= i;
            }
            if (wanted != NONE && wanted - fits < orders) {
                return false;
            }
            fits += orders;
            return true;
        }

        private int heardAt(int crank, int come, int done) {
            int heard = 0;
            for (int i = 0; i < size; i++) {
                if (cranks[i] == crank && come <= seconds[i] && seconds[i] <= done) {
                    heard |= 1 << i;
                }
            }
            return heard;
        }

        /** From a CRANK left at a second another is come to later: a THUD till then is heard by then, or never. */
        private boolean isMissed(int heard, int done) {
            for (int i = 0; i < size; i++) {
                if (seconds[i] <= done && (heard >> i & 1) == 0) {
                    return true;
                }
            }
            return false;
        }
    }
}
