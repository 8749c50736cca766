/**
 * Word ladders with a bar that moves from turn to turn.
 *
 * <p>A set of words is held as an int here: bit w stands for the word w.
 */
public final class BarredRungs {
    public static final int NONE = -1;

    private static final int CLIMBERS = 3;
    private static final int PLACES = 4;
    private static final int LETTERS = 8;
    private static final int MOST_WORDS = 24;
    private static final int MOST_SAVED = 6;

    /** After so many turns the bar is where it was, whatever its letter moves by. */
    private static final int PERIOD = PLACES * LETTERS;

    private static final int CLIMBS_TEXT = 0;
    private static final int WORDS_TEXT = 1;

    private final State now;
    private final History history;
    private final Text text;
    private final Ways ways;
    private final Islands islands;

    public BarredRungs() {
        now = new State();
        history = new History();
        text = new Text();
        ways = new Ways();
        islands = new Islands();
    }

    // ---- words

    public int add() throws IllegalArgumentException {
        if (!text.isWhole(WORDS_TEXT)) {
            throw new IllegalArgumentException("the buffer is not complete words");
        }
        history.save(now);
        int added = takeInWords();
        text.empty();
        return added;
    }

    public int set(int setting, int value) throws IndexOutOfBoundsException, IllegalArgumentException {
        if (setting != 0 && setting != 1) {
            throw new IndexOutOfBoundsException("no such setting");
        }
        if (value < 1 || value > 7) {
            throw new IllegalArgumentException("the value is not 1 to 7");
        }
        history.save(now);
        int previous = now.settingOf(setting);
        now.changeSetting(setting, value);
        return previous;
    }

    public int bar(int place, int letter) throws IndexOutOfBoundsException, IllegalArgumentException {
        if (place < 0 || place >= PLACES) {
            throw new IndexOutOfBoundsException("no such place");
        }
        if (letter < 0 || letter >= LETTERS) {
            throw new IllegalArgumentException("the letter is not 0 to 7");
        }
        history.save(now);
        int previous = LETTERS * now.place + now.letter;
        now.place = place;
        now.letter = letter;
        return previous;
    }

    // ---- climbers

    public int put(int climber, int beginning, int end)
            throws IndexOutOfBoundsException, IllegalArgumentException, IllegalStateException {
        if (!isClimber(climber) || !now.hasWord(beginning) || !now.hasWord(end)) {
            throw new IndexOutOfBoundsException("no such climber or word");
        }
        if (beginning == end) {
            throw new IllegalArgumentException("both words are the same");
        }
        if (now.wordUnder(climber) != NONE || now.climberOn(beginning) != NONE
                || now.isBarredAfter(beginning, 0)) {
            throw new IllegalStateException("the climber can not be put there");
        }
        history.save(now);
        now.putOn(climber, beginning, end);
        return ways.onward(now, beginning, end, false);
    }

    public int climb(int climber, int word) throws IndexOutOfBoundsException, IllegalStateException {
        if (!isClimber(climber) || !now.hasWord(word)) {
            throw new IndexOutOfBoundsException("no such climber or word");
        }
        if (now.hindrance(climber, word) != 0) {
            throw new IllegalStateException("the climber can not go there");
        }
        history.save(now);
        return now.move(climber, word) ? 1 : 0;
    }

    public int turn() {
        history.save(now);
        return now.passTurn();
    }

    public int leave(int climber) throws IndexOutOfBoundsException, IllegalStateException {
        if (!isClimber(climber)) {
            throw new IndexOutOfBoundsException("no such climber");
        }
        int under = now.wordUnder(climber);
        if (under == NONE) {
            throw new IllegalStateException("the climber is on no word");
        }
        history.save(now);
        now.takeOff(climber);
        return under;
    }

    // ---- texts, the snapshot

    public int append(int code) throws IllegalArgumentException, IllegalStateException {
        if (code < 33 || code > 126) {
            throw new IllegalArgumentException("the code is not 33 to 126");
        }
        if (text.isFull()) {
            throw new IllegalStateException("the buffer is full");
        }
        text.take(code);
        return text.length;
    }

    public int clearBuffer() {
        int length = text.length;
        text.empty();
        return length;
    }

    public int firstError(int what) throws IllegalArgumentException {
        if (what != CLIMBS_TEXT && what != WORDS_TEXT) {
            throw new IllegalArgumentException("what is not 0 or 1");
        }
        return text.errorIndex(what);
    }

    public int play() throws IllegalArgumentException {
        if (!text.isWhole(CLIMBS_TEXT)) {
            throw new IllegalArgumentException("the buffer is not complete climbs");
        }
        history.save(now);
        int done = doParts();
        text.empty();
        return done;
    }

    public int keep() {
        history.takeSnapshot(now);
        return now.turns;
    }

    public int goBack() throws IllegalStateException {
        if (!history.hasSnapshot) {
            throw new IllegalStateException("there is no snapshot");
        }
        history.save(now);
        history.restoreSnapshot(now);
        return now.turns;
    }

    public int undo() throws IllegalStateException {
        if (history.size == 0) {
            throw new IllegalStateException("there is no saved state");
        }
        history.restoreLatest(now);
        return history.size;
    }

    // ---- looks; nothing is changed

    public int word(int word, int what) throws IndexOutOfBoundsException, IllegalArgumentException {
        if (!now.hasWord(word)) {
            throw new IndexOutOfBoundsException("no such word");
        }
        if (what < 0 || what > 9) {
            throw new IllegalArgumentException("what is not 0 to 9");
        }
        return wordNumber(word, what);
    }

    public int climber(int climber, int what) throws IndexOutOfBoundsException, IllegalArgumentException {
        if (!isClimber(climber)) {
            throw new IndexOutOfBoundsException("no such climber");
        }
        if (what < 0 || what > 9) {
            throw new IllegalArgumentException("what is not 0 to 9");
        }
        return climberNumber(climber, what);
    }

    public int count(int what) throws IllegalArgumentException {
        if (what < 0 || what > 12) {
            throw new IllegalArgumentException("what is not 0 to 12");
        }
        return countNumber(what);
    }

    public int setting(int setting) throws IndexOutOfBoundsException {
        if (setting != 0 && setting != 1) {
            throw new IndexOutOfBoundsException("no such setting");
        }
        return now.settingOf(setting);
    }

    public int why(int climber, int word) throws IndexOutOfBoundsException {
        if (!isClimber(climber) || !now.hasWord(word)) {
            throw new IndexOutOfBoundsException("no such climber or word");
        }
        return now.hindrance(climber, word);
    }

    // ---- what would be; nothing is changed

    public int plain(int from, int to) throws IndexOutOfBoundsException {
        if (!now.hasWord(from) || !now.hasWord(to)) {
            throw new IndexOutOfBoundsException("no such word");
        }
        return ways.byLinksAlone(now, from, to);
    }

    public int ifPut(int from, int to) throws IndexOutOfBoundsException, IllegalArgumentException {
        if (!now.hasWord(from) || !now.hasWord(to)) {
            throw new IndexOutOfBoundsException("no such word");
        }
        if (from == to) {
            throw new IllegalArgumentException("both words are the same");
        }
        return now.isBarredAfter(from, 0) ? NONE : ways.onward(now, from, to, false);
    }

    public int safest() {
        int best = NONE;
        int bestTurns = NONE;
        for (int w = 0; w < now.words; w++) {
            int turns = now.turnsUntilBarred(w);
            if (turns == NONE) {
                return w;
            }
            if (turns > bestTurns) {
                best = w;
                bestTurns = turns;
            }
        }
        return best;
    }

    public double linkShare() {
        int pairs = now.words * (now.words - 1) / 2;
        return pairs > 0 ? (double) now.linkedPairs() / pairs : 0.0;
    }

    public float meanLadder() {
        int ladders = now.laddersSoFar();
        return ladders > 0 ? (float) now.ladderClimbs / ladders : 0.0f;
    }

    public long digest() {
        long hash = 3709;
        for (int what = 0; what <= 12; what++) {
            hash = mix(hash, countNumber(what));
        }
        hash = mix(hash, now.settingOf(0));
        hash = mix(hash, now.settingOf(1));
        hash = mixWords(hash);
        for (int c = 0; c < CLIMBERS; c++) {
            for (int what = 0; what <= 9; what++) {
                hash = mix(hash, climberNumber(c, what));
            }
        }
        for (int w = 0; w < now.words; w++) {
            hash = mix(hash, ways.byLinksAlone(now, 0, w));
        }
        hash = mix(hash, safest());
        hash = mix(hash, bitsOfShare(linkShare()));
        hash = mix(hash, bitsOfMean(meanLadder()));
        hash = mix(hash, history.hasSnapshot ? 1 : 0);
        return mixText(hash);
    }

    // ---- the parts of the calls

    private static boolean isClimber(int climber) {
        return climber >= 0 && climber < CLIMBERS;
    }

    private static boolean has(int words, int word) {
        return word >= 0 && word < MOST_WORDS && (words >>> word & 1) != 0;
    }

    /** The lowest word of a set, NONE if the set is empty. */
    private static int lowest(int words) {
        return words == 0 ? NONE : Integer.numberOfTrailingZeros(words);
    }

    private int takeInWords() {
        int before = now.words;
        for (int at = 0; at < text.length; at += Text.WORD_STRIDE) {
            if (!now.takeIn(text.wordCode(at))) {
                break;
            }
        }
        return now.words - before;
    }

    private int doParts() {
        int done = 0;
        int at = 0;
        while (at < text.length) {
            if (text.codeAt(at) == 't') {
                now.passTurn();
                at += Text.TURN_STRIDE;
            } else if (goAsTold(at)) {
                at += Text.CLIMB_STRIDE;
            } else {
                return done;
            }
            done++;
        }
        return done;
    }

    /** Does the climb that is told from an index of the buffer on, if it can be done. */
    private boolean goAsTold(int at) {
        int climber = text.codeAt(at) - '0';
        int word = now.wordWithCode(text.wordCode(at + 1));
        if (word == NONE || now.hindrance(climber, word) != 0) {
            return false;
        }
        now.move(climber, word);
        return true;
    }

    private int wordNumber(int word, int what) {
        switch (what) {
            case 4:
                return now.isBarredAfter(word, 0) ? 1 : 0;
            case 5:
                return Integer.bitCount(now.linksOf(word));
            case 6:
                return now.climberOn(word);
            case 7:
                return lowest(islands.around(now, word));
            case 8:
                return Integer.bitCount(islands.around(now, word));
            case 9:
                return now.turnsUntilBarred(word);
            default:
                return now.letterAt(word, what);
        }
    }

    private int climberNumber(int climber, int what) {
        if (what < 7) {
            return now.climberFact(climber, what);
        }
        int from = now.wordUnder(climber);
        if (from == NONE) {
            return NONE;
        }
        int end = now.climberFact(climber, 2);
        boolean went = now.climberFact(climber, 3) == 1;
        switch (what) {
            case 7:
                return ways.onward(now, from, end, went);
            case 8:
                return ways.backwards(now, from, end, went);
            default:
                return ways.firstWord(now, from, end, went);
        }
    }

    private int countNumber(int what) {
        switch (what) {
            case 0:
                return now.words;
            case 1:
                return now.linkedPairs();
            case 2:
                return islands.byJoining(now);
            case 3:
                return islands.byWalking(now);
            case 4:
                return now.place;
            case 5:
                return now.letter;
            case 6:
                return now.turns;
            case 7:
                return Integer.bitCount(now.barredAfter(0));
            case 8:
                return now.climbersOnWords();
            case 9:
                return now.laddersSoFar();
            case 10:
                return now.fallsSoFar();
            case 11:
                return now.climbs;
            default:
                return history.size;
        }
    }

    private static long mix(long hash, long value) {
        return 31 * hash + value;
    }

    private long mixWords(long start) {
        long hash = start;
        for (int w = 0; w < now.words; w++) {
            for (int what = 0; what <= 9; what++) {
                hash = mix(hash, wordNumber(w, what));
            }
        }
        return hash;
    }

    private long mixText(long start) {
        long hash = mix(start, text.length);
        for (int i = 0; i < text.length; i++) {
            hash = mix(hash, text.codeAt(i));
        }
        return hash;
    }

    /**
     * The bits of a share, 0.0 to 1.0, made by arithmetic, since the functions
     * of Double are outside the library that the class may use.
     */
    private static long bitsOfShare(double share) {
        if (!(share > 0.0)) {
            return 0;
        }
        double rest = share;
        long exponent = 1023;
        for (int i = 0; i < 1023 && rest < 1.0; i++) {
            rest *= 2.0;
            exponent--;
        }
        return (exponent << 52) + (long) ((rest - 1.0) * (double) (1L << 52));
    }

    /** The bits of a mean: 0.0f, or 1.0f and more, as each ladder has a climb. */
    private static int bitsOfMean(float mean) {
        if (!(mean > 0.0f)) {
            return 0;
        }
        float rest = mean;
        int exponent = 127;
        for (int i = 0; i < 127 && rest >= 2.0f; i++) {
            rest /= 2.0f;
            exponent++;
        }
        return (exponent << 23) + (int) ((rest - 1.0f) * (float) (1 << 23));
    }

    /** All that undo() restores: the words, the bar, the settings, the climbers and the counts. */
    private static final class State {
        /** The four letters of each word, three bits a letter, the first letter highest. */
        final int[] codes = new int[MOST_WORDS];

        /** The words with which each word is linked; held, since nearly all looks need them. */
        final int[] links = new int[MOST_WORDS];

        final int[] under = new int[CLIMBERS];
        final int[] beginnings = new int[CLIMBERS];
        final int[] ends = new int[CLIMBERS];
        final int[] went = new int[CLIMBERS];
        final int[] steps = new int[CLIMBERS];
        final int[] ladders = new int[CLIMBERS];
        final int[] falls = new int[CLIMBERS];
        int words;
        int place;
        int letter;
        int letterStep = 3;
        int nearness = 7;
        int turns;
        int climbs;
        int ladderClimbs;

        State() {
            for (int c = 0; c < CLIMBERS; c++) {
                under[c] = NONE;
                beginnings[c] = NONE;
                ends[c] = NONE;
            }
        }

        void copyFrom(State other) {
            System.arraycopy(other.codes, 0, codes, 0, MOST_WORDS);
            System.arraycopy(other.links, 0, links, 0, MOST_WORDS);
            System.arraycopy(other.under, 0, under, 0, CLIMBERS);
            System.arraycopy(other.beginnings, 0, beginnings, 0, CLIMBERS);
            System.arraycopy(other.ends, 0, ends, 0, CLIMBERS);
            System.arraycopy(other.went, 0, went, 0, CLIMBERS);
            System.arraycopy(other.steps, 0, steps, 0, CLIMBERS);
            System.arraycopy(other.ladders, 0, ladders, 0, CLIMBERS);
            System.arraycopy(other.falls, 0, falls, 0, CLIMBERS);
            words = other.words;
            place = other.place;
            letter = other.letter;
            letterStep = other.letterStep;
            nearness = other.nearness;
            turns = other.turns;
            climbs = other.climbs;
            ladderClimbs = other.ladderClimbs;
        }

        // -- words and links

        boolean hasWord(int word) {
            return word >= 0 && word < words && word < MOST_WORDS;
        }

        int wordWithCode(int code) {
            for (int w = 0; w < words && w < MOST_WORDS; w++) {
                if (codes[w] == code) {
                    return w;
                }
            }
            return NONE;
        }

        /** Adds a word, or passes it over if it is there; false if there is no room for it. */
        boolean takeIn(int code) {
            if (wordWithCode(code) != NONE) {
                return true;
            }
            if (words < 0 || words >= MOST_WORDS) {
                return false;
            }
            codes[words] = code;
            words++;
            linkWithEarlier(words - 1);
            return true;
        }

        void linkAnew() {
            for (int w = 0; w < words; w++) {
                linkWithEarlier(w);
            }
        }

        void linkWithEarlier(int word) {
            if (!hasWord(word)) {
                return;
            }
            links[word] = 0;
            for (int v = 0; v < word; v++) {
                links[v] &= ~(1 << word);
                if (areLinked(v, word)) {
                    links[v] |= 1 << word;
                    links[word] |= 1 << v;
                }
            }
        }

        boolean areLinked(int a, int b) {
            if (!hasWord(a) || !hasWord(b)) {
                return false;
            }
            int unlike = 0;
            for (int p = 0; p < PLACES; p++) {
                int difference = Math.abs(letterAt(a, p) - letterAt(b, p));
                if (difference > nearness) {
                    return false;
                }
                if (difference != 0) {
                    unlike++;
                }
            }
            return unlike == 1;
        }

        int letterAt(int word, int at) {
            if (!hasWord(word) || at < 0 || at >= PLACES) {
                return NONE;
            }
            return letterIn(codes[word], at);
        }

        static int letterIn(int code, int at) {
            return (code >> (3 * (PLACES - 1 - at))) & 7;
        }

        int linksOf(int word) {
            return hasWord(word) ? links[word] : 0;
        }

        /** All words that are linked with a word of a set. */
        int linksOfAll(int set) {
            int linked = 0;
            for (int w = 0; w < MOST_WORDS && set >>> w != 0; w++) {
                if (has(set, w)) {
                    linked |= links[w];
                }
            }
            return linked;
        }

        int linkedPairs() {
            int twice = 0;
            for (int w = 0; w < MOST_WORDS; w++) {
                twice += Integer.bitCount(links[w]);
            }
            return twice / 2;
        }

        // -- settings and the bar

        int settingOf(int setting) {
            return setting == 0 ? letterStep : nearness;
        }

        void changeSetting(int setting, int value) {
            if (setting == 0) {
                letterStep = value;
            } else {
                nearness = value;
                linkAnew();
            }
        }

        /** Whether a word is barred when so many more turns have passed. */
        boolean isBarredAfter(int word, int turnsFromNow) {
            int moves = place + turnsFromNow;
            return letterAt(word, moves % PLACES) == barLetterAfter(moves);
        }

        /** The words of which that is so. */
        int barredAfter(int turnsFromNow) {
            int moves = place + turnsFromNow;
            int barLetter = barLetterAfter(moves);
            int barred = 0;
            for (int w = 0; w < words && w < MOST_WORDS; w++) {
                if (letterIn(codes[w], moves % PLACES) == barLetter) {
                    barred |= 1 << w;
                }
            }
            return barred;
        }

        /** The letter of the bar after some moves, told from the place 0 and its letter of now on. */
        int barLetterAfter(int moves) {
            return (letter + moves / PLACES * letterStep) % LETTERS;
        }

        int turnsUntilBarred(int word) {
            for (int t = 0; t < PERIOD; t++) {
                if (isBarredAfter(word, t)) {
                    return t;
                }
            }
            return NONE;
        }

        // -- climbers

        int wordUnder(int climber) {
            return isClimber(climber) ? under[climber] : NONE;
        }

        int climberOn(int word) {
            for (int c = 0; c < CLIMBERS; c++) {
                if (under[c] == word) {
                    return c;
                }
            }
            return NONE;
        }

        int climbersOnWords() {
            int found = 0;
            for (int c = 0; c < CLIMBERS; c++) {
                if (under[c] != NONE) {
                    found++;
                }
            }
            return found;
        }

        int laddersSoFar() {
            int sum = 0;
            for (int c = 0; c < CLIMBERS; c++) {
                sum += ladders[c];
            }
            return sum;
        }

        int fallsSoFar() {
            int sum = 0;
            for (int c = 0; c < CLIMBERS; c++) {
                sum += falls[c];
            }
            return sum;
        }

        /** What climber(climber, what) tells for a what of 0 to 6. */
        int climberFact(int climber, int what) {
            if (!isClimber(climber)) {
                return NONE;
            }
            switch (what) {
                case 0:
                    return under[climber];
                case 1:
                    return beginnings[climber];
                case 2:
                    return ends[climber];
                case 3:
                    return under[climber] == NONE ? 0 : went[climber];
                case 4:
                    return steps[climber];
                case 5:
                    return ladders[climber];
                default:
                    return falls[climber];
            }
        }

        /** Why a climber can not go to a word, as the document numbers it; 0 if it can. */
        int hindrance(int climber, int word) {
            int own = wordUnder(climber);
            if (own == NONE) {
                return 1;
            }
            if (climberFact(climber, 3) == 1) {
                return 2;
            }
            if (!has(linksOf(own), word)) {
                return 3;
            }
            if (isBarredAfter(word, 0)) {
                return 4;
            }
            return climberOn(word) == NONE ? 0 : 5;
        }

        void putOn(int climber, int beginning, int end) {
            if (isClimber(climber)) {
                under[climber] = beginning;
                beginnings[climber] = beginning;
                ends[climber] = end;
                // One that is put can go, also if it went, to its end or off a word, in this turn.
                went[climber] = 0;
                steps[climber] = 0;
            }
        }

        /** Lets a climber go to a word where nothing hinders it; true if that ends its ladder. */
        boolean move(int climber, int word) {
            if (!isClimber(climber)) {
                return false;
            }
            under[climber] = word;
            went[climber] = 1;
            steps[climber]++;
            climbs++;
            if (word != ends[climber]) {
                return false;
            }
            takeOff(climber);
            ladders[climber]++;
            ladderClimbs += steps[climber];
            return true;
        }

        void takeOff(int climber) {
            if (isClimber(climber)) {
                under[climber] = NONE;
            }
        }

        /** Lets a turn pass; returns how many climbers fall. */
        int passTurn() {
            turns++;
            place++;
            if (place >= PLACES) {
                place = 0;
                letter = (letter + letterStep) % LETTERS;
            }
            int barred = barredAfter(0);
            int fallen = 0;
            for (int c = 0; c < CLIMBERS; c++) {
                went[c] = 0;
                if (has(barred, under[c])) {
                    under[c] = NONE;
                    falls[c]++;
                    fallen++;
                }
            }
            return fallen;
        }
    }

    /** The saved states, the latest one last, and the snapshot. */
    private static final class History {
        final State[] saved = new State[MOST_SAVED];
        final State snapshot = new State();
        int size;
        boolean hasSnapshot;

        History() {
            for (int i = 0; i < MOST_SAVED; i++) {
                saved[i] = new State();
            }
        }

        void save(State state) {
            if (size >= MOST_SAVED) {
                dropOldest();
            }
            if (size >= 0 && size < MOST_SAVED && saved[size] != null) {
                saved[size].copyFrom(state);
                size++;
            }
        }

        /** The oldest one goes to the free end of the row, to be written over there. */
        private void dropOldest() {
            State oldest = saved[0];
            for (int i = 1; i < MOST_SAVED; i++) {
                saved[i - 1] = saved[i];
            }
            saved[MOST_SAVED - 1] = oldest;
            size = MOST_SAVED - 1;
        }

        void restoreLatest(State state) {
            if (size > 0 && size <= MOST_SAVED && saved[size - 1] != null) {
                size--;
                state.copyFrom(saved[size]);
            }
        }

        void takeSnapshot(State state) {
            snapshot.copyFrom(state);
            hasSnapshot = true;
        }

        void restoreSnapshot(State state) {
            state.copyFrom(snapshot);
        }
    }

    /** The buffer, and what its characters tell as climbs or as words. */
    private static final class Text {
        static final int MOST = 60;

        /** From the beginning of a part to that of the next one. */
        static final int WORD_STRIDE = 5;
        static final int CLIMB_STRIDE = 6;
        static final int TURN_STRIDE = 2;

        // What may come next: so many letters, 1 to 4, or one of these.
        private static final int SEPARATOR = 0;
        private static final int PART = 5;
        private static final int NOTHING = -1;

        final int[] codes = new int[MOST];
        int length;

        boolean isFull() {
            return length >= MOST;
        }

        void take(int code) {
            if (length >= 0 && length < MOST) {
                codes[length] = code;
                length++;
            }
        }

        void empty() {
            length = 0;
        }

        int codeAt(int at) {
            return at >= 0 && at < length && at < MOST ? codes[at] : 0;
        }

        /** The word of four letters that begins at an index, as a State holds words. */
        int wordCode(int at) {
            int code = 0;
            for (int i = 0; i < PLACES; i++) {
                code = (code << 3) | ((codeAt(at + i) - 'a') & 7);
            }
            return code;
        }

        int errorIndex(int what) {
            int due = PART;
            for (int i = 0; i < length; i++) {
                due = dueAfter(due, codeAt(i), what);
                if (due == NOTHING) {
                    return i;
                }
            }
            return length;
        }

        boolean isWhole(int what) {
            int due = PART;
            for (int i = 0; i < length; i++) {
                due = dueAfter(due, codeAt(i), what);
            }
            return due == SEPARATOR;
        }

        /** What may come behind a character; NOTHING from the first syntax error on. */
        private static int dueAfter(int due, int code, int what) {
            boolean isLetter = code >= 'a' && code <= 'h';
            if (due == NOTHING) {
                return NOTHING;
            }
            if (due == SEPARATOR) {
                return code == (what == WORDS_TEXT ? ',' : ';') ? PART : NOTHING;
            }
            if (due != PART) {
                return isLetter ? due - 1 : NOTHING;
            }
            if (what == WORDS_TEXT) {
                return isLetter ? PLACES - 1 : NOTHING;
            }
            if (code == 't') {
                return SEPARATOR;
            }
            return code >= '0' && code < '0' + CLIMBERS ? PLACES : NOTHING;
        }
    }

    /** The fewest turns and climbs from word to word; its rows are made once and used again. */
    private static final class Ways {
        /** A shortest way is on each word at most once in each turn of a period. */
        private static final int MOST_TURNS = PERIOD * MOST_WORDS + 1;

        // All rows are by turns from now, modulo the period.
        private final int[] barred = new int[PERIOD];
        private final int[] known = new int[PERIOD];
        private final int[] layer = new int[PERIOD];
        private final int[] nextLayer = new int[PERIOD];

        int onward(State state, int from, int end, boolean went) {
            lookAhead(state);
            int here = 1 << from;
            if (!went) {
                // One that went can only stay now, but may go from here a period later: that is new.
                known[0] = here;
            }
            for (int turns = 0; turns <= MOST_TURNS && here != 0; turns++) {
                int turn = turns % PERIOD;
                int reached = 0;
                if (turns > 0 || !went) {
                    reached = state.linksOfAll(here) & ~barred[turn];
                }
                if (has(reached, end)) {
                    return turns;
                }
                int later = (turn + 1) % PERIOD;
                here = (here | reached) & ~barred[later] & ~known[later];
                known[later] |= here;
            }
            return NONE;
        }

        int backwards(State state, int from, int end, boolean went) {
            lookAhead(state);
            if (went && has(barred[1], from)) {
                return NONE;
            }
            int passed = went ? 1 : 0;
            startAtEnd(state, end);
            for (int turns = 0; turns <= MOST_TURNS; turns++) {
                if (has(layer[passed], from)) {
                    return turns + passed;
                }
                if (!stepBack(state, end)) {
                    return NONE;
                }
            }
            return NONE;
        }

        int firstWord(State state, int from, int end, boolean went) {
            int fewest = onward(state, from, end, went);
            if (fewest <= 0) {
                return fewest == 0 ? end : NONE;
            }
            lookAhead(state);
            startAtEnd(state, end);
            for (int turns = 1; turns < fewest; turns++) {
                stepBack(state, end);
            }
            int choice = 1 << from;
            if (!went) {
                choice |= state.linksOf(from) & ~barred[0];
            }
            return lowest(choice & ~barred[1] & layer[1]);
        }

        int byLinksAlone(State state, int from, int to) {
            int here = 1 << from;
            int seen = here;
            for (int climbs = 0; climbs < MOST_WORDS && here != 0; climbs++) {
                if (has(here, to)) {
                    return climbs;
                }
                here = state.linksOfAll(here) & ~seen;
                seen |= here;
            }
            return NONE;
        }

        private void lookAhead(State state) {
            for (int t = 0; t < PERIOD; t++) {
                barred[t] = state.barredAfter(t);
                known[t] = 0;
            }
        }

        /** Makes the layer of the words from which the end is reached in the very turn. */
        private void startAtEnd(State state, int end) {
            for (int t = 0; t < PERIOD; t++) {
                layer[t] = has(barred[t], end) ? 0 : state.linksOf(end);
                known[t] = layer[t];
            }
        }

        /** Makes the layer of the words that need one turn more; false if there is none. */
        private boolean stepBack(State state, int end) {
            int found = 0;
            for (int t = 0; t < PERIOD; t++) {
                int later = (t + 1) % PERIOD;
                int safe = layer[later] & ~barred[later];
                int before = safe | state.linksOfAll(safe & ~barred[t]);
                nextLayer[t] = before & ~known[t] & ~(1 << end);
                found |= nextLayer[t];
            }
            for (int t = 0; t < PERIOD; t++) {
                layer[t] = nextLayer[t];
                known[t] |= nextLayer[t];
            }
            return found != 0;
        }
    }

    /** Islands of words, told by joining linked words and by walking from word to word. */
    private static final class Islands {
        private final int[] parents = new int[MOST_WORDS];

        int byJoining(State state) {
            int joined = 0;
            for (int w = 0; w < MOST_WORDS; w++) {
                parents[w] = w;
            }
            for (int a = 0; a < state.words; a++) {
                for (int b = 0; b < a; b++) {
                    if (has(state.linksOf(a), b) && join(a, b)) {
                        joined++;
                    }
                }
            }
            return state.words - joined;
        }

        /** False if both words are of one island already. */
        private boolean join(int a, int b) {
            int rootA = rootOf(a);
            int rootB = rootOf(b);
            if (rootA == rootB || rootA < 0 || rootA >= MOST_WORDS) {
                return false;
            }
            parents[rootA] = rootB;
            return true;
        }

        private int rootOf(int word) {
            int root = word;
            for (int i = 0; i < MOST_WORDS && root >= 0 && root < MOST_WORDS; i++) {
                if (parents[root] == root) {
                    return root;
                }
                root = parents[root];
            }
            return root;
        }

        int byWalking(State state) {
            int seen = 0;
            int islands = 0;
            for (int w = 0; w < state.words; w++) {
                if (!has(seen, w)) {
                    seen |= around(state, w);
                    islands++;
                }
            }
            return islands;
        }

        /** The island of a word. */
        int around(State state, int word) {
            int island = 1 << word;
            int fresh = island;
            for (int i = 0; i < MOST_WORDS && fresh != 0; i++) {
                fresh = state.linksOfAll(fresh) & ~island;
                island |= fresh;
            }
            return island;
        }
    }
}
