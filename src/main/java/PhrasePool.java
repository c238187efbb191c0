/**
 * A pool of phrases that members share: whoever uses a phrase pays its owner, and those from whose
 * phrases it was derived. Arguments are tested and states recorded here; the rules are in State.
 */
public final class PhrasePool {
    public static final int NONE = -1000000, BAD_INDEX = -1000001, BAD_VALUE = -1000002, BAD_STATE = -1000003, FULL = -1000004;

    private static final int MAX_MEMBERS = 6;
    private static final int MAX_PHRASES = 20;
    private static final int MAX_NOTES = 24;
    private static final int MAX_WORDS = 10;
    private static final int MAX_BYTES = 40;
    private static final int MAX_STATES = 4;
    private static final int MAX_PRICE = 200;
    private static final int MAX_TARGET = 999;
    private static final int MAX_CODE = 255;
    private static final int MAX_PASSED = 100;
    private static final int MAX_TICK = 10000;
    private static final int NEW_PRICE = 40;
    private static final int FULL_SCORE = 100;
    private static final int HUNDREDTHS = 100;

    private static final int THRESHOLD = 0;
    private static final int SHARE = 1;
    private static final int ROYALTY = 2;
    private static final int GRACE = 3;
    private static final int CLOSENESS = 4;
    private static final int SETTINGS = 5;
    private static final int[] LEAST_VALUES = {1, 0, 0, 0, 1};
    private static final int[] MOST_VALUES = {100, 50, 80, 100, 100};
    private static final int[] NEW_VALUES = {70, 10, 30, 10, 80};

    // How many properties the document tells of each, from 0.
    private static final int COUNTS = 14;
    private static final int MEMBER_PROPERTIES = 5;
    private static final int PHRASE_PROPERTIES = 7;
    private static final int NOTE_PROPERTIES = 13;
    // The length of the text is the last count, and no part of the digest.
    private static final int TEXT_LENGTH = 13;

    private static final int DIGEST_START = 61;
    private static final int DIGEST_FACTOR = 31;

    private final State state;
    private final History history;
    private final Text text;
    private final Sentence typed;
    private final Ways ways;

    public PhrasePool() {
        state = new State();
        history = new History();
        text = new Text();
        typed = new Sentence();
        ways = new Ways();
    }

    // ---- members, settings

    public int addMember() {
        if (state.members() >= MAX_MEMBERS) {
            return FULL;
        }
        history.keep(state);
        return state.startMember();
    }

    public int setPrice(int member, int price) {
        if (!state.hasMember(member)) {
            return BAD_INDEX;
        }
        if (price < 0 || price > MAX_PRICE) {
            return BAD_VALUE;
        }
        history.keep(state);
        int previous = state.priceOf(member);
        state.changePrice(member, price);
        return previous;
    }

    public int set(int setting, int value) {
        if (setting < 0 || setting >= SETTINGS) {
            return BAD_INDEX;
        }
        if (value < LEAST_VALUES[setting] || value > MOST_VALUES[setting]) {
            return BAD_VALUE;
        }
        history.keep(state);
        int previous = state.settingOf(setting);
        state.changeSetting(setting, value);
        return previous;
    }

    public int count(int what) {
        if (what < 0 || what >= COUNTS) {
            return BAD_VALUE;
        }
        return what == TEXT_LENGTH ? text.length : state.countOf(what);
    }

    public int member(int member, int what) {
        if (!state.hasMember(member)) {
            return BAD_INDEX;
        }
        if (what < 0 || what >= MEMBER_PROPERTIES) {
            return BAD_VALUE;
        }
        return state.memberProperty(member, what);
    }

    // ---- phrases

    public int addPhrase(int member, int target, int parent) {
        if (!state.hasMember(member) || parent != NONE && !state.hasPhrase(parent)) {
            return BAD_INDEX;
        }
        if (target < 0 || target > MAX_TARGET) {
            return BAD_VALUE;
        }
        if (text.isFaulty() || parent != NONE && !state.isLive(parent)) {
            return BAD_STATE;
        }
        if (state.phrases() >= MAX_PHRASES) {
            return FULL;
        }
        history.keep(state);
        text.readInto(typed);
        return state.startPhrase(member, target, parent, typed);
    }

    public int phrase(int phrase, int what) {
        if (!state.hasPhrase(phrase)) {
            return BAD_INDEX;
        }
        if (what < 0 || what >= PHRASE_PROPERTIES) {
            return BAD_VALUE;
        }
        return state.phraseProperty(phrase, what);
    }

    public int word(int phrase, int index) {
        if (!state.hasPhrase(phrase)) {
            return BAD_INDEX;
        }
        if (index < 0) {
            return BAD_VALUE;
        }
        return index < state.lengthOf(phrase) ? state.wordOf(phrase, index) : NONE;
    }

    public int score(int one, int other) {
        if (!state.hasPhrase(one) || !state.hasPhrase(other)) {
            return BAD_INDEX;
        }
        return state.likenessOf(one, other);
    }

    public int agreed() {
        if (text.isFaulty()) {
            return BAD_STATE;
        }
        text.readInto(typed);
        int best = NONE;
        int most = 0;
        for (int phrase = 0; phrase < state.phrases(); phrase++) {
            if (state.isLiveAs(phrase, typed)) {
                int target = state.targetOf(phrase);
                int givers = state.giversOf(target, typed);
                if (givers > most || givers == most && target < best) {
                    best = target;
                    most = givers;
                }
            }
        }
        return best;
    }

    // ---- uses

    public int match() {
        return text.isFaulty() ? BAD_STATE : findMatch();
    }

    public int alike(int phrase) {
        if (!state.hasPhrase(phrase)) {
            return BAD_INDEX;
        }
        if (text.isFaulty()) {
            return BAD_STATE;
        }
        text.readInto(typed);
        return state.likenessTo(typed, phrase);
    }

    public int fee(int member) {
        if (!state.hasMember(member)) {
            return BAD_INDEX;
        }
        if (text.isFaulty()) {
            return BAD_STATE;
        }
        int found = findMatch();
        return found == NONE ? NONE : state.feeFor(member, found, state.likenessTo(typed, found));
    }

    public int use(int member) {
        if (!state.hasMember(member)) {
            return BAD_INDEX;
        }
        if (text.isFaulty()) {
            return BAD_STATE;
        }
        if (state.notes() >= MAX_NOTES) {
            return FULL;
        }
        history.keep(state);
        int found = findMatch();
        return found == NONE ? NONE : state.startNote(member, found, state.likenessTo(typed, found));
    }

    public int note(int note, int what) {
        if (!state.hasNote(note)) {
            return BAD_INDEX;
        }
        if (what < 0 || what >= NOTE_PROPERTIES) {
            return BAD_VALUE;
        }
        return state.noteProperty(note, what);
    }

    public int retract(int phrase) {
        if (!state.hasPhrase(phrase)) {
            return BAD_INDEX;
        }
        if (!state.isLive(phrase)) {
            return BAD_STATE;
        }
        history.keep(state);
        state.markEndings(phrase);
        state.payBackMarked();
        return state.endMarked();
    }

    public int wouldPayBack(int phrase) {
        if (!state.hasPhrase(phrase)) {
            return BAD_INDEX;
        }
        if (!state.isLive(phrase)) {
            return BAD_STATE;
        }
        state.markEndings(phrase);
        return state.owedForMarked();
    }

    public int pass(int ticks) {
        if (ticks < 1 || ticks > MAX_PASSED) {
            return BAD_VALUE;
        }
        if (state.tick() + ticks > MAX_TICK) {
            return FULL;
        }
        history.keep(state);
        return state.moveTick(ticks);
    }

    // ---- putting together

    public int cheapest(int member) {
        if (!state.hasMember(member)) {
            return BAD_INDEX;
        }
        if (text.isFaulty()) {
            return BAD_STATE;
        }
        findWays(member);
        return ways.bestCost();
    }

    public int piece(int member, int index) {
        if (!state.hasMember(member)) {
            return BAD_INDEX;
        }
        if (index < 0) {
            return BAD_VALUE;
        }
        if (text.isFaulty()) {
            return BAD_STATE;
        }
        findWays(member);
        return ways.pieceAt(index);
    }

    // ---- text, history

    public int type(int code) {
        if (code < 0 || code > MAX_CODE) {
            return BAD_VALUE;
        }
        if (text.length >= MAX_BYTES) {
            return FULL;
        }
        return text.append(code);
    }

    public int clearText() {
        return text.empty();
    }

    public int textFault() {
        return text.fault();
    }

    public int undo() {
        if (history.size == 0) {
            return BAD_STATE;
        }
        return history.restoreInto(state);
    }

    public long digest() {
        long hash = DIGEST_START;
        for (int what = 0; what < TEXT_LENGTH; what++) {
            hash = DIGEST_FACTOR * hash + state.countOf(what);
        }
        for (int member = 0; member < state.members(); member++) {
            for (int what = 0; what < MEMBER_PROPERTIES; what++) {
                hash = DIGEST_FACTOR * hash + state.memberProperty(member, what);
            }
        }
        for (int phrase = 0; phrase < state.phrases(); phrase++) {
            hash = hashPhrase(hash, phrase);
        }
        for (int note = 0; note < state.notes(); note++) {
            for (int what = 0; what < NOTE_PROPERTIES; what++) {
                hash = DIGEST_FACTOR * hash + state.noteProperty(note, what);
            }
        }
        return hash;
    }

    private long hashPhrase(long start, int phrase) {
        long hash = start;
        for (int what = 0; what < PHRASE_PROPERTIES; what++) {
            hash = DIGEST_FACTOR * hash + state.phraseProperty(phrase, what);
        }
        for (int index = 0; index < state.lengthOf(phrase); index++) {
            hash = DIGEST_FACTOR * hash + state.wordOf(phrase, index);
        }
        return hash;
    }

    /** Reads the text, which has no fault, and returns its match or NONE. */
    private int findMatch() {
        text.readInto(typed);
        int best = NONE;
        int bestScore = state.settingOf(THRESHOLD);
        for (int phrase = 0; phrase < state.phrases(); phrase++) {
            if (state.isLive(phrase)) {
                int itsScore = state.likenessTo(typed, phrase);
                if (itsScore > bestScore || itsScore == bestScore
                        && (best == NONE || state.usesOf(phrase) > state.usesOf(best))) {
                    best = phrase;
                    bestScore = itsScore;
                }
            }
        }
        return best;
    }

    /** Finds the best ways to put the text, which has no fault, together from each of its words on. */
    private void findWays(int member) {
        text.readInto(typed);
        ways.start(typed.length);
        for (int place = typed.length - 1; place >= 0; place--) {
            ways.open(place);
            for (int phrase = 0; phrase < state.phrases(); phrase++) {
                if (state.isLive(phrase) && state.standsAt(phrase, typed, place)) {
                    ways.offer(place, phrase, state.lengthOf(phrase), state.feeFor(member, phrase, FULL_SCORE));
                }
            }
        }
    }

    /** The words of a sentence, 0 (a) to 25 (z). */
    private static final class Sentence {
        private final int[] words = new int[MAX_WORDS];
        private int length;

        private void clear() {
            length = 0;
        }

        /** A word beyond the room of a sentence is left out. */
        private void append(int letter) {
            if (length < MAX_WORDS) {
                words[length] = letter;
                length++;
            }
        }

        private int wordAt(int index) {
            return index >= 0 && index < length ? words[index] : NONE;
        }
    }

    /** Tells how alike sentences are; its table is kept, so that no call makes one. */
    private static final class Yardstick {
        private final int[][] steps = new int[MAX_WORDS + 1][MAX_WORDS + 1];

        private int measure(Sentence one, Sentence other) {
            int longer = Math.max(one.length, other.length);
            return longer < 1 || longer > MAX_WORDS ? 0 : FULL_SCORE * (longer - distance(one, other)) / longer;
        }

        /** Fills the table with the distances of all beginnings of the one from all of the other. */
        private int distance(Sentence one, Sentence other) {
            for (int i = 0; i <= one.length; i++) {
                for (int j = 0; j <= other.length; j++) {
                    if (i == 0 || j == 0) {
                        steps[i][j] = i + j;
                    } else {
                        int change = one.wordAt(i - 1) == other.wordAt(j - 1) ? 0 : 1;
                        int putOrTake = 1 + Math.min(steps[i - 1][j], steps[i][j - 1]);
                        steps[i][j] = Math.min(putOrTake, steps[i - 1][j - 1] + change);
                    }
                }
            }
            return steps[one.length][other.length];
        }
    }

    /** The best way to put a sentence together from each of its places to its end. */
    private static final class Ways {
        private final int[] costs = new int[MAX_WORDS + 1];
        private final int[] lengths = new int[MAX_WORDS + 1];
        private final int[] firsts = new int[MAX_WORDS + 1];
        private final int[] nexts = new int[MAX_WORDS + 1];
        private int end;

        /** Nothing is left to put together at the end. */
        private void start(int sentenceLength) {
            end = Math.max(0, Math.min(sentenceLength, MAX_WORDS));
            open(end);
            costs[end] = 0;
        }

        private boolean isPlace(int place) {
            return place >= 0 && place <= end;
        }

        /** No way is known from a place as yet. */
        private void open(int place) {
            if (isPlace(place)) {
                costs[place] = NONE;
                lengths[place] = 0;
                firsts[place] = NONE;
                nexts[place] = end;
            }
        }

        /** A later phrase must be better to be taken, as phrases are offered in the order of their numbers. */
        private void offer(int place, int phrase, int words, int itsFee) {
            int next = place + words;
            if (!isPlace(place) || !isPlace(next) || costs[next] == NONE) {
                return;
            }
            int cost = itsFee + costs[next];
            int length = 1 + lengths[next];
            if (costs[place] == NONE || cost < costs[place]
                    || cost == costs[place] && length < lengths[place]) {
                costs[place] = cost;
                lengths[place] = length;
                firsts[place] = phrase;
                nexts[place] = next;
            }
        }

        private int bestCost() {
            return costs[0];
        }

        private int pieceAt(int index) {
            if (index < 0 || index >= lengths[0]) {
                return NONE;
            }
            int place = 0;
            for (int i = 0; i < index; i++) {
                place = nexts[place];
            }
            return firsts[place];
        }
    }

    /** The bytes that were typed. */
    private static final class Text {
        private static final int BLANK = 32;
        private static final int A = 97;
        private static final int Z = 122;

        private final int[] bytes = new int[MAX_BYTES];
        private int length;

        private static boolean isLetter(int code) {
            return code >= A && code <= Z;
        }

        private int append(int code) {
            if (length < MAX_BYTES) {
                bytes[length] = code;
                length++;
            }
            return length;
        }

        private int empty() {
            int previous = length;
            length = 0;
            return previous;
        }

        private int fault() {
            int letters = 0;
            for (int i = 0; i < length; i++) {
                if (isLetter(bytes[i]) && letters < MAX_WORDS) {
                    letters++;
                } else if (bytes[i] != BLANK) {
                    return i;
                }
            }
            return letters == 0 ? length : NONE;
        }

        private boolean isFaulty() {
            return fault() != NONE;
        }

        private void readInto(Sentence sentence) {
            sentence.clear();
            for (int i = 0; i < length; i++) {
                if (isLetter(bytes[i])) {
                    sentence.append(bytes[i] - A);
                }
            }
        }
    }

    /** The latest states, in a ring of rows that are used again. */
    private static final class History {
        private final int[][] rows = new int[MAX_STATES][State.CELLS];
        private int next;
        private int size;

        /** When the ring is full, the next row is that of the oldest state. */
        private void keep(State state) {
            state.copyTo(rows[next]);
            next = (next + 1) % MAX_STATES;
            size = Math.min(size + 1, MAX_STATES);
        }

        /** Returns how many states are left; without one nothing is restored. */
        private int restoreInto(State state) {
            if (size > 0) {
                next = (next + MAX_STATES - 1) % MAX_STATES;
                size--;
                state.copyFrom(rows[next]);
            }
            return size;
        }
    }

    /**
     * All that undo() restores and the rules that change it. It stands in one row of numbers, so that to
     * keep a state is one copy, and none of it can be forgotten. The callers see to it that a member, a
     * phrase or a note that is named exists; that no place beyond the row is used is seen to here.
     */
    private static final class State {
        // The columns of a member, a phrase and a note are numbered as the document numbers the properties.
        private static final int PRICE = 0;
        private static final int ACCOUNT = 1;
        private static final int OWNED = 2;
        private static final int USES_NOTED = 3;
        private static final int MEMBER_COLUMNS = 2;

        private static final int OWNER = 0;
        private static final int LENGTH = 1;
        private static final int TARGET = 2;
        private static final int PARENT = 3;
        private static final int LIVE = 4;
        private static final int USES = 5;
        private static final int CONFLICTS = 6;
        // Conflicts are counted when they are asked for: the words stand in the row in their place.
        private static final int WORDS = 6;
        private static final int PHRASE_COLUMNS = WORDS + MAX_WORDS;

        private static final int USER = 0;
        private static final int USED = 1;
        private static final int SCORE = 2;
        private static final int FEE = 3;
        private static final int NOTE_TICK = 4;
        private static final int PAID_BACK = 5;
        private static final int POOL_GOT = 6;
        private static final int MEMBERS_GOT = 7;
        private static final int NOTE_COLUMNS = MEMBERS_GOT + MAX_MEMBERS;

        // The places in the row.
        private static final int MEMBERS = 0;
        private static final int PHRASES = 1;
        private static final int NOTES = 2;
        private static final int TICK = 3;
        private static final int POOL = 4;
        private static final int FIRST_SETTING = 5;
        private static final int FIRST_MEMBER = FIRST_SETTING + SETTINGS;
        private static final int FIRST_PHRASE = FIRST_MEMBER + MAX_MEMBERS * MEMBER_COLUMNS;
        private static final int FIRST_NOTE = FIRST_PHRASE + MAX_PHRASES * PHRASE_COLUMNS;
        private static final int CELLS = FIRST_NOTE + MAX_NOTES * NOTE_COLUMNS;

        private final int[] cells = new int[CELLS];
        // What follows is no part of the state: room to work in.
        private final boolean[] marked = new boolean[MAX_PHRASES];
        private final Sentence one = new Sentence();
        private final Sentence other = new Sentence();
        private final Yardstick yardstick = new Yardstick();

        private State() {
            System.arraycopy(NEW_VALUES, 0, cells, FIRST_SETTING, SETTINGS);
        }

        private void copyTo(int[] row) {
            System.arraycopy(cells, 0, row, 0, CELLS);
        }

        private void copyFrom(int[] row) {
            System.arraycopy(row, 0, cells, 0, CELLS);
        }

        private static int memberCell(int member, int column) {
            return FIRST_MEMBER + member * MEMBER_COLUMNS + column;
        }

        private static int phraseCell(int phrase, int column) {
            return FIRST_PHRASE + phrase * PHRASE_COLUMNS + column;
        }

        private static int noteCell(int note, int column) {
            return FIRST_NOTE + note * NOTE_COLUMNS + column;
        }

        private int at(int cell) {
            return cell >= 0 && cell < CELLS ? cells[cell] : 0;
        }

        private void put(int cell, int value) {
            if (cell >= 0 && cell < CELLS) {
                cells[cell] = value;
            }
        }

        private void increase(int cell, int amount) {
            put(cell, at(cell) + amount);
        }

        private int members() {
            return at(MEMBERS);
        }

        private int phrases() {
            return at(PHRASES);
        }

        private int notes() {
            return at(NOTES);
        }

        private int tick() {
            return at(TICK);
        }

        private boolean hasMember(int member) {
            return member >= 0 && member < members();
        }

        private boolean hasPhrase(int phrase) {
            return phrase >= 0 && phrase < phrases();
        }

        private boolean hasNote(int note) {
            return note >= 0 && note < notes();
        }

        private int settingOf(int setting) {
            return at(FIRST_SETTING + setting);
        }

        private void changeSetting(int setting, int value) {
            put(FIRST_SETTING + setting, value);
        }

        private int moveTick(int ticks) {
            increase(TICK, ticks);
            return at(TICK);
        }

        // ---- members

        private int startMember() {
            int member = at(MEMBERS);
            increase(MEMBERS, 1);
            put(memberCell(member, PRICE), NEW_PRICE);
            put(memberCell(member, ACCOUNT), 0);
            return member;
        }

        private int priceOf(int member) {
            return at(memberCell(member, PRICE));
        }

        private void changePrice(int member, int price) {
            put(memberCell(member, PRICE), price);
        }

        private int memberProperty(int member, int what) {
            switch (what) {
                case PRICE:
                case ACCOUNT:
                    return at(memberCell(member, what));
                case OWNED:
                    return countOwned(member);
                case USES_NOTED:
                    return countUsesNoted(member);
                default:
                    return sumGot(member);
            }
        }

        private int countOwned(int member) {
            int owned = 0;
            for (int phrase = 0; phrase < phrases(); phrase++) {
                if (isLive(phrase) && ownerOf(phrase) == member) {
                    owned++;
                }
            }
            return owned;
        }

        private int countUsesNoted(int member) {
            int noted = 0;
            for (int note = 0; note < notes(); note++) {
                if (noteProperty(note, USER) == member) {
                    noted++;
                }
            }
            return noted;
        }

        private int sumGot(int member) {
            int sum = 0;
            for (int note = 0; note < notes(); note++) {
                if (!isPaidBack(note)) {
                    sum += noteProperty(note, MEMBERS_GOT + member);
                }
            }
            return sum;
        }

        // ---- counts, numbered as the document numbers them

        private int countOf(int what) {
            switch (what) {
                case 0:
                    return members();
                case 1:
                    return phrases();
                case 2:
                    return countLive();
                case 3:
                    return notes();
                case 4:
                    return countPaidBack();
                case 5:
                    return tick();
                case 6:
                    return at(POOL);
                case 7:
                    return countConflicts();
                default:
                    return settingOf(what - 8);
            }
        }

        private int countLive() {
            int live = 0;
            for (int phrase = 0; phrase < phrases(); phrase++) {
                if (isLive(phrase)) {
                    live++;
                }
            }
            return live;
        }

        private int countPaidBack() {
            int paidBack = 0;
            for (int note = 0; note < notes(); note++) {
                if (isPaidBack(note)) {
                    paidBack++;
                }
            }
            return paidBack;
        }

        private int countConflicts() {
            int ends = 0;
            for (int phrase = 0; phrase < phrases(); phrase++) {
                ends += conflictsOf(phrase);
            }
            return ends / 2;
        }

        // ---- phrases

        private int startPhrase(int owner, int target, int parent, Sentence sentence) {
            int phrase = at(PHRASES);
            increase(PHRASES, 1);
            put(phraseCell(phrase, OWNER), owner);
            put(phraseCell(phrase, LENGTH), sentence.length);
            put(phraseCell(phrase, TARGET), target);
            put(phraseCell(phrase, PARENT), parent);
            put(phraseCell(phrase, LIVE), 1);
            put(phraseCell(phrase, USES), 0);
            for (int index = 0; index < sentence.length; index++) {
                put(phraseCell(phrase, WORDS + index), sentence.wordAt(index));
            }
            return phrase;
        }

        private int phraseProperty(int phrase, int what) {
            return what == CONFLICTS ? conflictsOf(phrase) : at(phraseCell(phrase, what));
        }

        private int ownerOf(int phrase) {
            return at(phraseCell(phrase, OWNER));
        }

        private int lengthOf(int phrase) {
            return at(phraseCell(phrase, LENGTH));
        }

        private int targetOf(int phrase) {
            return at(phraseCell(phrase, TARGET));
        }

        private int parentOf(int phrase) {
            return at(phraseCell(phrase, PARENT));
        }

        private boolean isLive(int phrase) {
            return at(phraseCell(phrase, LIVE)) == 1;
        }

        private int usesOf(int phrase) {
            return at(phraseCell(phrase, USES));
        }

        private int wordOf(int phrase, int index) {
            return at(phraseCell(phrase, WORDS + index));
        }

        private void readInto(Sentence sentence, int phrase) {
            sentence.clear();
            for (int index = 0; index < lengthOf(phrase); index++) {
                sentence.append(wordOf(phrase, index));
            }
        }

        private int likenessOf(int phrase, int second) {
            readInto(one, phrase);
            return likenessTo(one, second);
        }

        private int likenessTo(Sentence sentence, int phrase) {
            readInto(other, phrase);
            return yardstick.measure(sentence, other);
        }

        private int conflictsOf(int phrase) {
            if (!isLive(phrase)) {
                return 0;
            }
            readInto(one, phrase);
            int conflicts = 0;
            for (int second = 0; second < phrases(); second++) {
                if (isLiveAs(second, one) && targetOf(second) != targetOf(phrase)) {
                    conflicts++;
                }
            }
            return conflicts;
        }

        /** Tells whether the words of a phrase stand in a sentence from a place on. */
        private boolean standsAt(int phrase, Sentence sentence, int place) {
            int length = at(phraseCell(phrase, LENGTH));
            int start = phraseCell(phrase, WORDS);
            if (place + length > sentence.length) {
                return false;
            }
            for (int index = 0; index < length; index++) {
                if (at(start + index) != sentence.wordAt(place + index)) {
                    return false;
                }
            }
            return true;
        }

        /** Tells whether a phrase is live and has just this sentence. */
        private boolean isLiveAs(int phrase, Sentence sentence) {
            return isLive(phrase) && lengthOf(phrase) == sentence.length && standsAt(phrase, sentence, 0);
        }

        /** How many different members give a target to a sentence. */
        private int giversOf(int target, Sentence sentence) {
            int givers = 0;
            for (int member = 0; member < members(); member++) {
                if (gives(member, target, sentence)) {
                    givers++;
                }
            }
            return givers;
        }

        private boolean gives(int member, int target, Sentence sentence) {
            for (int phrase = 0; phrase < phrases(); phrase++) {
                if (ownerOf(phrase) == member && targetOf(phrase) == target && isLiveAs(phrase, sentence)) {
                    return true;
                }
            }
            return false;
        }

        // ---- uses

        private int feeFor(int member, int phrase, int itsScore) {
            int owner = ownerOf(phrase);
            return owner == member ? 0 : priceOf(owner) * itsScore / FULL_SCORE;
        }

        private int noteProperty(int note, int what) {
            return at(noteCell(note, what));
        }

        private boolean isPaidBack(int note) {
            return at(noteCell(note, PAID_BACK)) == 1;
        }

        /** Notes the use of a phrase by a member, who pays the fee for it. */
        private int startNote(int member, int phrase, int itsScore) {
            int note = at(NOTES);
            increase(NOTES, 1);
            put(noteCell(note, USER), member);
            put(noteCell(note, USED), phrase);
            put(noteCell(note, SCORE), itsScore);
            put(noteCell(note, FEE), feeFor(member, phrase, itsScore));
            put(noteCell(note, NOTE_TICK), tick());
            put(noteCell(note, PAID_BACK), 0);
            splitFee(note);
            moveMoney(note, 1);
            increase(phraseCell(phrase, USES), 1);
            return note;
        }

        /** Tells in a note what of its fee the pool and each member get and do not pass on. */
        private void splitFee(int note) {
            for (int member = 0; member < MAX_MEMBERS; member++) {
                put(noteCell(note, MEMBERS_GOT + member), 0);
            }
            int ofPool = noteProperty(note, FEE) * settingOf(SHARE) / HUNDREDTHS;
            put(noteCell(note, POOL_GOT), ofPool);
            int amount = noteProperty(note, FEE) - ofPool;
            int phrase = noteProperty(note, USED);
            // Each phrase is younger than its parent, so that no line of them is longer than all phrases.
            for (int step = 0; step < MAX_PHRASES && phrase != NONE; step++) {
                int parent = parentOf(phrase);
                int passedOn = parent == NONE ? 0 : amount * settingOf(ROYALTY) / HUNDREDTHS;
                increase(noteCell(note, MEMBERS_GOT + ownerOf(phrase)), amount - passedOn);
                amount = passedOn;
                phrase = parent;
            }
        }

        /** Moves the fee of a note to those who get it (direction 1), or back (direction -1). */
        private void moveMoney(int note, int direction) {
            increase(memberCell(noteProperty(note, USER), ACCOUNT), -direction * noteProperty(note, FEE));
            increase(POOL, direction * noteProperty(note, POOL_GOT));
            for (int member = 0; member < members(); member++) {
                increase(memberCell(member, ACCOUNT), direction * noteProperty(note, MEMBERS_GOT + member));
            }
        }

        // ---- retracting

        /** Marks a live phrase and all that would end with it. */
        private void markEndings(int phrase) {
            // Each phrase is younger than its parent, so that one round in their order meets all.
            for (int i = 0; i < MAX_PHRASES; i++) {
                marked[i] = i == phrase
                        || i < phrases() && hasMarkedParent(i) && likenessOf(i, parentOf(i)) >= settingOf(CLOSENESS);
            }
        }

        private boolean isMarked(int phrase) {
            return phrase >= 0 && phrase < MAX_PHRASES && marked[phrase];
        }

        private boolean hasMarkedParent(int phrase) {
            return isLive(phrase) && isMarked(parentOf(phrase));
        }

        /** Ends what is marked, lets loose what was derived from it, and returns how many phrases end. */
        private int endMarked() {
            int ended = 0;
            for (int phrase = 0; phrase < phrases(); phrase++) {
                if (isMarked(phrase)) {
                    put(phraseCell(phrase, LIVE), 0);
                    ended++;
                } else if (hasMarkedParent(phrase)) {
                    put(phraseCell(phrase, PARENT), NONE);
                }
            }
            return ended;
        }

        /** Tells whether a note is paid, of a phrase that is marked, and not too old. */
        private boolean isOwed(int note) {
            return !isPaidBack(note) && isMarked(noteProperty(note, USED))
                    && noteProperty(note, NOTE_TICK) >= tick() - settingOf(GRACE);
        }

        private int owedForMarked() {
            int sum = 0;
            for (int note = 0; note < notes(); note++) {
                if (isOwed(note)) {
                    sum += noteProperty(note, FEE);
                }
            }
            return sum;
        }

        private void payBackMarked() {
            for (int note = 0; note < notes(); note++) {
                if (isOwed(note)) {
                    moveMoney(note, -1);
                    put(noteCell(note, PAID_BACK), 1);
                }
            }
        }
    }
}
