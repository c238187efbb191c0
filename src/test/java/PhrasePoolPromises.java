// For each promise the answers that the document asks for: ordinary inputs, edges, wrong inputs.
public final class PhrasePoolPromises {
    private static final int NONE = -1000000;
    private static final int BAD_INDEX = -1000001;
    private static final int BAD_VALUE = -1000002;
    private static final int BAD_STATE = -1000003;
    private static final int FULL = -1000004;

    private static int wrong = 0;
    private static int asked = 0;

    private static void due(String call, long got, long want) {
        asked++;
        if (got != want) {
            wrong++;
            System.out.println(call + " answered " + got + ", due is " + want);
        }
    }

    private static void write(PhrasePool pool, String text) {
        pool.clearText();
        for (int i = 0; i < text.length(); i++) {
            pool.type(text.charAt(i));
        }
    }

    private static int add(PhrasePool pool, int member, String sentence, int target, int parent) {
        write(pool, sentence);
        return pool.addPhrase(member, target, parent);
    }

    private static PhrasePool poolOf(int members) {
        PhrasePool pool = new PhrasePool();
        for (int i = 0; i < members; i++) {
            pool.addMember();
        }
        return pool;
    }

    public static void main(String[] args) {
        newObject();
        addMember();
        setPrice();
        set();
        count();
        member();
        addPhrase();
        addPhraseErrors();
        phrase();
        word();
        score();
        agreed();
        match();
        alike();
        fee();
        use();
        useShares();
        useErrors();
        note();
        retract();
        retractChain();
        payBack();
        wouldPayBack();
        pass();
        cheapest();
        piece();
        type();
        clearText();
        textFault();
        undo();
        undoRestoresAll();
        whatIsRecorded();
        errorsChangeNothing();
        digest();
        System.out.println(asked + " answers, " + wrong + " wrong");
        if (wrong != 0) {
            System.exit(1);
        }
    }

    private static void newObject() {
        PhrasePool pool = new PhrasePool();
        int[] first = {0, 0, 0, 0, 0, 0, 0, 0, 70, 10, 30, 10, 80, 0};
        for (int what = 0; what < first.length; what++) {
            due("1 count(" + what + ") when new", pool.count(what), first[what]);
        }
        due("1 undo() when new", pool.undo(), BAD_STATE);
        due("1 textFault() when new", pool.textFault(), 0);
        PhrasePool other = poolOf(2);
        due("1 another object has its own members", pool.count(0), 0);
        due("1 members of the other", other.count(0), 2);
    }

    private static void addMember() {
        PhrasePool pool = new PhrasePool();
        for (int i = 0; i < 6; i++) {
            due("2 addMember()", pool.addMember(), i);
            due("2 its price", pool.member(i, 0), 40);
            due("2 its account", pool.member(i, 1), 0);
        }
        due("2 addMember() when full", pool.addMember(), FULL);
        due("2 members", pool.count(0), 6);
        due("2 recorded", pool.undo(), 3);
        due("2 members after undo", pool.count(0), 5);
    }

    private static void setPrice() {
        PhrasePool pool = poolOf(2);
        due("3 setPrice(1, 0)", pool.setPrice(1, 0), 40);
        due("3 setPrice(1, 200)", pool.setPrice(1, 200), 0);
        due("3 price of 1", pool.member(1, 0), 200);
        due("3 price of 0", pool.member(0, 0), 40);
        due("3 setPrice(1, 201)", pool.setPrice(1, 201), BAD_VALUE);
        due("3 setPrice(1, -1)", pool.setPrice(1, -1), BAD_VALUE);
        due("3 setPrice(2, 1)", pool.setPrice(2, 1), BAD_INDEX);
        due("3 setPrice(-1, 1)", pool.setPrice(-1, 1), BAD_INDEX);
        due("3 setPrice(2, 201)", pool.setPrice(2, 201), BAD_INDEX);
        due("3 price after errors", pool.member(1, 0), 200);
        due("3 recorded", pool.undo(), 3);
        due("3 price after undo", pool.member(1, 0), 0);
    }

    private static void set() {
        PhrasePool pool = new PhrasePool();
        int[] least = {1, 0, 0, 0, 1};
        int[] most = {100, 50, 80, 100, 100};
        int[] first = {70, 10, 30, 10, 80};
        for (int setting = 0; setting < 5; setting++) {
            due("4 first value", pool.set(setting, least[setting]), first[setting]);
            due("4 least value", pool.set(setting, most[setting]), least[setting]);
            due("4 too low", pool.set(setting, least[setting] - 1), BAD_VALUE);
            due("4 too high", pool.set(setting, most[setting] + 1), BAD_VALUE);
            due("4 most value", pool.count(8 + setting), most[setting]);
        }
        due("4 set(5, 1)", pool.set(5, 1), BAD_INDEX);
        due("4 set(-1, 1)", pool.set(-1, 1), BAD_INDEX);
        due("4 set(5, -1)", pool.set(5, -1), BAD_INDEX);
        due("4 recorded", pool.undo(), 3);
        due("4 closeness after undo", pool.count(12), 1);
    }

    private static void count() {
        PhrasePool pool = poolOf(3);
        add(pool, 0, "abc", 1, NONE);
        add(pool, 1, "abc", 2, NONE);
        add(pool, 2, "abc", 2, NONE);
        add(pool, 2, "xyz", 3, NONE);
        due("5 pairs in conflict", pool.count(7), 2);
        pool.pass(4);
        write(pool, "xyz");
        pool.use(0);
        pool.use(1);
        pool.retract(3);
        write(pool, "ab c");
        pool.use(1);
        int[] want = {3, 4, 3, 3, 2, 4, 4, 2, 70, 10, 30, 10, 80, 4};
        for (int what = 0; what < want.length; what++) {
            due("5 count(" + what + ")", pool.count(what), want[what]);
        }
        pool.retract(0);
        due("5 an ended one is in no conflict", pool.count(7), 0);
        due("5 count(-1)", pool.count(-1), BAD_VALUE);
        due("5 count(14)", pool.count(14), BAD_VALUE);
        due("5 count(MAX)", pool.count(Integer.MAX_VALUE), BAD_VALUE);
        due("5 count(MIN)", pool.count(Integer.MIN_VALUE), BAD_VALUE);
    }

    private static void member() {
        PhrasePool pool = poolOf(3);
        add(pool, 1, "abc", 1, NONE);
        add(pool, 1, "xyz", 1, NONE);
        write(pool, "abc");
        pool.use(0);
        pool.use(0);
        pool.use(1);
        write(pool, "xyz");
        pool.use(0);
        due("6 0's account", pool.member(0, 1), -120);
        due("6 1's account", pool.member(1, 1), 108);
        due("6 1's phrases", pool.member(1, 2), 2);
        due("6 0's uses", pool.member(0, 3), 3);
        due("6 1's uses", pool.member(1, 3), 1);
        due("6 1 got", pool.member(1, 4), 108);
        due("6 0 got", pool.member(0, 4), 0);
        pool.retract(0);
        due("6 1's live phrases", pool.member(1, 2), 1);
        due("6 0's uses are told though paid back", pool.member(0, 3), 3);
        due("6 1 got by what is not paid back", pool.member(1, 4), 36);
        due("6 member(3, 0)", pool.member(3, 0), BAD_INDEX);
        due("6 member(-1, 0)", pool.member(-1, 0), BAD_INDEX);
        due("6 member(3, 5)", pool.member(3, 5), BAD_INDEX);
        due("6 member(0, 5)", pool.member(0, 5), BAD_VALUE);
        due("6 member(0, -1)", pool.member(0, -1), BAD_VALUE);
    }

    private static void addPhrase() {
        PhrasePool pool = poolOf(2);
        due("7 addPhrase", add(pool, 1, " a  bz ", 999, NONE), 0);
        due("7 the text stays", pool.count(13), 7);
        due("7 addPhrase again", pool.addPhrase(0, 0, 0), 1);
        due("7 its parent", pool.phrase(1, 3), 0);
        due("7 its words", pool.phrase(1, 1), 3);
        due("7 recorded", pool.undo(), 3);
        due("7 phrases after undo", pool.count(1), 1);
        due("7 ten words", add(pool, 0, "abcdefghij", 5, 0), 1);
        due("7 its tenth word", pool.word(1, 9), 9);
        for (int i = 2; i < 20; i++) {
            due("7 addPhrase to the last", pool.addPhrase(0, i, NONE), i);
        }
        due("7 addPhrase when full", pool.addPhrase(0, 1, NONE), FULL);
        pool.retract(3);
        due("7 an ended one keeps its number", pool.addPhrase(0, 1, NONE), FULL);
        due("7 ended parent when full", pool.addPhrase(0, 1, 3), BAD_STATE);
        due("7 phrases", pool.count(1), 20);
    }

    private static void addPhraseErrors() {
        PhrasePool pool = poolOf(1);
        add(pool, 0, "abc", 1, NONE);
        add(pool, 0, "xyz", 1, NONE);
        pool.retract(1);
        due("7 no member", pool.addPhrase(1, 1, NONE), BAD_INDEX);
        due("7 member -1", pool.addPhrase(-1, 1, NONE), BAD_INDEX);
        due("7 no parent of that number", pool.addPhrase(0, 1, 2), BAD_INDEX);
        due("7 parent -1", pool.addPhrase(0, 1, -1), BAD_INDEX);
        due("7 parent beyond NONE", pool.addPhrase(0, 1, NONE - 1), BAD_INDEX);
        due("7 index before value", pool.addPhrase(0, 1000, 2), BAD_INDEX);
        due("7 target 1000", pool.addPhrase(0, 1000, 1), BAD_VALUE);
        due("7 target -1", pool.addPhrase(0, -1, NONE), BAD_VALUE);
        due("7 ended parent", pool.addPhrase(0, 1, 1), BAD_STATE);
        pool.clearText();
        due("7 empty text", pool.addPhrase(0, 1, NONE), BAD_STATE);
        due("7 value before state", pool.addPhrase(0, 1000, NONE), BAD_VALUE);
        due("7 eleven words", add(pool, 0, "abcdefghijk", 1, NONE), BAD_STATE);
        due("7 a great letter", add(pool, 0, "A", 1, NONE), BAD_STATE);
        due("7 phrases", pool.count(1), 2);
    }

    private static void phrase() {
        PhrasePool pool = poolOf(3);
        add(pool, 2, "abcd", 17, NONE);
        add(pool, 1, "abcd", 18, 0);
        add(pool, 0, "abcd", 18, 1);
        add(pool, 0, "abce", 19, NONE);
        write(pool, "abcd");
        pool.use(0);
        int[] first = {2, 4, 17, NONE, 1, 1, 2};
        int[] second = {1, 4, 18, 0, 1, 0, 1};
        for (int what = 0; what < 7; what++) {
            due("8 phrase(0, " + what + ")", pool.phrase(0, what), first[what]);
            due("8 phrase(1, " + what + ")", pool.phrase(1, what), second[what]);
        }
        due("8 no conflict of other sentences", pool.phrase(3, 6), 0);
        pool.set(4, 100);
        pool.retract(1);
        due("8 its owner when ended", pool.phrase(1, 0), 1);
        due("8 its parent when ended", pool.phrase(1, 3), 0);
        due("8 not live", pool.phrase(1, 4), 0);
        due("8 no conflicts when ended", pool.phrase(1, 6), 0);
        due("8 conflicts of the other", pool.phrase(0, 6), 0);
        due("8 phrase(4, 0)", pool.phrase(4, 0), BAD_INDEX);
        due("8 phrase(-1, 0)", pool.phrase(-1, 0), BAD_INDEX);
        due("8 phrase(4, 7)", pool.phrase(4, 7), BAD_INDEX);
        due("8 phrase(0, 7)", pool.phrase(0, 7), BAD_VALUE);
        due("8 phrase(0, -1)", pool.phrase(0, -1), BAD_VALUE);
    }

    private static void word() {
        PhrasePool pool = poolOf(1);
        add(pool, 0, "az m", 1, NONE);
        due("9 word 0", pool.word(0, 0), 0);
        due("9 word 1", pool.word(0, 1), 25);
        due("9 word 2", pool.word(0, 2), 12);
        due("9 word 3", pool.word(0, 3), NONE);
        due("9 word 10", pool.word(0, 10), NONE);
        due("9 word MAX", pool.word(0, Integer.MAX_VALUE), NONE);
        due("9 word -1", pool.word(0, -1), BAD_VALUE);
        due("9 word MIN", pool.word(0, Integer.MIN_VALUE), BAD_VALUE);
        due("9 no phrase", pool.word(1, 0), BAD_INDEX);
        due("9 index before value", pool.word(1, -1), BAD_INDEX);
        due("9 phrase -1", pool.word(-1, 0), BAD_INDEX);
    }

    private static void score() {
        PhrasePool pool = poolOf(1);
        String[] sentences = {"kitten", "sitting", "a", "b", "abcdefghij", "bcdefghija", "ab", "ba"};
        for (int i = 0; i < sentences.length; i++) {
            add(pool, 0, sentences[i], 1, NONE);
        }
        due("10 kitten, sitting", pool.score(0, 1), 57);
        due("10 sitting, kitten", pool.score(1, 0), 57);
        due("10 itself", pool.score(1, 1), 100);
        due("10 a, b", pool.score(2, 3), 0);
        due("10 taken out and put in", pool.score(4, 5), 80);
        due("10 a, abcdefghij", pool.score(2, 4), 10);
        due("10 ab, ba", pool.score(6, 7), 0);
        pool.retract(0);
        due("10 of an ended one", pool.score(0, 1), 57);
        due("10 no other", pool.score(0, 8), BAD_INDEX);
        due("10 no one", pool.score(8, 0), BAD_INDEX);
        due("10 -1", pool.score(-1, 0), BAD_INDEX);
        due("10 other -1", pool.score(0, -1), BAD_INDEX);
    }

    private static void agreed() {
        PhrasePool pool = poolOf(4);
        due("11 empty text", pool.agreed(), BAD_STATE);
        write(pool, "ab");
        due("11 no phrase", pool.agreed(), NONE);
        add(pool, 0, "ab", 9, NONE);
        due("11 one phrase", pool.agreed(), 9);
        add(pool, 0, "ab", 9, NONE);
        add(pool, 0, "ab", 9, NONE);
        due("11 one target", pool.agreed(), 9);
        add(pool, 1, "ab", 5, NONE);
        due("11 members count, not phrases; the lowest", pool.agreed(), 5);
        add(pool, 2, "ab", 9, NONE);
        due("11 most members", pool.agreed(), 9);
        add(pool, 3, "ab", 5, NONE);
        add(pool, 0, "ab", 5, NONE);
        due("11 a member can give several", pool.agreed(), 5);
        pool.retract(3);
        due("11 live ones alone", pool.agreed(), 5);
        pool.retract(5);
        due("11 then the other", pool.agreed(), 9);
        write(pool, "a");
        due("11 just this sentence", pool.agreed(), NONE);
        write(pool, "abc");
        due("11 not a longer one", pool.agreed(), NONE);
        write(pool, "xy");
        add(pool, 3, "xy", 0, NONE);
        add(pool, 2, "xy", 999, NONE);
        due("11 the lowest though it came first", pool.agreed(), 0);
        add(pool, 1, "xy", 999, 8);
        due("11 of the most, though it is greater", pool.agreed(), 999);
        write(pool, "a1");
        due("11 a fault", pool.agreed(), BAD_STATE);
    }

    private static void match() {
        PhrasePool pool = poolOf(2);
        due("12 empty text", pool.match(), BAD_STATE);
        add(pool, 0, "abcdefghij", 1, NONE);
        add(pool, 0, "abcdefg", 1, NONE);
        add(pool, 1, "abcdefh", 1, NONE);
        add(pool, 1, "abcdefh", 1, NONE);
        write(pool, "abcdefg");
        due("12 the greatest score", pool.match(), 1);
        write(pool, "abcdefx");
        due("12 of several the lowest number", pool.match(), 1);
        write(pool, "abcdefh");
        due("12 of the same the lowest number", pool.match(), 2);
        pool.use(0);
        pool.undo();
        pool.retract(2);
        due("12 a live one", pool.match(), 3);
        pool.use(0);
        write(pool, "abcdefx");
        due("12 of several the most uses", pool.match(), 3);
        write(pool, "abcdefghxyz");
        due("12 a fault", pool.match(), BAD_STATE);
        write(pool, "abcdefgxyz");
        due("12 score 70 at threshold 70", pool.match(), 0);
        pool.set(0, 71);
        due("12 score 70 at threshold 71", pool.match(), NONE);
        write(pool, "q");
        pool.set(0, 1);
        due("12 nothing alike at threshold 1", pool.match(), NONE);
    }

    private static void alike() {
        PhrasePool pool = poolOf(1);
        add(pool, 0, "abcd", 1, NONE);
        write(pool, "ab d");
        due("13 alike", pool.alike(0), 75);
        write(pool, "dcba");
        due("13 alike below the threshold", pool.alike(0), 0);
        pool.retract(0);
        write(pool, "abcdxx");
        due("13 of an ended one", pool.alike(0), 66);
        due("13 no phrase", pool.alike(1), BAD_INDEX);
        due("13 phrase -1", pool.alike(-1), BAD_INDEX);
        pool.clearText();
        due("13 a fault", pool.alike(0), BAD_STATE);
        due("13 index before state", pool.alike(1), BAD_INDEX);
    }

    private static void fee() {
        PhrasePool pool = poolOf(2);
        due("14 a fault", pool.fee(0), BAD_STATE);
        due("14 index before state", pool.fee(2), BAD_INDEX);
        add(pool, 0, "abcdefg", 1, NONE);
        pool.setPrice(0, 33);
        due("14 price at score 100", pool.fee(1), 33);
        write(pool, "abcdefx");
        due("14 33 * 85 / 100", pool.fee(1), 28);
        due("14 the owner", pool.fee(0), 0);
        due("14 no member", pool.fee(2), BAD_INDEX);
        due("14 member -1", pool.fee(-1), BAD_INDEX);
        write(pool, "q");
        due("14 no match", pool.fee(1), NONE);
        due("14 nothing is noted", pool.count(3), 0);
    }

    private static void use() {
        PhrasePool pool = poolOf(2);
        add(pool, 0, "abcd", 1, NONE);
        pool.pass(7);
        write(pool, "abcx");
        due("15 use", pool.use(1), 0);
        due("15 its uses", pool.phrase(0, 5), 1);
        due("15 the member", pool.note(0, 0), 1);
        due("15 the phrase", pool.note(0, 1), 0);
        due("15 the score", pool.note(0, 2), 75);
        due("15 the fee", pool.note(0, 3), 30);
        due("15 the tick", pool.note(0, 4), 7);
        due("15 paid", pool.note(0, 5), 0);
        due("15 the pool got", pool.note(0, 6), 3);
        due("15 the owner got", pool.note(0, 7), 27);
        due("15 the member's account", pool.member(1, 1), -30);
        due("15 the owner's account", pool.member(0, 1), 27);
        due("15 the pool's account", pool.count(6), 3);
        due("15 use by the owner", pool.use(0), 1);
        due("15 no fee", pool.note(1, 3), 0);
        due("15 uses by the owner count", pool.phrase(0, 5), 2);
        due("15 recorded", pool.undo(), 3);
        due("15 uses after undo", pool.phrase(0, 5), 1);
        due("15 notes after undo", pool.count(3), 1);
    }

    // Derived 0 <- 1 <- 2 <- 3, by the members 0, 1, 0, 2.
    private static void useShares() {
        PhrasePool pool = poolOf(4);
        pool.setPrice(2, 199);
        pool.set(1, 15);
        pool.set(2, 50);
        add(pool, 0, "abc", 1, NONE);
        add(pool, 1, "abd", 1, 0);
        add(pool, 0, "abe", 1, 1);
        add(pool, 2, "abf", 1, 2);
        due("15 note", pool.use(3), 0);
        due("15 the fee is the price", pool.note(0, 3), 199);
        due("15 the pool's share", pool.note(0, 6), 29);
        due("15 the owner keeps half of 170", pool.note(0, 9), 85);
        due("15 0 keeps 43 of 85 and gets 21", pool.note(0, 7), 64);
        due("15 1 keeps 21 of 42", pool.note(0, 8), 21);
        due("15 the user got nothing", pool.note(0, 10), 0);
        due("15 note by one who gets of it", pool.use(0), 1);
        due("15 what the user got", pool.note(1, 7), 64);
        due("15 the account of the user", pool.member(0, 1), 64 + 64 - 199);
        due("15 the account of the pool", pool.count(6), 58);
        pool.set(1, 0);
        pool.set(2, 0);
        due("15 note without shares", pool.use(3), 2);
        due("15 the owner gets all", pool.note(2, 9), 199);
        due("15 the pool gets nothing", pool.note(2, 6), 0);
        long all = pool.count(6);
        for (int i = 0; i < 4; i++) {
            all += pool.member(i, 1);
        }
        due("15 all money that is paid is got", all, 0);
    }

    private static void useErrors() {
        PhrasePool pool = poolOf(2);
        due("15 a fault", pool.use(0), BAD_STATE);
        due("15 index before state", pool.use(2), BAD_INDEX);
        due("15 member -1", pool.use(-1), BAD_INDEX);
        add(pool, 0, "abc", 1, NONE);
        write(pool, "xyz");
        long before = pool.digest();
        due("15 no match", pool.use(1), NONE);
        due("15 nothing is changed", pool.digest(), before);
        due("15 but it is recorded", pool.undo(), 3);
        due("15 and nothing else was undone", pool.digest(), before);
        write(pool, "abc");
        for (int i = 0; i < 24; i++) {
            due("15 use to the last note", pool.use(1), i);
        }
        due("15 full", pool.use(1), FULL);
        write(pool, "xyz");
        due("15 full without a match", pool.use(1), FULL);
        pool.clearText();
        due("15 state before full", pool.use(1), BAD_STATE);
        due("15 index before all", pool.use(2), BAD_INDEX);
        due("15 notes", pool.count(3), 24);
        due("15 uses", pool.phrase(0, 5), 24);
    }

    private static void note() {
        PhrasePool pool = poolOf(6);
        due("16 no note", pool.note(0, 0), BAD_INDEX);
        add(pool, 5, "abc", 1, NONE);
        pool.use(2);
        due("16 what 5 got", pool.note(0, 12), 36);
        due("16 what 4 got", pool.note(0, 11), 0);
        due("16 note(0, 13)", pool.note(0, 13), BAD_VALUE);
        due("16 note(0, -1)", pool.note(0, -1), BAD_VALUE);
        due("16 note(1, 0)", pool.note(1, 0), BAD_INDEX);
        due("16 note(-1, 0)", pool.note(-1, 0), BAD_INDEX);
        due("16 note(1, 13)", pool.note(1, 13), BAD_INDEX);
        PhrasePool two = poolOf(2);
        add(two, 1, "abc", 1, NONE);
        two.use(0);
        due("16 one that there is not", two.note(0, 12), 0);
    }

    private static void retract() {
        PhrasePool pool = poolOf(1);
        add(pool, 0, "abcde", 1, NONE);
        add(pool, 0, "abcdx", 1, 0);
        add(pool, 0, "abcyx", 1, 0);
        add(pool, 0, "abcde", 1, NONE);
        due("17 retract(0)", pool.retract(0), 2);
        due("17 0 has ended", pool.phrase(0, 4), 0);
        due("17 closeness 80 at score 80", pool.phrase(1, 4), 0);
        due("17 score 60 lives on", pool.phrase(2, 4), 1);
        due("17 without a parent", pool.phrase(2, 3), NONE);
        due("17 what is not derived lives on", pool.phrase(3, 4), 1);
        due("17 again", pool.retract(0), BAD_STATE);
        due("17 what ended with it", pool.retract(1), BAD_STATE);
        due("17 no phrase", pool.retract(4), BAD_INDEX);
        due("17 phrase -1", pool.retract(-1), BAD_INDEX);
        due("17 recorded", pool.undo(), 3);
        due("17 live after undo", pool.phrase(1, 4), 1);
        due("17 its parent after undo", pool.phrase(2, 3), 0);
        pool.set(4, 81);
        due("17 closeness 81", pool.retract(0), 1);
        due("17 score 80 lives on then", pool.phrase(1, 4), 1);
    }

    // 1 and 2 are close to their parents, 3 is not, so that 4, close to 3, lives on with its parent.
    private static void retractChain() {
        PhrasePool pool = poolOf(1);
        add(pool, 0, "abcde", 1, NONE);
        add(pool, 0, "abcdx", 1, 0);
        add(pool, 0, "abcyx", 1, 1);
        add(pool, 0, "zzzyx", 1, 2);
        add(pool, 0, "zzzyx", 1, 3);
        due("17 it goes on", pool.retract(0), 3);
        due("17 2 is far from 0, close to its parent", pool.phrase(2, 4), 0);
        due("17 3 lives on", pool.phrase(3, 4), 1);
        due("17 3 has no parent", pool.phrase(3, 3), NONE);
        due("17 4 lives on", pool.phrase(4, 4), 1);
        due("17 4 keeps its parent", pool.phrase(4, 3), 3);
        due("17 an ended one keeps its parent", pool.phrase(2, 3), 1);
        due("17 a younger one leaves its parent", pool.retract(4), 1);
        due("17 which lives on", pool.phrase(3, 4), 1);
    }

    private static void payBack() {
        PhrasePool pool = poolOf(3);
        add(pool, 0, "abcde", 1, NONE);
        add(pool, 1, "abcdx", 1, 0);
        pool.use(2);
        pool.pass(5);
        pool.use(2);
        pool.pass(10);
        write(pool, "abcde");
        pool.use(1);
        due("17 both end", pool.retract(0), 2);
        due("17 tick 0 is too old at 15", pool.note(0, 5), 0);
        due("17 tick 5 is not", pool.note(1, 5), 1);
        due("17 a use of the parent", pool.note(2, 5), 1);
        due("17 what the note tells stays", pool.note(1, 8), 26);
        due("17 what the pool got stays told", pool.note(1, 6), 4);
        due("17 the user's account", pool.member(2, 1), -40);
        due("17 1's account", pool.member(1, 1), 26);
        due("17 0's account", pool.member(0, 1), 10);
        due("17 the pool's account", pool.count(6), 4);
        due("17 uses are not counted back", pool.phrase(1, 5), 2);
        due("17 notes paid back", pool.count(4), 2);
        PhrasePool none = poolOf(2);
        add(none, 0, "abc", 1, NONE);
        none.set(3, 0);
        none.use(1);
        due("17 grace 0 in the same tick", none.wouldPayBack(0), 40);
        none.pass(1);
        due("17 grace 0 a tick later", none.wouldPayBack(0), 0);
        none.set(3, 1);
        due("17 grace 1 a tick later", none.retract(0), 1);
        due("17 an account at 0 again", none.member(1, 1), 0);
    }

    private static void wouldPayBack() {
        PhrasePool pool = poolOf(3);
        add(pool, 0, "abcde", 1, NONE);
        add(pool, 1, "abcdx", 1, 0);
        add(pool, 1, "qqq", 1, NONE);
        pool.use(2);
        write(pool, "abcdx");
        pool.use(2);
        write(pool, "abcde");
        pool.setPrice(0, 7);
        pool.use(2);
        long before = pool.digest();
        due("18 with what is derived", pool.wouldPayBack(0), 47);
        due("18 without what it is derived from", pool.wouldPayBack(1), 40);
        due("18 another", pool.wouldPayBack(2), 40);
        due("18 nothing is changed", pool.digest(), before);
        due("18 not recorded", pool.undo(), 3);
        due("18 the use is undone", pool.wouldPayBack(0), 40);
        pool.retract(0);
        due("18 ended", pool.wouldPayBack(0), BAD_STATE);
        due("18 ended with it", pool.wouldPayBack(1), BAD_STATE);
        due("18 no phrase", pool.wouldPayBack(3), BAD_INDEX);
        due("18 phrase -1", pool.wouldPayBack(-1), BAD_INDEX);
    }

    private static void pass() {
        PhrasePool pool = new PhrasePool();
        due("19 pass(1)", pool.pass(1), 1);
        due("19 pass(0)", pool.pass(0), BAD_VALUE);
        due("19 pass(-1)", pool.pass(-1), BAD_VALUE);
        due("19 pass(101)", pool.pass(101), BAD_VALUE);
        due("19 pass(MAX)", pool.pass(Integer.MAX_VALUE), BAD_VALUE);
        for (int i = 1; i < 100; i++) {
            due("19 pass(100)", pool.pass(100), 1 + 100 * i);
        }
        due("19 above 10000", pool.pass(100), FULL);
        due("19 value before full", pool.pass(101), BAD_VALUE);
        due("19 to 10000", pool.pass(99), 10000);
        due("19 above by one", pool.pass(1), FULL);
        due("19 the tick", pool.count(5), 10000);
        due("19 recorded", pool.undo(), 3);
        due("19 the tick after undo", pool.count(5), 9901);
    }

    private static void cheapest() {
        PhrasePool pool = poolOf(3);
        due("20 a fault", pool.cheapest(0), BAD_STATE);
        due("20 index before state", pool.cheapest(3), BAD_INDEX);
        due("20 member -1", pool.cheapest(-1), BAD_INDEX);
        add(pool, 0, "ab", 1, NONE);
        add(pool, 1, "a", 1, NONE);
        add(pool, 1, "b", 1, NONE);
        pool.setPrice(0, 50);
        pool.setPrice(1, 20);
        write(pool, "abab");
        due("20 four small ones, not two greater", pool.cheapest(2), 80);
        due("20 own ones are free", pool.cheapest(0), 0);
        due("20 own small ones are free", pool.cheapest(1), 0);
        pool.setPrice(1, 26);
        due("20 two greater ones", pool.cheapest(2), 100);
        write(pool, "aba");
        due("20 a greater and a small one", pool.cheapest(2), 76);
        write(pool, "abc");
        due("20 no way", pool.cheapest(2), NONE);
        write(pool, "ca");
        due("20 no way from the start", pool.cheapest(2), NONE);
        pool.retract(1);
        write(pool, "aba");
        due("20 live ones alone", pool.cheapest(2), NONE);
        write(pool, "ab ababab ab");
        due("20 ten words", pool.cheapest(2), 250);
        due("20 nothing is recorded or noted", pool.count(3), 0);
    }

    private static void piece() {
        PhrasePool pool = poolOf(2);
        due("21 no member", pool.piece(2, 0), BAD_INDEX);
        due("21 index before value", pool.piece(2, -1), BAD_INDEX);
        due("21 value before state", pool.piece(0, -1), BAD_VALUE);
        due("21 a fault", pool.piece(0, 0), BAD_STATE);
        add(pool, 0, "b", 1, NONE);
        add(pool, 0, "a", 1, NONE);
        add(pool, 0, "bc", 1, NONE);
        add(pool, 0, "ab", 1, NONE);
        add(pool, 0, "c", 1, NONE);
        write(pool, "abc");
        due("21 of the fewest the first sequence", pool.piece(1, 0), 1);
        due("21 its second", pool.piece(1, 1), 2);
        due("21 no third", pool.piece(1, 2), NONE);
        due("21 MAX", pool.piece(1, Integer.MAX_VALUE), NONE);
        due("21 the fewest for the owner", pool.piece(0, 0), 1);
        due("21 its second for the owner", pool.piece(0, 1), 2);
        add(pool, 0, "abc", 1, NONE);
        due("21 one is fewer", pool.piece(0, 0), 5);
        due("21 one alone", pool.piece(0, 1), NONE);
        add(pool, 1, "abc", 1, NONE);
        due("21 cheaper before a lower number", pool.piece(1, 0), 6);
        pool.setPrice(0, 0);
        due("21 the lower number of the same", pool.piece(1, 0), 5);
        write(pool, "bbbbbbbbbb");
        due("21 the tenth", pool.piece(1, 9), 0);
        due("21 no eleventh", pool.piece(1, 10), NONE);
        write(pool, "abd");
        due("21 no way", pool.piece(1, 0), NONE);
    }

    private static void type() {
        PhrasePool pool = new PhrasePool();
        due("22 type(0)", pool.type(0), 1);
        due("22 type(255)", pool.type(255), 2);
        due("22 type(256)", pool.type(256), BAD_VALUE);
        due("22 type(-1)", pool.type(-1), BAD_VALUE);
        for (int i = 2; i < 40; i++) {
            due("22 type", pool.type(97), i + 1);
        }
        due("22 full", pool.type(97), FULL);
        due("22 value before full", pool.type(256), BAD_VALUE);
        due("22 the length", pool.count(13), 40);
        due("22 not recorded", pool.undo(), BAD_STATE);
    }

    private static void clearText() {
        PhrasePool pool = new PhrasePool();
        due("23 empty", pool.clearText(), 0);
        pool.type(97);
        pool.type(32);
        due("23 two bytes", pool.clearText(), 2);
        due("23 the length then", pool.count(13), 0);
        due("23 again", pool.clearText(), 0);
        due("23 not recorded", pool.undo(), BAD_STATE);
    }

    private static void textFault() {
        PhrasePool pool = new PhrasePool();
        String[] texts = {"", "   ", "a", "z", " a b ", "abcdefghij", "abcdefghij ", "abcdefghijk", "a b c d e f g h i j k",
            "`", "{", "ab`", "ab{", "A", " A", "abcdefghij1", "abcdefghijk1", "abc1efghijk", "\u0000", "a\u00ff"};
        int[] faults = {0, 3, NONE, NONE, NONE, NONE, NONE, 10, 20, 0, 0, 2, 2, 0, 1, 10, 10, 3, 0, 1};
        for (int i = 0; i < texts.length; i++) {
            write(pool, texts[i]);
            due("24 textFault() of '" + texts[i] + "'", pool.textFault(), faults[i]);
        }
        write(pool, "                                        ");
        due("24 forty blanks", pool.textFault(), 40);
    }

    private static void undo() {
        PhrasePool pool = new PhrasePool();
        due("25 empty", pool.undo(), BAD_STATE);
        for (int i = 0; i < 6; i++) {
            pool.addMember();
        }
        for (int i = 3; i >= 0; i--) {
            due("25 left", pool.undo(), i);
            due("25 members", pool.count(0), 2 + i);
        }
        due("25 the oldest were dropped", pool.undo(), BAD_STATE);
        due("25 members then", pool.count(0), 2);
        pool.addMember();
        pool.pass(3);
        due("25 after a new record", pool.undo(), 1);
        pool.pass(4);
        due("25 the latest is restored", pool.undo(), 1);
        due("25 the tick", pool.count(5), 0);
        due("25 the last", pool.undo(), 0);
        due("25 members at last", pool.count(0), 2);
        write(pool, "abc");
        pool.addMember();
        pool.clearText();
        due("25 undo", pool.undo(), 0);
        due("25 the text is not restored", pool.count(13), 0);
    }

    private static void undoRestoresAll() {
        PhrasePool pool = poolOf(3);
        add(pool, 0, "abcde", 1, NONE);
        add(pool, 1, "abcdx", 1, 0);
        pool.use(2);
        long[] digests = new long[4];
        digests[0] = pool.digest();
        pool.use(2);
        digests[1] = pool.digest();
        pool.set(0, 50);
        digests[2] = pool.digest();
        pool.retract(0);
        digests[3] = pool.digest();
        pool.setPrice(0, 3);
        for (int i = 3; i >= 0; i--) {
            due("25 left of all", pool.undo(), i);
            due("25 all is restored", pool.digest(), digests[i]);
        }
        add(pool, 2, "zz", 8, NONE);
        due("25 numbers are given again", pool.count(1), 3);
        due("25 the new words", pool.word(2, 0), 25);
    }

    private static void whatIsRecorded() {
        PhrasePool pool = poolOf(2);
        pool.undo();
        pool.undo();
        pool.addMember();
        pool.addMember();
        due("25 after undo of all", pool.undo(), 1);
        pool.setPrice(0, 40);
        due("25 recorded without a change", pool.undo(), 1);
        pool.set(0, 70);
        due("25 set without a change is recorded", pool.undo(), 1);
        add(pool, 0, "abc", 1, NONE);
        due("25 addPhrase", pool.undo(), 1);
        pool.type(97);
        pool.clearText();
        pool.textFault();
        pool.type(97);
        pool.count(0);
        pool.member(0, 0);
        pool.agreed();
        pool.match();
        pool.fee(0);
        pool.cheapest(0);
        pool.piece(0, 0);
        pool.digest();
        due("25 these are not recorded", pool.undo(), 0);
    }

    // Each call answers with an error; neither the state nor the text nor the history changes.
    private static void errorsChangeNothing() {
        PhrasePool pool = poolOf(1);
        add(pool, 0, "abc", 1, NONE);
        pool.use(0);
        pool.retract(0);
        pool.type(49);
        long before = pool.digest();
        int[] errors = {pool.setPrice(1, 1), pool.setPrice(0, 201), pool.set(5, 1), pool.set(0, 0),
            pool.addPhrase(1, 1, NONE), pool.addPhrase(0, 1000, NONE), pool.addPhrase(0, 1, NONE), pool.addPhrase(0, 1, 0),
            pool.use(1), pool.use(0), pool.retract(1), pool.retract(0), pool.pass(0), pool.pass(101), pool.type(256)};
        int[] want = {BAD_INDEX, BAD_VALUE, BAD_INDEX, BAD_VALUE, BAD_INDEX, BAD_VALUE, BAD_STATE, BAD_STATE,
            BAD_INDEX, BAD_STATE, BAD_INDEX, BAD_STATE, BAD_VALUE, BAD_VALUE, BAD_VALUE};
        for (int i = 0; i < want.length; i++) {
            due("error " + i, errors[i], want[i]);
        }
        due("errors change nothing", pool.digest(), before);
        due("errors leave the text", pool.count(13), 4);
        due("errors are not recorded", pool.undo(), 3);
        due("the retraction is undone", pool.phrase(0, 4), 1);
    }

    private static void digest() {
        PhrasePool pool = new PhrasePool();
        due("26 when new", pool.digest(), hash(61, 0, 0, 0, 0, 0, 0, 0, 0, 70, 10, 30, 10, 80));
        pool.addMember();
        pool.addMember();
        add(pool, 1, "az", 5, NONE);
        pool.use(0);
        long want = hash(61, 2, 1, 1, 1, 0, 0, 4, 0, 70, 10, 30, 10, 80);
        want = hash(want, 40, -40, 0, 1, 0, 40, 36, 1, 0, 36);
        want = hash(want, 1, 2, 5, NONE, 1, 1, 0, 0, 25);
        want = hash(want, 0, 0, 100, 40, 0, 0, 4, 0, 36, 0, 0, 0, 0);
        due("26 members, phrases, notes", pool.digest(), want);
        pool.type(97);
        due("26 the text is no part of it", pool.digest(), want);
    }

    private static long hash(long start, int... values) {
        long h = start;
        for (int v : values) {
            h = 31 * h + v;
        }
        return h;
    }
}
