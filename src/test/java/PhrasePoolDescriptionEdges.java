// The boundary cases that the document names before its promises, a test for each sentence.
public final class PhrasePoolDescriptionEdges extends Checks {
    public static void main(String[] args) {
        run(PhrasePoolDescriptionEdges.class);
    }

    // ---- What it is, The public face

    @Says(at = "What it is", that = "An object is used for at most 512 calls after it has been made")
    static void a1TheLastCall() {
        PhrasePool x = new PhrasePool();
        due("call 1", x.addMember(), 0);
        due("call 2", x.type('a'), 1);
        due("call 3", x.addPhrase(0, 1, NONE), 0);
        for (int call = 4; call <= 512; call++) {
            due("call " + call + ", pass(1)", x.pass(1), call - 3);
        }
    }

    @Says(at = "What it is", that = "An object is used for at most 512 calls after it has been made")
    static void a1TheLastCallAfterUses() {
        PhrasePool x = new PhrasePool();
        x.addMember();
        x.type('a');
        x.addPhrase(0, 1, NONE);
        for (int call = 4; call < 512; call += 2) {
            due("call " + call + ", use(0)", x.use(0), 0);
            due("call " + (call + 1) + ", undo()", x.undo(), 2);
        }
        long want = hash(61, 1, 1, 1, 0, 0, 0, 0, 0, 70, 10, 30, 10, 80);
        want = hash(want, 40, 0, 1, 0, 0);
        due("call 512, digest()", x.digest(), hash(want, 0, 1, 1, NONE, 1, 0, 0, 0));
    }

    @Says(at = "What it is", that = "all money that is paid is got by somebody")
    static void a2AllMoneyIsGot() {
        for (int price = 0; price <= 20; price++) {
            PhrasePool x = poolWith(4, "abc");
            add(x, 1, "abd", 1, 0);
            add(x, 2, "abe", 1, 1);
            x.set(1, 33);
            x.set(2, 77);
            x.setPrice(2, price);
            x.use(3);
            x.use(0);
            due("the money after uses at " + price, moneyOf(x), 0);
            due("the fee", x.note(0, 6) + x.note(0, 7) + x.note(0, 8) + x.note(0, 9), price);
            x.retract(0);
            due("the money after a retraction", moneyOf(x), 0);
        }
    }

    @Says(at = "The public face", that = "NONE = -1000000, BAD_INDEX = -1000001, BAD_VALUE = -1000002, BAD_STATE = -1000003, FULL = -1000004")
    static void a3Constants() {
        due("NONE", PhrasePool.NONE, -1000000);
        due("BAD_INDEX", PhrasePool.BAD_INDEX, -1000001);
        due("BAD_VALUE", PhrasePool.BAD_VALUE, -1000002);
        due("BAD_STATE", PhrasePool.BAD_STATE, -1000003);
        due("FULL", PhrasePool.FULL, -1000004);
    }

    // ---- Members, phrases

    @Says(at = "Members, phrases", that = "There are at most 6 members, numbered from 0")
    static void b01SixMembers() {
        PhrasePool x = new PhrasePool();
        for (int member = 0; member < 6; member++) {
            due("members", x.count(0), member);
            due("addMember()", x.addMember(), member);
        }
        due("the seventh", x.addMember(), FULL);
        due("members at last", x.count(0), 6);
    }

    @Says(at = "Members, phrases", that = "each with a price, 0 to 200 (40 at first)")
    static void b02Price() {
        PhrasePool x = pool(6);
        for (int member = 0; member < 6; member++) {
            due("the price at first", x.member(member, 0), 40);
            due("setPrice to 0", x.setPrice(member, 0), 40);
            due("the price", x.member(member, 0), 0);
            due("setPrice to 200", x.setPrice(member, 200), 0);
            due("below 0", x.setPrice(member, -1), BAD_VALUE);
            due("above 200", x.setPrice(member, 201), BAD_VALUE);
            due("the price at last", x.member(member, 0), 200);
        }
    }

    @Says(at = "Members, phrases", that = "and an account, 0 at first, which can be below 0")
    static void b03Account() {
        PhrasePool x = poolWith(6, "a");
        for (int member = 0; member < 6; member++) {
            due("the account at first", x.member(member, 1), 0);
        }
        x.setPrice(0, 1);
        x.use(5);
        due("just below 0", x.member(5, 1), -1);
        x.setPrice(0, 200);
        for (int use = 1; use < 24; use++) {
            x.use(5);
        }
        due("far below 0", x.member(5, 1), -1 - 23 * 200);
        due("the owner's", x.member(0, 1), 1 + 23 * 180);
    }

    @Says(at = "Members, phrases", that = "The pool has an account, too.")
    static void b04PoolAccount() {
        PhrasePool x = poolWith(2, "a");
        due("at first", x.count(6), 0);
        x.use(1);
        due("after a use", x.count(6), 4);
        due("no member's account has it", x.member(0, 1) + x.member(1, 1), -4);
    }

    @Says(at = "Members, phrases", that = "A sentence consists of 1 to 10 words")
    static void b05Words() {
        PhrasePool x = pool(1);
        due("no word", add(x, 0, "", 1, NONE), BAD_STATE);
        due("one word", add(x, 0, "q", 1, NONE), 0);
        due("ten words", add(x, 0, "abcdefghij", 1, NONE), 1);
        due("eleven words", add(x, 0, "abcdefghijk", 1, NONE), BAD_STATE);
        due("the length of the one", x.phrase(0, 1), 1);
        due("the length of the other", x.phrase(1, 1), 10);
        for (int index = 0; index < 10; index++) {
            due("word " + index, x.word(1, index), index);
        }
        due("phrases", x.count(1), 2);
    }

    @Says(at = "Members, phrases", that = "each word is a letter a to z")
    static void b06Letters() {
        PhrasePool x = pool(1);
        due("before a", add(x, 0, "`", 1, NONE), BAD_STATE);
        due("a", add(x, 0, "a", 1, NONE), 0);
        due("z", add(x, 0, "z", 1, NONE), 1);
        due("behind z", add(x, 0, "{", 1, NONE), BAD_STATE);
        due("A", add(x, 0, "A", 1, NONE), BAD_STATE);
        due("Z", add(x, 0, "Z", 1, NONE), BAD_STATE);
        due("the word a", x.word(0, 0), 0);
        due("the word z", x.word(1, 0), 25);
    }

    @Says(at = "Members, phrases", that = "There are at most 20 phrases")
    static void b07TwentyPhrases() {
        PhrasePool x = pool(1);
        x.type('a');
        for (int phrase = 0; phrase < 20; phrase++) {
            due("addPhrase", x.addPhrase(0, phrase, NONE), phrase);
        }
        due("the twenty-first", x.addPhrase(0, 20, NONE), FULL);
        due("phrases", x.count(1), 20);
        due("the last one's target", x.phrase(19, 2), 19);
        due("no twenty-first", x.phrase(20, 2), BAD_INDEX);
    }

    // Twenty phrases of member 1, the last one as given, and a note of member 0 at tick 1, all numbers of which are
    // those that a live phrase "a" of member 0 could have: where notes are kept behind phrases, it could be one.
    private static PhrasePool noteBehindTwenty(String last, int target, int before) {
        PhrasePool x = pool(2);
        x.setPrice(1, 0);
        for (int phrase = 0; phrase < 18; phrase++) {
            add(x, 1, phrase == 0 ? "zz" : "yyyyyyyyyy", 1, NONE);
        }
        add(x, 1, last, before, NONE);
        add(x, 1, last, target, NONE);
        x.pass(1);
        write(x, "yyyyyyyyyy");
        x.use(0);
        x.setPrice(1, 40);
        return x;
    }

    @Says(at = "Members, phrases", that = "There are at most 20 phrases")
    static void b07NoneBehindTheLast() {
        PhrasePool x = noteBehindTwenty("b", 1, 1);
        due("live ones", x.count(2), 20);
        due("live ones of the one", x.member(0, 2), 0);
        write(x, "a");
        due("a match", x.match(), NONE);
        due("a target", x.agreed(), NONE);
        due("a way", x.cheapest(0), NONE);
        due("what ends with the first", x.retract(0), 1);
        due("the fee of the note", x.note(0, 3), 0);
        PhrasePool y = noteBehindTwenty("a", 500, 500);
        due("pairs in conflict", y.count(7), 0);
        due("conflicts of the last", y.phrase(19, 6), 0);
        write(y, "a");
        due("the only target", y.agreed(), 500);
        due("the only way", y.cheapest(0), 40);
        PhrasePool z = noteBehindTwenty("a", 50, 100);
        write(z, "a");
        due("two targets of one member", z.agreed(), 50);
    }

    @Says(at = "Members, phrases", that = "numbered from 0")
    static void b07NoneBeforeTheFirst() {
        // In the same way: settings and prices that could be a live phrase "a" of member 0 with target 7.
        PhrasePool x = pool(2);
        x.set(1, 0);
        x.set(2, 1);
        x.set(3, 7);
        x.setPrice(0, 1);
        x.setPrice(1, 0);
        write(x, "a");
        due("live ones of the one", x.member(0, 2), 0);
        due("a way", x.cheapest(0), NONE);
        due("a target", x.agreed(), NONE);
        x.addPhrase(1, 8, NONE);
        x.addPhrase(1, 8, NONE);
        due("pairs in conflict", x.count(7), 0);
        due("conflicts of the first", x.phrase(0, 6), 0);
        due("the only target", x.agreed(), 8);
        x.addPhrase(1, 7, NONE);
        x.addPhrase(1, 6, NONE);
        due("the lowest of three that one member gives", x.agreed(), 6);
    }

    @Says(at = "Matches, fees", that = "There are at most 24 notes, numbered from 0")
    static void d11NoneBeforeTheFirst() {
        // In the same way: a last phrase that could be a note of member 0, of the use of phrase 1 for 2.
        PhrasePool x = poolWith(1, "y", "z");
        for (int phrase = 2; phrase < 20; phrase++) {
            add(x, 0, "caa", 1, 0);
        }
        due("what would be paid back", x.wouldPayBack(1), 0);
        due("what ends", x.retract(1), 1);
        due("the account", x.member(0, 1), 0);
        due("the words of the last phrase", x.word(19, 2), 0);
    }

    @Says(at = "Members, phrases", that = "numbered from 0 in the order in which they were added, which keep their numbers")
    static void b08Numbers() {
        PhrasePool x = poolWith(1, "a", "b", "c");
        x.retract(0);
        due("the next after one has ended", add(x, 0, "d", 7, NONE), 3);
        for (int phrase = 0; phrase < 4; phrase++) {
            due("the word of " + phrase, x.word(phrase, 0), phrase);
        }
        for (int phrase = 4; phrase < 20; phrase++) {
            due("the next", x.addPhrase(0, 7, NONE), phrase);
        }
        due("one that has ended leaves no room", x.addPhrase(0, 7, NONE), FULL);
    }

    @Says(at = "Members, phrases", that = "a target (0 to 999)")
    static void b09Target() {
        PhrasePool x = poolWith(1);
        x.type('a');
        due("target 0", x.addPhrase(0, 0, NONE), 0);
        due("target 999", x.addPhrase(0, 999, NONE), 1);
        due("target -1", x.addPhrase(0, -1, NONE), BAD_VALUE);
        due("target 1000", x.addPhrase(0, 1000, NONE), BAD_VALUE);
        due("the target 0", x.phrase(0, 2), 0);
        due("the target 999", x.phrase(1, 2), 999);
    }

    @Says(at = "Members, phrases", that = "perhaps a parent, a phrase from which it was derived")
    static void b10Parent() {
        PhrasePool x = poolWith(1, "a");
        due("without", x.phrase(0, 3), NONE);
        x.addPhrase(0, 1, 0);
        due("with", x.phrase(1, 3), 0);
        for (int phrase = 2; phrase < 20; phrase++) {
            x.addPhrase(0, 1, phrase - 1);
        }
        due("the last one's", x.phrase(19, 3), 18);
    }

    @Says(at = "Members, phrases", that = "and a number of uses, 0 at first")
    static void b11Uses() {
        PhrasePool x = poolWith(2, "a", "b");
        due("at first", x.phrase(0, 5), 0);
        write(x, "a");
        x.use(1);
        due("after a use", x.phrase(0, 5), 1);
        due("of the other one", x.phrase(1, 5), 0);
    }

    @Says(at = "Members, phrases", that = "It is live, or it is ended.")
    static void b12Live() {
        PhrasePool x = poolWith(1, "a", "b");
        due("live", x.phrase(0, 4), 1);
        x.retract(0);
        due("ended", x.phrase(0, 4), 0);
        due("the other one", x.phrase(1, 4), 1);
    }

    @Says(at = "Members, phrases", that = "The distance of two sentences is the least number of steps that make the one the other")
    static void b13LeastSteps() {
        PhrasePool x = poolWith(1, "abcdefghij", "bcdefghijk", "jihgfedcba", "ababababab", "bababababa");
        due("one out, one in, not ten changes", x.score(0, 1), 80);
        due("the same from the other side", x.score(1, 0), 80);
        due("the other way round: one word can stay", x.score(0, 2), 0);
        due("shifted by one", x.score(3, 4), 80);
    }

    @Says(at = "Members, phrases", that = "putting in a word, taking one out, or changing one to another")
    static void b14Steps() {
        PhrasePool x = poolWith(1, "bcd", "abcd", "bacd", "bcda", "bcx", "xcd", "bxd", "cbd", "bd", "cd", "bc");
        due("none", x.score(0, 0), 100);
        due("put in at the beginning", x.score(0, 1), 75);
        due("put in in the middle", x.score(0, 2), 75);
        due("put in at the end", x.score(0, 3), 75);
        due("the last one changed", x.score(0, 4), 66);
        due("the first one changed", x.score(0, 5), 66);
        due("the middle one changed", x.score(0, 6), 66);
        due("two that change places are two steps", x.score(0, 7), 33);
        due("the middle one taken out", x.score(0, 8), 66);
        due("the first one taken out", x.score(0, 9), 66);
        due("the last one taken out", x.score(0, 10), 66);
    }

    @Says(at = "Members, phrases", that = "Their score is 100 * (n - distance) / n, rounded down (as all divisions)")
    static void b15ScoreRoundedDown() {
        String all = "abcdefghij";
        int[][] scores = {
            {100, 0},
            {100, 50, 0},
            {100, 66, 33, 0},
            {100, 75, 50, 25, 0},
            {100, 80, 60, 40, 20, 0},
            {100, 83, 66, 50, 33, 16, 0},
            {100, 85, 71, 57, 42, 28, 14, 0},
            {100, 87, 75, 62, 50, 37, 25, 12, 0},
            {100, 88, 77, 66, 55, 44, 33, 22, 11, 0},
            {100, 90, 80, 70, 60, 50, 40, 30, 20, 10, 0}};
        for (int n = 1; n <= 10; n++) {
            PhrasePool x = poolWith(1, all.substring(0, n));
            for (int changed = 0; changed <= n; changed++) {
                write(x, "zzzzzzzzzz".substring(0, changed) + all.substring(changed, n));
                due(changed + " of " + n + " changed", x.alike(0), scores[n - 1][changed]);
            }
        }
    }

    @Says(at = "Members, phrases", that = "n being the number of words of the longer one")
    static void b16LongerOne() {
        PhrasePool x = poolWith(1, "a", "abcdefghij", "abcdefg");
        due("1 of 10", x.score(0, 1), 10);
        due("10 of 1", x.score(1, 0), 10);
        due("1 of 7", x.score(0, 2), 14);
        due("7 of 10", x.score(2, 1), 70);
    }

    @Says(at = "Members, phrases", that = "Two live phrases with the same sentence and different targets are in conflict.")
    static void b17Conflict() {
        PhrasePool x = pool(1);
        add(x, 0, "ab", 0, NONE);
        due("one alone", x.count(7), 0);
        add(x, 0, "ab", 0, NONE);
        due("the same target", x.count(7), 0);
        add(x, 0, "abc", 1, NONE);
        add(x, 0, "a", 1, NONE);
        add(x, 0, "ba", 1, NONE);
        due("other sentences", x.count(7), 0);
        add(x, 0, " a b ", 999, NONE);
        due("a different target", x.count(7), 2);
        due("its conflicts", x.phrase(5, 6), 2);
        due("those of the first", x.phrase(0, 6), 1);
        x.retract(0);
        due("with those that are live", x.count(7), 1);
        x.retract(5);
        due("one that has ended", x.count(7), 0);
    }

    // ---- Settings

    private static void setting(int setting, int least, int most, int first) {
        PhrasePool x = new PhrasePool();
        due("its first value", x.count(8 + setting), first);
        due("set to its least", x.set(setting, least), first);
        due("its least", x.count(8 + setting), least);
        due("below its least", x.set(setting, least - 1), BAD_VALUE);
        due("set to its most", x.set(setting, most), least);
        due("above its most", x.set(setting, most + 1), BAD_VALUE);
        due("its most", x.count(8 + setting), most);
        outOfRange("set(" + setting + ")", least, most, value -> x.set(setting, value));
        for (int other = 0; other < 5; other++) {
            if (other != setting) {
                due("another one", x.count(8 + other), new PhrasePool().count(8 + other));
            }
        }
    }

    @Says(at = "Settings", that = "0 the threshold (1 to 100; 70)")
    static void c0Threshold() {
        setting(0, 1, 100, 70);
    }

    @Says(at = "Settings", that = "1 the share of the pool in hundredths (0 to 50; 10)")
    static void c1Share() {
        setting(1, 0, 50, 10);
    }

    @Says(at = "Settings", that = "2 the royalty in hundredths (0 to 80; 30)")
    static void c2Royalty() {
        setting(2, 0, 80, 30);
    }

    @Says(at = "Settings", that = "3 the grace in ticks (0 to 100; 10)")
    static void c3Grace() {
        setting(3, 0, 100, 10);
    }

    @Says(at = "Settings", that = "4 the closeness (1 to 100; 80)")
    static void c4Closeness() {
        setting(4, 1, 100, 80);
    }

    // ---- Matches, fees

    @Says(at = "Matches, fees", that = "The match of a sentence is the live phrase with the greatest score")
    static void d01GreatestScore() {
        PhrasePool x = poolWith(1, "abcdefghxx", "abcdefghix", "abcdefghij", "abcdefghix");
        write(x, "abcdefghij");
        due("the greatest", x.match(), 2);
        x.retract(2);
        due("of the live ones", x.match(), 1);
        x.retract(1);
        due("of those that are left", x.match(), 3);
        x.retract(3);
        due("the last that is left", x.match(), 0);
        x.retract(0);
        due("none that is live", x.match(), NONE);
    }

    @Says(at = "Matches, fees", that = "if this is at least the threshold")
    static void d02Threshold() {
        PhrasePool x = poolWith(1, "abcdefghij");
        for (int score = 10; score <= 90; score += 10) {
            write(x, "abcdefghij".substring(0, score / 10));
            x.set(0, score);
            due("score " + score + " at its threshold", x.match(), 0);
            x.set(0, score + 1);
            due("score " + score + " at a threshold above it", x.match(), NONE);
            x.set(0, score - 1);
            due("score " + score + " at a threshold below it", x.match(), 0);
        }
    }

    @Says(at = "Matches, fees", that = "if this is at least the threshold")
    static void d02ThresholdLeastAndMost() {
        PhrasePool x = poolWith(1, "abcdefghij");
        x.set(0, 100);
        due("score 100 at threshold 100", x.match(), 0);
        write(x, "abcdefghix");
        due("score 90 at threshold 100", x.match(), NONE);
        x.set(0, 1);
        write(x, "zzzzzzzzzz");
        due("score 0 at threshold 1", x.match(), NONE);
        write(x, "zzzzzzzzzj");
        due("score 10 at threshold 1", x.match(), 0);
    }

    @Says(at = "Matches, fees", that = "of several the one with the most uses")
    static void d03MostUses() {
        PhrasePool x = poolWith(2, "abcx", "abcy", "abcz");
        write(x, "abcz");
        x.use(1);
        write(x, "abcw");
        due("the only one with a use", x.match(), 2);
        write(x, "abcy");
        x.use(1);
        x.use(1);
        write(x, "abcw");
        due("the one with two uses", x.match(), 1);
        write(x, "abcx");
        due("a greater score before the uses", x.match(), 0);
        x.undo();
        x.undo();
        write(x, "abcw");
        due("after undo", x.match(), 2);
    }

    @Says(at = "Matches, fees", that = "of several of these the one with the lowest number")
    static void d04LowestNumber() {
        PhrasePool x = poolWith(2, "abcx", "abcy", "abcz");
        write(x, "abcw");
        due("none with uses", x.match(), 0);
        write(x, "abcz");
        x.use(1);
        write(x, "abcy");
        x.use(1);
        write(x, "abcw");
        due("two with one use each", x.match(), 1);
    }

    @Says(at = "Matches, fees", that = "The fee of a phrase with a score for a member is the price of its owner * score / 100")
    static void d05Fee() {
        PhrasePool x = poolWith(2, "abc");
        x.set(0, 1);
        int[] prices = {0, 1, 2, 3, 39, 40, 199, 200};
        int[] at66 = {0, 0, 1, 1, 25, 26, 131, 132};
        int[] at33 = {0, 0, 0, 0, 12, 13, 65, 66};
        for (int i = 0; i < prices.length; i++) {
            x.setPrice(0, prices[i]);
            write(x, "abc");
            due("at score 100", x.fee(1), prices[i]);
            write(x, "abx");
            due("at score 66", x.fee(1), at66[i]);
            write(x, "axx");
            due("at score 33", x.fee(1), at33[i]);
        }
    }

    @Says(at = "Matches, fees", that = "0 if the member is its owner")
    static void d06FeeOfTheOwner() {
        PhrasePool x = poolWith(2, "abc");
        x.setPrice(0, 200);
        due("the owner", x.fee(0), 0);
        due("another one", x.fee(1), 200);
        x.use(0);
        due("what the owner paid", x.note(0, 3), 0);
        due("what the pool got", x.note(0, 6), 0);
        due("the account", x.member(0, 1), 0);
    }

    @Says(at = "Matches, fees", that = "The pool gets fee * share / 100.")
    static void d07Share() {
        int[][] feeShareGot = {{0, 50, 0}, {1, 50, 0}, {2, 50, 1}, {3, 50, 1}, {200, 50, 100}, {200, 0, 0}, {200, 1, 2},
            {99, 1, 0}, {100, 1, 1}, {9, 10, 0}, {10, 10, 1}, {19, 10, 1}, {199, 49, 97}};
        for (int[] row : feeShareGot) {
            PhrasePool x = poolWith(2, "a");
            x.setPrice(0, row[0]);
            x.set(1, row[1]);
            x.use(1);
            due("of " + row[0] + " at " + row[1] + " the pool", x.note(0, 6), row[2]);
            due("the account of the pool", x.count(6), row[2]);
            due("of " + row[0] + " at " + row[1] + " the owner", x.note(0, 7), row[0] - row[2]);
        }
    }

    @Says(at = "Matches, fees", that = "the fee is taken from the account of the member, and all of it is got by others")
    static void d07Taken() {
        for (int price : new int[] {0, 1, 200}) {
            PhrasePool x = poolWith(3, "a");
            x.setPrice(0, price);
            x.use(1);
            due("the account of the member", x.member(1, 1), -price);
            due("the accounts of the others", x.member(0, 1) + x.count(6), price);
            due("the account of one who has no part in it", x.member(2, 1), 0);
            x.setPrice(0, 100);
            due("the fee of the note, when the price is another", x.note(0, 3), price);
        }
    }

    @Says(at = "Matches, fees", that = "Of what is left, which is what the owner of the phrase gets, part is passed on")
    static void d08OfWhatIsLeft() {
        PhrasePool x = poolWith(3, "a");
        add(x, 1, "b", 1, 0);
        x.setPrice(1, 199);
        x.set(1, 15);
        x.set(2, 50);
        x.use(2);
        due("the pool, 29 of 199", x.note(0, 6), 29);
        due("the owner of the parent, 85 of 170", x.note(0, 7), 85);
        due("the owner", x.note(0, 8), 85);
        x.setPrice(1, 3);
        x.set(1, 50);
        x.use(2);
        due("the pool, 1 of 3", x.note(1, 6), 1);
        due("the owner of the parent, 1 of 2", x.note(1, 7), 1);
        due("the owner of 2", x.note(1, 8), 1);
    }

    @Says(at = "Matches, fees", that = "whoever gets an amount for a phrase with a parent passes amount * royalty / 100 of it to the owner of the parent")
    static void d08Royalty() {
        int[][] amountRoyaltyPassed = {{0, 80, 0}, {1, 80, 0}, {2, 80, 1}, {5, 80, 4}, {200, 80, 160}, {200, 0, 0},
            {200, 1, 2}, {99, 1, 0}, {100, 1, 1}, {199, 79, 157}};
        for (int[] row : amountRoyaltyPassed) {
            PhrasePool x = poolWith(3, "a");
            add(x, 1, "b", 1, 0);
            x.set(1, 0);
            x.set(2, row[1]);
            x.setPrice(1, row[0]);
            x.use(2);
            due("of " + row[0] + " at " + row[1] + " the owner of the parent", x.note(0, 7), row[2]);
            due("of " + row[0] + " at " + row[1] + " the owner", x.note(0, 8), row[0] - row[2]);
            write(x, "a");
            x.setPrice(0, row[0]);
            x.use(2);
            due("without a parent nothing is passed", x.note(1, 7), row[0]);
        }
    }

    @Says(at = "Matches, fees", that = "who gets it for the parent, and so on")
    static void d09AndSoOn() {
        PhrasePool x = poolWith(3, "a");
        for (int phrase = 1; phrase < 20; phrase++) {
            add(x, 1, phrase == 19 ? "b" : "a", 1, phrase - 1);
        }
        x.setPrice(1, 200);
        x.set(1, 0);
        x.set(2, 80);
        due("the match is the last one", x.match(), 19);
        x.use(2);
        // 200 160 128 102 81 64 51 40 32 25 20 16 12 9 7 5 4 3 2 1, rounded down at each step
        due("what the first one's owner got", x.note(0, 7), 1);
        due("what the others' owner got", x.note(0, 8), 199);
        x.set(2, 79);
        x.use(2);
        // 200 158 124 97 76 60 47 37 29 22 17 13 10 7 5 3 2 1 0 0
        due("what does not come so far", x.note(1, 7), 0);
        due("stays with those on the way", x.note(1, 8), 200);
    }

    @Says(at = "Matches, fees", that = "perhaps the same member, or the one who uses the phrase; what one gets in several ways is summed")
    static void d10Summed() {
        PhrasePool x = poolWith(3, "a");
        add(x, 0, "b", 1, 0);
        x.set(2, 50);
        x.use(2);
        due("the owner of both", x.note(0, 7), 36);
        add(x, 1, "c", 1, 1);
        x.use(0);
        due("the one who uses it gets 9 and 9", x.note(1, 7), 18);
        due("the owner", x.note(1, 8), 18);
        due("the account of the one who uses it", x.member(0, 1), 36 + 18 - 40);
        add(x, 0, "d", 1, 2);
        x.use(2);
        due("first and last: 18, 4 and 5", x.note(2, 7), 27);
        due("in between: 9", x.note(2, 8), 9);
    }

    @Says(at = "Matches, fees", that = "There are at most 24 notes, numbered from 0")
    static void d11Notes() {
        PhrasePool x = poolWith(2, "a");
        for (int note = 0; note < 24; note++) {
            due("notes", x.count(3), note);
            due("use(1)", x.use(1), note);
        }
        due("the twenty-fifth", x.use(1), FULL);
        due("notes at last", x.count(3), 24);
        due("the last one's member", x.note(23, 0), 1);
        due("no twenty-fifth", x.note(24, 0), BAD_INDEX);
    }

    @Says(at = "Matches, fees", that = "a note is paid, or paid back")
    static void d12PaidOrPaidBack() {
        PhrasePool x = poolWith(2, "a");
        x.use(1);
        due("paid", x.note(0, 5), 0);
        due("none is paid back", x.count(4), 0);
        x.retract(0);
        due("paid back", x.note(0, 5), 1);
        due("one is paid back", x.count(4), 1);
    }

    // ---- Retracting

    @Says(at = "Retracting", that = "When a phrase is retracted, it ends.")
    static void e01ItEnds() {
        PhrasePool x = poolWith(1, "a");
        x.set(4, 100);
        x.retract(0);
        due("it has ended", x.phrase(0, 4), 0);
        due("live ones", x.count(2), 0);
        due("phrases", x.count(1), 1);
    }

    @Says(at = "Retracting", that = "Each live phrase whose parent has ended ends, too, if the score of its sentence with that of its parent is at least the closeness")
    static void e02Closeness() {
        for (int score = 10; score <= 100; score += 10) {
            for (int closeness = score - 1; closeness <= Math.min(100, score + 1); closeness++) {
                PhrasePool x = poolWith(1, "abcdefghij");
                add(x, 0, "abcdefghij".substring(0, score / 10), 1, 0);
                x.set(4, closeness);
                boolean ends = score >= closeness;
                due("score " + score + ", closeness " + closeness, x.retract(0), ends ? 2 : 1);
                due("live", x.phrase(1, 4), ends ? 0 : 1);
            }
        }
    }

    @Says(at = "Retracting", that = "Each live phrase whose parent has ended ends, too, if the score of its sentence with that of its parent is at least the closeness")
    static void e02ClosenessToTheParentAlone() {
        PhrasePool x = poolWith(1, "abcde");
        add(x, 0, "vwxyz", 1, 0);
        add(x, 0, "abcde", 1, 1);
        add(x, 0, "abcde", 1, NONE);
        due("close to the parent's parent is not asked for", x.retract(0), 1);
        due("nothing is asked of what has no parent", x.phrase(3, 4), 1);
        due("it keeps its parent, which lives on", x.phrase(2, 3), 1);
    }

    @Says(at = "Retracting", that = "Each live phrase whose parent has ended ends, too, if the score of its sentence with that of its parent is at least the closeness")
    static void e02ScoreNothing() {
        PhrasePool x = poolWith(1, "a");
        add(x, 0, "b", 1, 0);
        x.set(4, 1);
        due("score 0 at closeness 1", x.retract(0), 1);
        due("it lives on", x.phrase(1, 4), 1);
    }

    @Says(at = "Retracting", that = "otherwise it has no parent any more")
    static void e03NoParent() {
        PhrasePool x = poolWith(3, "abcdefghij");
        add(x, 1, "abcdefgxyz", 1, 0);
        x.retract(0);
        due("its parent", x.phrase(1, 3), NONE);
        due("it lives on", x.phrase(1, 4), 1);
        due("its owner", x.phrase(1, 0), 1);
        x.use(2);
        due("nothing is passed on any more", x.note(0, 8), 36);
        due("nor got", x.note(0, 7), 0);
    }

    @Says(at = "Retracting", that = "Each live phrase whose parent has ended .. has no parent any more")
    static void e03NoOtherPhraseLosesIt() {
        PhrasePool x = poolWith(1, "abcde");
        add(x, 0, "vwxyz", 1, 0);
        add(x, 0, "abcde", 1, 0);
        add(x, 0, "qqqqq", 1, 0);
        due("one that is derived ends first", x.retract(1), 1);
        due("its parent lives on", x.phrase(1, 3), 0);
        due("then its parent ends, with one that is close", x.retract(0), 2);
        due("one that had ended before, not close", x.phrase(1, 3), 0);
        due("one that ends with it", x.phrase(2, 3), 0);
        due("one that lives on, not close", x.phrase(3, 3), NONE);
        due("then that one ends", x.retract(3), 1);
        due("what it has lost stays lost", x.phrase(3, 3), NONE);
        due("one that had ended before still", x.phrase(1, 3), 0);
        long h = hash(61, 1, 4, 0, 0, 0, 0, 0, 0, 70, 10, 30, 10, 80);
        h = hash(h, 40, 0, 0, 0, 0);
        h = hash(h, 0, 5, 1, NONE, 0, 0, 0, 0, 1, 2, 3, 4);
        h = hash(h, 0, 5, 1, 0, 0, 0, 0, 21, 22, 23, 24, 25);
        h = hash(h, 0, 5, 1, 0, 0, 0, 0, 0, 1, 2, 3, 4);
        due("digest()", x.digest(), hash(h, 0, 5, 1, NONE, 0, 0, 0, 16, 16, 16, 16, 16));
    }

    @Says(at = "Retracting", that = "This goes on until no live phrase has a parent that has ended.")
    static void e04GoesOn() {
        PhrasePool x = poolWith(1, "a");
        for (int phrase = 1; phrase < 20; phrase++) {
            x.addPhrase(0, 1, phrase - 1);
        }
        due("all of the longest line", x.retract(0), 20);
        due("live ones", x.count(2), 0);
        x.undo();
        due("from the middle on", x.retract(10), 10);
        due("live ones then", x.count(2), 10);
        x.undo();
        due("the last one alone", x.retract(19), 1);
        due("live ones at last", x.count(2), 19);
    }

    @Says(at = "Retracting", that = "This goes on until no live phrase has a parent that has ended.")
    static void e04NoFurther() {
        PhrasePool x = poolWith(1, "abcde");
        add(x, 0, "abcdx", 1, 0);
        add(x, 0, "abcyx", 1, 1);
        add(x, 0, "vwxyx", 1, 2);
        add(x, 0, "vwxyx", 1, 3);
        add(x, 0, "abcdy", 1, 0);
        add(x, 0, "vwxyz", 1, 0);
        due("two in a line, and a second of the first", x.retract(0), 4);
        int[] live = {0, 0, 0, 1, 1, 0, 1};
        int[] parents = {NONE, 0, 1, NONE, 3, 0, NONE};
        for (int phrase = 0; phrase < 7; phrase++) {
            due("live, " + phrase, x.phrase(phrase, 4), live[phrase]);
            due("the parent of " + phrase, x.phrase(phrase, 3), parents[phrase]);
        }
    }

    @Says(at = "Retracting", that = "All paid notes of phrases that end by it")
    static void e05NotesOfThoseThatEnd() {
        PhrasePool x = poolWith(3, "abcde");
        add(x, 1, "abcdx", 1, 0);
        add(x, 1, "vwxyz", 1, 0);
        add(x, 1, "qqqqq", 1, NONE);
        for (String sentence : new String[] {"abcde", "abcdx", "vwxyz", "qqqqq"}) {
            write(x, sentence);
            x.use(2);
        }
        due("would be paid back", x.wouldPayBack(0), 80);
        x.retract(0);
        int[] paidBack = {1, 1, 0, 0};
        for (int note = 0; note < 4; note++) {
            due("paid back, " + note, x.note(note, 5), paidBack[note]);
        }
        due("the member", x.member(2, 1), -80);
    }

    @Says(at = "Retracting", that = "All paid notes of phrases that end by it")
    static void e05NotOfThoseThatEndedBefore() {
        PhrasePool x = poolWith(2, "a", "b");
        write(x, "a");
        x.use(1);
        x.pass(11);
        x.retract(0);
        x.set(3, 100);
        due("would be paid back then", x.wouldPayBack(1), 0);
        x.retract(1);
        due("it stays paid", x.note(0, 5), 0);
        due("the member", x.member(1, 1), -40);
    }

    @Says(at = "Retracting", that = "and whose tick is at least the present tick less the grace, are paid back")
    static void e06Grace() {
        int[][] graceTicksBack = {{10, 10, 1}, {10, 11, 0}, {0, 0, 1}, {0, 1, 0}, {1, 1, 1}, {1, 2, 0}, {100, 100, 1},
            {100, 101, 0}, {100, 3, 1}};
        for (int[] row : graceTicksBack) {
            for (int start : new int[] {0, 1, 250}) {
                PhrasePool x = poolWith(2, "a");
                passTo(x, start);
                x.use(1);
                x.set(3, row[0]);
                passTo(x, start + row[1]);
                String of = " at grace " + row[0] + " after " + row[1] + " from " + start;
                due("would be paid back" + of, x.wouldPayBack(0), 40 * row[2]);
                x.retract(0);
                due("paid back" + of, x.note(0, 5), row[2]);
                due("the member's account" + of, x.member(1, 1), 40 * row[2] - 40);
            }
        }
    }

    @Says(at = "Retracting", that = "the member gets the fee, the accounts of the pool and the members decrease")
    static void e07AllIsTakenBack() {
        PhrasePool x = poolWith(3, "a");
        add(x, 1, "b", 1, 0);
        x.setPrice(1, 199);
        x.use(2);
        x.use(0);
        x.setPrice(1, 1);
        x.set(1, 50);
        x.set(2, 80);
        x.retract(1);
        for (int member = 0; member < 3; member++) {
            due("the account of " + member, x.member(member, 1), 0);
            due("got by what is not paid back, " + member, x.member(member, 4), 0);
        }
        due("the account of the pool", x.count(6), 0);
    }

    @Says(at = "Retracting", that = "decrease, perhaps below 0, by what they got by this note")
    static void e08BelowNothing() {
        PhrasePool x = poolWith(2, "a");
        add(x, 1, "b", 1, NONE);
        write(x, "a");
        x.use(1);
        write(x, "b");
        x.use(0);
        due("the account of the owner", x.member(0, 1), -4);
        x.retract(0);
        due("the account of the owner then", x.member(0, 1), -40);
        due("the account of the member", x.member(1, 1), 36);
        due("the account of the pool", x.count(6), 4);
        x.setPrice(1, 0);
        x.use(0);
        x.retract(1);
        due("at nothing", x.member(0, 1), 0);
    }

    @Says(at = "Retracting", that = "by this note (which tells it still)")
    static void e09ToldStill() {
        PhrasePool x = poolWith(3, "a");
        add(x, 1, "b", 1, 0);
        x.pass(5);
        x.use(2);
        x.pass(5);
        x.retract(1);
        int[] told = {2, 1, 100, 40, 5, 1, 4, 10, 26, 0, 0, 0, 0};
        for (int what = 0; what < 13; what++) {
            due("note(0, " + what + ")", x.note(0, what), told[what]);
        }
        due("it is a note of the member's", x.member(2, 3), 1);
    }

    @Says(at = "Retracting", that = "Uses are not counted back.")
    static void e10UsesStay() {
        PhrasePool x = poolWith(2, "a");
        x.use(1);
        x.use(1);
        x.retract(0);
        due("its uses", x.phrase(0, 5), 2);
        due("notes", x.count(3), 2);
    }

    @Says(at = "Retracting", that = "The present tick is 0 at first.")
    static void e11FirstTick() {
        PhrasePool x = poolWith(2, "a");
        due("the tick", x.count(5), 0);
        x.use(1);
        due("the tick of a note", x.note(0, 4), 0);
    }

    // ---- Putting together

    @Says(at = "Putting together", that = "from live phrases whose sentences, one after the other, are just it")
    static void f01JustIt() {
        PhrasePool x = poolWith(2, "ab", "bc", "abcd");
        write(x, "abc");
        due("neither overlapping nor too long", x.cheapest(1), NONE);
        write(x, "a");
        due("too short", x.cheapest(1), NONE);
        write(x, "abb");
        due("something is left at the end", x.cheapest(1), NONE);
        write(x, "bab");
        due("something is left at the beginning", x.cheapest(1), NONE);
        write(x, "abxbc");
        due("something is left in the middle", x.cheapest(1), NONE);
        write(x, "abbc");
        due("just it", x.cheapest(1), 80);
        write(x, "bcab");
        due("in another order", x.piece(1, 0), 1);
        write(x, " a bc d");
        due("one alone, whatever blanks there are", x.cheapest(1), 40);
        x.retract(2);
        due("one that has ended", x.cheapest(1), NONE);
    }

    @Says(at = "Putting together", that = "a phrase can stand there several times, each time with its fee")
    static void f02SeveralTimes() {
        PhrasePool x = poolWith(2, "a");
        x.setPrice(0, 200);
        String ten = "aaaaaaaaaa";
        for (int words = 1; words <= 10; words++) {
            write(x, ten.substring(0, words));
            due(words + " times", x.cheapest(1), 200 * words);
            due("the last", x.piece(1, words - 1), 0);
            due("no further one", x.piece(1, words), NONE);
        }
        due("the owner pays nothing ten times", x.cheapest(0), 0);
    }

    @Says(at = "Putting together", that = "Its cost is the sum of the fees of these phrases with the score 100.")
    static void f03Cost() {
        PhrasePool x = poolWith(3, "a");
        add(x, 1, "b", 1, NONE);
        x.setPrice(0, 33);
        x.setPrice(1, 199);
        write(x, "ab");
        due("the sum", x.cheapest(2), 232);
        due("less the own ones", x.cheapest(0), 199);
        due("less the other's own ones", x.cheapest(1), 33);
        x.setPrice(0, 0);
        x.setPrice(1, 0);
        due("nothing is a cost, too", x.cheapest(2), 0);
    }

    @Says(at = "Putting together", that = "The best way is the one with the least cost")
    static void f04LeastCost() {
        PhrasePool x = poolWith(3, "ab");
        add(x, 1, "a", 1, NONE);
        add(x, 1, "b", 1, NONE);
        x.setPrice(1, 19);
        write(x, "ab");
        due("two for 38", x.cheapest(2), 38);
        due("the first of two", x.piece(2, 0), 1);
        due("the second of two", x.piece(2, 1), 2);
        x.setPrice(1, 21);
        due("one for 40", x.cheapest(2), 40);
        due("the one", x.piece(2, 0), 0);
        due("no second", x.piece(2, 1), NONE);
        due("own ones", x.piece(1, 1), 2);
    }

    @Says(at = "Putting together", that = "The best way is the one with the least cost")
    static void f04LeastOfAllNotOfTheFirst() {
        PhrasePool x = poolWith(3, "a", "c");
        add(x, 1, "ab", 1, NONE);
        add(x, 1, "bc", 1, NONE);
        x.setPrice(0, 10);
        x.setPrice(1, 50);
        add(x, 2, "abd", 1, NONE);
        write(x, "abc");
        due("both ways cost the same", x.cheapest(2), 60);
        due("the lower number first", x.piece(2, 0), 0);
        write(x, "abcabd");
        due("own ones at the end", x.cheapest(2), 60);
        due("the last piece", x.piece(2, 2), 4);
        due("no fourth", x.piece(2, 3), NONE);
    }

    @Says(at = "Putting together", that = "of several the one with the fewest phrases")
    static void f05Fewest() {
        PhrasePool x = poolWith(3, "a", "b");
        add(x, 1, "ab", 1, NONE);
        x.setPrice(0, 20);
        write(x, "ab");
        due("one for 40, as two", x.piece(2, 0), 2);
        due("no second", x.piece(2, 1), NONE);
        write(x, "abab");
        due("two of four", x.piece(2, 0), 2);
        due("the second of two", x.piece(2, 1), 2);
        due("no third", x.piece(2, 2), NONE);
    }

    @Says(at = "Putting together", that = "of several the one with the fewest phrases")
    static void f05FewestOfTheWhole() {
        PhrasePool x = poolWith(1, "abc", "a", "d", "e", "bcde");
        write(x, "abcde");
        due("the greatest first is not the best", x.piece(0, 0), 1);
        due("the second of two", x.piece(0, 1), 4);
        due("no third", x.piece(0, 2), NONE);
    }

    @Says(at = "Putting together", that = "of several the one whose sequence of numbers is lexicographically first")
    static void f06First() {
        PhrasePool x = poolWith(1, "bc", "ab", "a", "c");
        write(x, "abc");
        due("1, 3 before 2, 0", x.piece(0, 0), 1);
        due("the second of them", x.piece(0, 1), 3);
        PhrasePool y = poolWith(1, "c", "a", "ab", "bc");
        write(y, "abc");
        due("1, 3 before 2, 0, the shorter one first", y.piece(0, 0), 1);
        due("the second", y.piece(0, 1), 3);
        PhrasePool z = poolWith(1, "b", "a", "b", "a");
        write(z, "abab");
        int[] numbers = {1, 0, 1, 0, NONE};
        for (int index = 0; index < 5; index++) {
            due("the first of the same, " + index, z.piece(0, index), numbers[index]);
        }
    }

    @Says(at = "Putting together", that = "of several the one whose sequence of numbers is lexicographically first")
    static void f06FirstByNumbersNotByLength() {
        // 5, 4 is the only way of two; 3, 1, 0 and 3, 2, 4 and 5, 6, 0 are those of three.
        PhrasePool x = poolWith(1, "d", "bc", "b", "a", "cd", "ab", "c");
        write(x, "abcd");
        due("of two that are the fewest", x.piece(0, 0), 5);
        due("5, 4", x.piece(0, 1), 4);
        x.retract(4);
        int[] numbers = {3, 1, 0, NONE};
        for (int index = 0; index < 4; index++) {
            due("of three, " + index, x.piece(0, index), numbers[index]);
        }
        x.retract(1);
        int[] others = {5, 6, 0, NONE};
        for (int index = 0; index < 4; index++) {
            due("of what is left, " + index, x.piece(0, index), others[index]);
        }
    }

    // ---- Text

    @Says(at = "Text", that = "The text has at most 40 bytes.")
    static void g1FortyBytes() {
        PhrasePool x = new PhrasePool();
        for (int length = 1; length <= 40; length++) {
            due("type(32)", x.type(32), length);
        }
        due("the forty-first", x.type(32), FULL);
        due("the length", x.count(13), 40);
        due("clearText()", x.clearText(), 40);
        due("then there is room", x.type(32), 1);
    }

    @Says(at = "Text", that = "As a sentence it consists of letters a to z, 1 to 10, with blanks (32) anywhere.")
    static void g2Sentence() {
        PhrasePool x = pool(1);
        String[] good = {"a", "z", " a", "a ", " a ", "a  b", "abcdefghij", "a b c d e f g h i j",
            "               abcdefghij               ", "                                       z",
            "z                                       "};
        int[] words = {1, 1, 1, 1, 1, 2, 10, 10, 10, 1, 1};
        for (int i = 0; i < good.length; i++) {
            write(x, good[i]);
            due("textFault() of '" + good[i] + "'", x.textFault(), NONE);
            due("addPhrase of '" + good[i] + "'", x.addPhrase(0, 1, NONE), i);
            due("its words", x.phrase(i, 1), words[i]);
        }
    }

    @Says(at = "Text", that = "with blanks (32) anywhere")
    static void g2NoOtherByte() {
        PhrasePool x = new PhrasePool();
        for (int code = 0; code <= 255; code++) {
            x = code % 100 == 0 ? new PhrasePool() : x;
            x.clearText();
            x.type('a');
            x.type(code);
            boolean good = code == 32 || code >= 97 && code <= 122;
            due("textFault() with " + code, x.textFault(), good ? NONE : 1);
        }
    }

    @Says(at = "Text", that = "Its fault is the index, from 0, of the first byte that cannot stand at its place")
    static void g3FirstFault() {
        PhrasePool x = new PhrasePool();
        String[] texts = {"1", "1a", "a1", " 1", "  1  ", "a12", "1a1", "abcdefghi1", "abcdefghij1", "\t", "a\n",
            "                                       1", "abc1efghijklmn"};
        int[] faults = {0, 0, 1, 1, 2, 1, 0, 9, 10, 0, 1, 39, 3};
        for (int i = 0; i < texts.length; i++) {
            write(x, texts[i]);
            due("textFault() of '" + texts[i] + "'", x.textFault(), faults[i]);
        }
    }

    @Says(at = "Text", that = "(also the eleventh letter)")
    static void g4EleventhLetter() {
        PhrasePool x = new PhrasePool();
        String[] texts = {"abcdefghij", "abcdefghijk", "abcdefghij  k", "abcdefghijkl", "abcdefghijk1", "abcdefghij 1k",
            "aaaaaaaaaaa", "                             aaaaaaaaaaa", "a b c d e f g h i j  k"};
        int[] faults = {NONE, 10, 12, 10, 10, 11, 10, 39, 21};
        for (int i = 0; i < texts.length; i++) {
            write(x, texts[i]);
            due("textFault() of '" + texts[i] + "'", x.textFault(), faults[i]);
        }
    }

    @Says(at = "Text", that = "or its length if it has no letter")
    static void g5NoLetter() {
        PhrasePool x = new PhrasePool();
        due("an empty text", x.textFault(), 0);
        for (int length = 1; length <= 40; length++) {
            x.type(32);
            due(length + " blanks", x.textFault(), length);
        }
        write(x, "  1 ");
        due("a byte that cannot stand there comes first", x.textFault(), 2);
    }

    // ---- History, errors

    @Says(at = "History, errors", that = "A history of at most 4 states is kept.")
    static void h1FourStates() {
        for (int calls = 0; calls <= 9; calls++) {
            PhrasePool x = new PhrasePool();
            for (int call = 0; call < calls; call++) {
                x.pass(1);
            }
            int states = Math.min(calls, 4);
            for (int left = states - 1; left >= 0; left--) {
                due("undo() to " + left + " after " + calls, x.undo(), left);
                due("the tick", x.count(5), calls - states + left);
            }
            due("undo() of nothing after " + calls, x.undo(), BAD_STATE);
            due("the oldest that can be restored", x.count(5), calls - states);
        }
    }

    @Says(at = "History, errors", that = "when one more is recorded, the oldest one is dropped")
    static void h2OldestDropped() {
        PhrasePool x = new PhrasePool();
        for (int price = 0; price < 4; price++) {
            x.pass(1);
        }
        x.undo();
        x.pass(10);
        due("it was replaced, none was dropped", x.undo(), 3);
        x.pass(10);
        x.pass(10);
        int[] ticks = {13, 3, 2, 1};
        for (int undone = 0; undone < 4; undone++) {
            due("undo()", x.undo(), 3 - undone);
            due("the tick", x.count(5), ticks[undone]);
        }
        due("the oldest one was dropped", x.undo(), BAD_STATE);
    }

    @Says(at = "History, errors", that = "record the whole state (all but the text)")
    static void h3NotTheText() {
        PhrasePool x = pool(1);
        write(x, "abc");
        x.pass(1);
        x.type('d');
        x.undo();
        due("what was typed stays", x.count(13), 4);
        due("and can be added", x.addPhrase(0, 1, NONE), 0);
        due("with all its words", x.phrase(0, 1), 4);
        x.pass(1);
        x.clearText();
        x.undo();
        due("what was emptied stays empty", x.count(13), 0);
        due("its fault", x.textFault(), 0);
    }

    @Says(at = "History, errors", that = "record the whole state")
    static void h3AllOfIt() {
        recorded("addMember", PhrasePoolDescriptionEdges::used, x -> x.addMember());
        recorded("setPrice", PhrasePoolDescriptionEdges::used, x -> x.setPrice(1, 7));
        for (int setting = 0; setting < 5; setting++) {
            int chosen = setting;
            recorded("set " + setting, PhrasePoolDescriptionEdges::used, x -> x.set(chosen, 50));
        }
        recorded("addPhrase", PhrasePoolDescriptionEdges::used, x -> x.addPhrase(1, 9, 2));
        recorded("use", PhrasePoolDescriptionEdges::used, x -> x.use(2));
        recorded("retract", PhrasePoolDescriptionEdges::used, x -> x.retract(0));
        recorded("pass", PhrasePoolDescriptionEdges::used, x -> x.pass(100));
    }

    // Members, phrases that are derived and ended, notes, a tick; and four states.
    private static PhrasePool used() {
        PhrasePool x = poolWith(3, "abcde", "qqq");
        add(x, 1, "abcdx", 2, 0);
        x.use(2);
        x.retract(1);
        x.pass(3);
        x.use(0);
        x.set(2, 77);
        return x;
    }

    @Says(at = "History, errors", that = "before each call that returns no error, even if it changes nothing")
    static void h4ChangesNothing() {
        recorded("setPrice to the same", PhrasePoolDescriptionEdges::fresh, x -> x.setPrice(0, 40));
        recorded("set to the same", PhrasePoolDescriptionEdges::fresh, x -> x.set(3, 10));
        recorded("use without a match", PhrasePoolDescriptionEdges::fresh, x -> x.use(0));
    }

    // One member, a text that nothing matches; and one state.
    private static PhrasePool fresh() {
        PhrasePool x = pool(1);
        x.type('q');
        return x;
    }

    @Says(at = "History, errors", that = "undo() removes and restores the latest one.")
    static void h5Latest() {
        PhrasePool x = new PhrasePool();
        x.pass(1);
        x.pass(2);
        due("undo()", x.undo(), 1);
        due("the latest", x.count(5), 1);
        due("undo() again", x.undo(), 0);
        due("the one before, as the latest is removed", x.count(5), 0);
        due("undo() is not recorded", x.undo(), BAD_STATE);
        x.pass(3);
        due("a new one", x.undo(), 0);
        due("restored", x.count(5), 0);
    }

    @Says(at = "History, errors", that = "If several apply to a call, the first one in this order is returned")
    static void h6Order() {
        PhrasePool x = pool(1);
        due("index, value, state", x.piece(1, -1), BAD_INDEX);
        due("value, state", x.piece(0, -1), BAD_VALUE);
        due("state", x.piece(0, 0), BAD_STATE);
        x.type('a');
        for (int phrase = 0; phrase < 20; phrase++) {
            x.addPhrase(0, 1, NONE);
        }
        x.clearText();
        due("index, value, state, full", x.addPhrase(1, 1000, NONE), BAD_INDEX);
        due("value, state, full", x.addPhrase(0, 1000, NONE), BAD_VALUE);
        due("state, full", x.addPhrase(0, 1, NONE), BAD_STATE);
        x.type('a');
        due("full", x.addPhrase(0, 1, NONE), FULL);
    }

    @Says(at = "History, errors", that = "BAD_INDEX (-1000001): there is no such member, phrase, note or setting; BAD_VALUE (-1000002): another argument is out of its range; BAD_STATE (-1000003): the call is not possible, as told; FULL (-1000004): there is no room")
    static void h6Codes() {
        PhrasePool x = poolWith(6, "a");
        due("no such member", x.member(6, 0), -1000001);
        due("no such phrase", x.phrase(1, 0), -1000001);
        due("no such note", x.note(0, 0), -1000001);
        due("no such setting", x.set(5, 1), -1000001);
        due("out of its range", x.count(14), -1000002);
        due("not possible", new PhrasePool().undo(), -1000003);
        due("no room", x.addMember(), -1000004);
        due("there is none", x.phrase(0, 3), -1000000);
    }

    @Says(at = "History, errors", that = "A call that returns an error changes nothing.")
    static void h8Refused() {
        refused("addMember", () -> pool(6), x -> x.addMember(), FULL);
        refused("setPrice", PhrasePoolDescriptionEdges::used, x -> x.setPrice(0, 201), BAD_VALUE);
        refused("set", PhrasePoolDescriptionEdges::used, x -> x.set(2, 81), BAD_VALUE);
        refused("count", PhrasePoolDescriptionEdges::used, x -> x.count(-1), BAD_VALUE);
        refused("member", PhrasePoolDescriptionEdges::used, x -> x.member(3, 0), BAD_INDEX);
        refused("addPhrase", PhrasePoolDescriptionEdges::used, x -> x.addPhrase(0, 1, 1), BAD_STATE);
        refused("phrase", PhrasePoolDescriptionEdges::used, x -> x.phrase(3, 0), BAD_INDEX);
        refused("word", PhrasePoolDescriptionEdges::used, x -> x.word(0, -1), BAD_VALUE);
        refused("score", PhrasePoolDescriptionEdges::used, x -> x.score(0, 3), BAD_INDEX);
        refused("agreed", PhrasePoolDescriptionEdges::faulty, x -> x.agreed(), BAD_STATE);
        refused("match", PhrasePoolDescriptionEdges::faulty, x -> x.match(), BAD_STATE);
        refused("alike", PhrasePoolDescriptionEdges::faulty, x -> x.alike(0), BAD_STATE);
        refused("fee", PhrasePoolDescriptionEdges::faulty, x -> x.fee(0), BAD_STATE);
        refused("use", PhrasePoolDescriptionEdges::faulty, x -> x.use(0), BAD_STATE);
        refused("note", PhrasePoolDescriptionEdges::used, x -> x.note(2, 0), BAD_INDEX);
        refused("retract", PhrasePoolDescriptionEdges::used, x -> x.retract(1), BAD_STATE);
        refused("wouldPayBack", PhrasePoolDescriptionEdges::used, x -> x.wouldPayBack(1), BAD_STATE);
        refused("pass", PhrasePoolDescriptionEdges::used, x -> x.pass(101), BAD_VALUE);
        refused("cheapest", PhrasePoolDescriptionEdges::faulty, x -> x.cheapest(0), BAD_STATE);
        refused("piece", PhrasePoolDescriptionEdges::faulty, x -> x.piece(0, 0), BAD_STATE);
        refused("type", PhrasePoolDescriptionEdges::used, x -> x.type(256), BAD_VALUE);
        refused("undo", PhrasePool::new, x -> x.undo(), BAD_STATE);
    }

    // As used(), with a text that has a fault.
    private static PhrasePool faulty() {
        PhrasePool x = used();
        x.type('1');
        return x;
    }

    @Says(at = "History, errors", that = "NONE is returned only if no error applies")
    static void h7NoneLast() {
        PhrasePool x = poolWith(1, "a");
        for (int note = 0; note < 24; note++) {
            x.use(0);
        }
        write(x, "q");
        due("no match, but 24 notes", x.use(0), FULL);
        due("no match alone", x.fee(0), NONE);
        due("no match, no member", x.fee(1), BAD_INDEX);
        due("no way, an index below 0", x.piece(0, -1), BAD_VALUE);
        due("no way, no member", x.piece(1, 0), BAD_INDEX);
        due("no way alone", x.piece(0, 0), NONE);
        due("no word, no phrase", x.word(1, 5), BAD_INDEX);
        due("no word alone", x.word(0, 5), NONE);
        x.type('1');
        due("no match, a fault", x.match(), BAD_STATE);
        due("no target, a fault", x.agreed(), BAD_STATE);
        due("no way, a fault", x.cheapest(0), BAD_STATE);
    }
}
