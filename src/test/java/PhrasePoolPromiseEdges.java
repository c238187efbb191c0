// The boundary cases that the promises name, a test for each sentence.
public final class PhrasePoolPromiseEdges extends Checks {
    public static void main(String[] args) {
        run(PhrasePoolPromiseEdges.class);
    }

    // Everything that has a limit is at it: 6 members, 20 phrases of ten words, all in conflict, each derived from
    // the one before, 24 notes, 40 bytes, the last tick.
    private static PhrasePool full() {
        PhrasePool x = pool(6);
        x.setPrice(5, 200);
        x.set(1, 50);
        passTo(x, 10000);
        write(x, "zzzzzzzzzz");
        for (int phrase = 0; phrase < 20; phrase++) {
            x.addPhrase(5, phrase == 19 ? 999 : phrase, phrase == 0 ? NONE : phrase - 1);
        }
        for (int note = 0; note < 24; note++) {
            x.use(4);
        }
        for (int length = 10; length < 40; length++) {
            x.type(' ');
        }
        return x;
    }

    private static PhrasePool one() {
        return poolWith(1, "a");
    }

    // ---- Promise 1: A new object

    @Says(at = "Promise 1", that = "Creates a pool without members and phrases")
    static void p01NothingInIt() {
        PhrasePool x = new PhrasePool();
        int[] first = {0, 0, 0, 0, 0, 0, 0, 0, 70, 10, 30, 10, 80, 0};
        for (int what = 0; what < 14; what++) {
            due("count(" + what + ")", x.count(what), first[what]);
        }
        due("member(0, 0)", x.member(0, 0), BAD_INDEX);
        due("phrase(0, 0)", x.phrase(0, 0), BAD_INDEX);
        due("word(0, 0)", x.word(0, 0), BAD_INDEX);
        due("note(0, 0)", x.note(0, 0), BAD_INDEX);
        due("undo()", x.undo(), BAD_STATE);
    }

    @Says(at = "Promise 1", that = "and an empty text")
    static void p01EmptyText() {
        PhrasePool x = new PhrasePool();
        due("count(13)", x.count(13), 0);
        due("textFault()", x.textFault(), 0);
        due("agreed()", x.agreed(), BAD_STATE);
        due("match()", x.match(), BAD_STATE);
        due("clearText()", x.clearText(), 0);
    }

    @Says(at = "Promise 1", that = "Creates a pool")
    static void p01OnePoolEach() {
        PhrasePool x = full();
        PhrasePool y = new PhrasePool();
        due("the digest of another one", y.digest(), hash(61, 0, 0, 0, 0, 0, 0, 0, 0, 70, 10, 30, 10, 80));
        due("its text", y.count(13), 0);
        due("its history", y.undo(), BAD_STATE);
        y.addMember();
        y.pass(5);
        due("the members of the first one", x.count(0), 6);
        due("its tick", x.count(5), 10000);
    }

    // ---- Promise 2: addMember

    @Says(at = "Promise 2", that = "Returns its number")
    static void p02Number() {
        PhrasePool x = new PhrasePool();
        for (int member = 0; member < 6; member++) {
            due("addMember()", x.addMember(), member);
        }
        x.undo();
        due("the last one again", x.addMember(), 5);
    }

    @Says(at = "Promise 2", that = "Adds a member.")
    static void p02NothingLeftOfAnEarlierOne() {
        PhrasePool x = poolWith(1, "a");
        x.addMember();
        x.setPrice(1, 7);
        x.use(1);
        for (int left = 3; left >= 1; left--) {
            due("undo()", x.undo(), left);
        }
        due("members then", x.count(0), 1);
        due("addMember()", x.addMember(), 1);
        due("its price", x.member(1, 0), 40);
        due("its account", x.member(1, 1), 0);
        due("its phrases", x.member(1, 2), 0);
        due("its uses", x.member(1, 3), 0);
        due("what it got", x.member(1, 4), 0);
    }

    @Says(at = "Promise 2", that = "FULL if there are 6 members")
    static void p02Full() {
        due("with 5", pool(5).addMember(), 5);
        refused("with 6", () -> pool(6), x -> x.addMember(), FULL);
        refused("when all is full", PhrasePoolPromiseEdges::full, x -> x.addMember(), FULL);
    }

    @Says(at = "Promise 2", that = "Recorded.")
    static void p02Recorded() {
        recorded("the first", PhrasePool::new, x -> x.addMember());
        recorded("the second", PhrasePoolPromiseEdges::one, x -> x.addMember());
        recorded("the last", () -> pool(5), x -> x.addMember());
    }

    // ---- Promise 3: setPrice

    @Says(at = "Promise 3", that = "Returns the previous price")
    static void p03Previous() {
        PhrasePool x = pool(6);
        due("at first", x.setPrice(5, 0), 40);
        due("0", x.setPrice(5, 200), 0);
        due("200", x.setPrice(5, 200), 200);
        due("of the first one", x.setPrice(0, 1), 40);
        due("1", x.setPrice(0, 1), 1);
    }

    @Says(at = "Promise 3", that = "BAD_INDEX if there is no such member")
    static void p03BadIndex() {
        for (int members : new int[] {0, 1, 6}) {
            numbered("setPrice(.., 1)", members, member -> pool(members).setPrice(member, 1));
        }
        refused("one too many", () -> pool(5), x -> x.setPrice(5, 1), BAD_INDEX);
        refused("below 0", () -> pool(5), x -> x.setPrice(-1, 1), BAD_INDEX);
        refused("before the value", () -> pool(5), x -> x.setPrice(5, 201), BAD_INDEX);
    }

    @Says(at = "Promise 3", that = "BAD_VALUE if price is out of range")
    static void p03BadValue() {
        PhrasePool x = pool(1);
        ranged("setPrice", 0, 200, price -> x.setPrice(0, price));
        refused("201", () -> pool(1), y -> y.setPrice(0, 201), BAD_VALUE);
        refused("-1", () -> pool(1), y -> y.setPrice(0, -1), BAD_VALUE);
    }

    @Says(at = "Promise 3", that = "Recorded.")
    static void p03Recorded() {
        recorded("to the most", PhrasePoolPromiseEdges::one, x -> x.setPrice(0, 200));
        recorded("to nothing", PhrasePoolPromiseEdges::full, x -> x.setPrice(5, 0));
    }

    // ---- Promise 4: set

    @Says(at = "Promise 4", that = "Returns the previous value")
    static void p04Previous() {
        PhrasePool x = new PhrasePool();
        int[] first = {70, 10, 30, 10, 80};
        for (int setting = 0; setting < 5; setting++) {
            due("at first", x.set(setting, 50), first[setting]);
            due("then", x.set(setting, 1), 50);
            due("and again", x.set(setting, 1), 1);
        }
    }

    @Says(at = "Promise 4", that = "BAD_INDEX if there is no such setting")
    static void p04BadIndex() {
        PhrasePool x = new PhrasePool();
        numbered("set(.., 50)", 5, setting -> x.set(setting, 50));
        refused("setting 5", PhrasePoolPromiseEdges::one, y -> y.set(5, 50), BAD_INDEX);
        refused("setting -1", PhrasePoolPromiseEdges::one, y -> y.set(-1, 50), BAD_INDEX);
        refused("before the value", PhrasePoolPromiseEdges::one, y -> y.set(5, -1), BAD_INDEX);
    }

    @Says(at = "Promise 4", that = "BAD_VALUE if value is out of range")
    static void p04BadValue() {
        int[] least = {1, 0, 0, 0, 1};
        int[] most = {100, 50, 80, 100, 100};
        for (int setting = 0; setting < 5; setting++) {
            int chosen = setting;
            PhrasePool x = new PhrasePool();
            ranged("set(" + chosen + ")", least[chosen], most[chosen], value -> x.set(chosen, value));
            refused("too great", PhrasePoolPromiseEdges::one, y -> y.set(chosen, most[chosen] + 1), BAD_VALUE);
            refused("too small", PhrasePoolPromiseEdges::one, y -> y.set(chosen, least[chosen] - 1), BAD_VALUE);
        }
    }

    @Says(at = "Promise 4", that = "Recorded.")
    static void p04Recorded() {
        recorded("the first one", PhrasePool::new, x -> x.set(0, 100));
        recorded("the last one", PhrasePoolPromiseEdges::full, x -> x.set(4, 1));
    }

    // ---- Promise 5: count

    @Says(at = "Promise 5", that = "0 members, 1 phrases, 2 live ones, 3 notes, 4 notes that are paid back, 5 the present tick, 6 the account of the pool, 7 pairs of phrases in conflict, 8 to 12 the settings 0 to 4, 13 the length of the text")
    static void p05WhenAllIsFull() {
        PhrasePool x = full();
        int[] want = {6, 20, 20, 24, 0, 10000, 24 * 100, 190, 70, 50, 30, 10, 80, 40};
        for (int what = 0; what < 14; what++) {
            due("count(" + what + ")", x.count(what), want[what]);
        }
        x.retract(0);
        int[] then = {6, 20, 0, 24, 24, 10000, 0, 0, 70, 50, 30, 10, 80, 40};
        for (int what = 0; what < 14; what++) {
            due("count(" + what + ") after a retraction", x.count(what), then[what]);
        }
    }

    @Says(at = "Promise 5", that = "4 notes that are paid back")
    static void p05PaidBack() {
        PhrasePool x = poolWith(2, "a", "b");
        x.use(1);
        write(x, "a");
        x.use(1);
        x.use(0);
        due("none", x.count(4), 0);
        x.retract(0);
        due("two of three, one without a fee", x.count(4), 2);
        x.retract(1);
        due("all", x.count(4), 3);
    }

    @Says(at = "Promise 5", that = "7 pairs of phrases in conflict")
    static void p05Pairs() {
        PhrasePool x = pool(2);
        int[] pairs = {0, 1, 3, 6, 10};
        for (int phrase = 0; phrase < 5; phrase++) {
            add(x, phrase % 2, "ab", phrase, NONE);
            due(phrase + 1 + " phrases", x.count(7), pairs[phrase]);
        }
        add(x, 0, "ab", 4, NONE);
        due("one that is in conflict with four of five", x.count(7), 14);
    }

    @Says(at = "Promise 5", that = "BAD_VALUE if what is out of range")
    static void p05BadValue() {
        PhrasePool x = new PhrasePool();
        ranged("count", 0, 13, what -> x.count(what));
        refused("14", PhrasePoolPromiseEdges::one, y -> y.count(14), BAD_VALUE);
        refused("-1", PhrasePoolPromiseEdges::one, y -> y.count(-1), BAD_VALUE);
    }

    // ---- Promise 6: member

    @Says(at = "Promise 6", that = "0 its price, 1 its account, 2 how many live phrases it owns, 3 how many notes there are of its uses, 4 the sum of what it got by notes that are not paid back")
    static void p06WhenAllIsFull() {
        PhrasePool x = full();
        int[][] want = {{40, 0, 0, 0, 0}, {40, -24 * 200, 0, 24, 0}, {200, 24 * 100, 20, 0, 24 * 100}};
        for (int what = 0; what < 5; what++) {
            due("member(0, " + what + ")", x.member(0, what), want[0][what]);
            due("member(4, " + what + ")", x.member(4, what), want[1][what]);
            due("member(5, " + what + ")", x.member(5, what), want[2][what]);
        }
        x.retract(0);
        int[][] then = {{40, 0, 0, 24, 0}, {200, 0, 0, 0, 0}};
        for (int what = 0; what < 5; what++) {
            due("member(4, " + what + ") after a retraction", x.member(4, what), then[0][what]);
            due("member(5, " + what + ") after a retraction", x.member(5, what), then[1][what]);
        }
    }

    @Says(at = "Promise 6", that = "4 the sum of what it got by notes that are not paid back")
    static void p06Got() {
        PhrasePool x = poolWith(3, "a");
        add(x, 1, "b", 1, 0);
        x.use(2);
        write(x, "a");
        x.use(2);
        due("by both", x.member(0, 4), 10 + 36);
        due("by one", x.member(1, 4), 26);
        x.retract(1);
        due("by what is not paid back", x.member(0, 4), 36);
        due("by nothing", x.member(1, 4), 0);
        due("what it paid is not counted", x.member(2, 4), 0);
    }

    @Says(at = "Promise 6", that = "BAD_INDEX if there is no such member")
    static void p06BadIndex() {
        for (int members : new int[] {0, 1, 6}) {
            PhrasePool x = pool(members);
            for (int what = 0; what < 5; what++) {
                int asked = what;
                numbered("member(.., " + asked + ")", members, member -> x.member(member, asked));
            }
        }
        refused("before the value", PhrasePoolPromiseEdges::one, x -> x.member(1, 5), BAD_INDEX);
    }

    @Says(at = "Promise 6", that = "BAD_VALUE if what is out of range")
    static void p06BadValue() {
        PhrasePool x = pool(1);
        ranged("member(0, ..)", 0, 4, what -> x.member(0, what));
        refused("5", PhrasePoolPromiseEdges::one, y -> y.member(0, 5), BAD_VALUE);
        refused("-1", PhrasePoolPromiseEdges::one, y -> y.member(0, -1), BAD_VALUE);
    }

    // ---- Promise 7: addPhrase

    @Says(at = "Promise 7", that = "Adds a phrase with the text as its sentence, which stays.")
    static void p07TextStays() {
        PhrasePool x = pool(1);
        String text = "   a b c d e f g h i z                  ";
        write(x, text);
        due("addPhrase", x.addPhrase(0, 1, NONE), 0);
        due("the length of the text", x.count(13), 40);
        due("the text", x.alike(0), 100);
        due("the words", x.phrase(0, 1), 10);
        due("the last word", x.word(0, 9), 25);
        x.clearText();
        x.type('q');
        due("the sentence stays when the text does not", x.word(0, 0), 0);
        due("all of it", x.phrase(0, 1), 10);
        due("undo()", x.undo(), 1);
        due("a phrase in its place", x.addPhrase(0, 1, NONE), 0);
        due("its words", x.phrase(0, 1), 1);
        due("its word", x.word(0, 0), 16);
        due("nothing left of the earlier one", x.word(0, 1), NONE);
    }

    @Says(at = "Promise 7", that = "Returns its number")
    static void p07Number() {
        PhrasePool x = pool(1);
        x.type('a');
        for (int phrase = 0; phrase < 20; phrase++) {
            due("addPhrase", x.addPhrase(0, 0, NONE), phrase);
        }
        x.undo();
        due("the last one again", x.addPhrase(0, 0, NONE), 19);
    }

    @Says(at = "Promise 7", that = "a live phrase from which it is derived, or NONE")
    static void p07Parent() {
        PhrasePool x = one();
        due("NONE", x.addPhrase(0, 1, NONE), 1);
        due("the first one", x.addPhrase(0, 1, 0), 2);
        due("the last one", x.addPhrase(0, 1, 2), 3);
        due("not itself", x.addPhrase(0, 1, 4), BAD_INDEX);
        int[] parents = {NONE, NONE, 0, 2};
        for (int phrase = 0; phrase < 4; phrase++) {
            due("the parent", x.phrase(phrase, 3), parents[phrase]);
        }
    }

    @Says(at = "Promise 7", that = "BAD_INDEX if there is no such member")
    static void p07BadMember() {
        for (int members : new int[] {1, 6}) {
            PhrasePool x = pool(members);
            x.type('a');
            numbered("addPhrase(.., 1, NONE)", members, member -> x.addPhrase(member, 1, NONE));
        }
        refused("without members", PhrasePool::new, x -> x.addPhrase(0, 1, NONE), BAD_INDEX);
        refused("one too many", PhrasePoolPromiseEdges::one, x -> x.addPhrase(1, 1, NONE), BAD_INDEX);
        refused("below 0", PhrasePoolPromiseEdges::one, x -> x.addPhrase(-1, 1, NONE), BAD_INDEX);
        refused("NONE is no member", PhrasePoolPromiseEdges::one, x -> x.addPhrase(NONE, 1, NONE), BAD_INDEX);
    }

    @Says(at = "Promise 7", that = "or parent is not NONE, and there is no such phrase")
    static void p07BadParent() {
        PhrasePool x = poolWith(1, "a", "b", "c");
        for (int parent : new int[] {3, 4, 19, 20, -1, MIN, MAX, NONE - 1, NONE + 1, BAD_INDEX}) {
            due("parent " + parent, x.addPhrase(0, 1, parent), BAD_INDEX);
        }
        due("NONE", x.addPhrase(0, 1, NONE), 3);
        due("then there is a 3", x.addPhrase(0, 1, 3), 4);
        refused("without phrases", () -> pool(1), y -> y.addPhrase(0, 1, 0), BAD_INDEX);
        refused("one too many", PhrasePoolPromiseEdges::one, y -> y.addPhrase(0, 1, 1), BAD_INDEX);
        refused("below 0", PhrasePoolPromiseEdges::one, y -> y.addPhrase(0, 1, -1), BAD_INDEX);
        refused("the twenty-first", PhrasePoolPromiseEdges::full, y -> y.addPhrase(0, 1, 20), BAD_INDEX);
    }

    @Says(at = "Promise 7", that = "BAD_VALUE if target is out of range")
    static void p07BadValue() {
        PhrasePool x = one();
        outOfRange("addPhrase(0, .., NONE)", 0, 999, target -> x.addPhrase(0, target, NONE));
        due("0", x.addPhrase(0, 0, NONE), 1);
        due("999", x.addPhrase(0, 999, NONE), 2);
        refused("1000", PhrasePoolPromiseEdges::one, y -> y.addPhrase(0, 1000, NONE), BAD_VALUE);
        refused("-1", PhrasePoolPromiseEdges::one, y -> y.addPhrase(0, -1, NONE), BAD_VALUE);
        refused("NONE is no target", PhrasePoolPromiseEdges::one, y -> y.addPhrase(0, NONE, NONE), BAD_VALUE);
    }

    @Says(at = "Promise 7", that = "BAD_STATE if the text has a fault")
    static void p07Fault() {
        for (String text : new String[] {"", " ", "1", "a1", "abcdefghijk", "{", "`", "A"}) {
            refused("the text '" + text + "'", () -> texted(text), x -> x.addPhrase(0, 1, NONE), BAD_STATE);
            refused("the text '" + text + "', a parent", () -> texted(text), x -> x.addPhrase(0, 1, 0), BAD_STATE);
        }
    }

    private static PhrasePool texted(String text) {
        PhrasePool x = one();
        write(x, text);
        return x;
    }

    @Says(at = "Promise 7", that = "or the parent is not live")
    static void p07EndedParent() {
        refused("an ended parent", PhrasePoolPromiseEdges::ended, x -> x.addPhrase(0, 1, 0), BAD_STATE);
        PhrasePool x = ended();
        due("one that is live", x.addPhrase(0, 1, 1), 2);
        x.undo();
        x.undo();
        due("one that is live again", x.addPhrase(0, 1, 0), 2);
    }

    private static PhrasePool ended() {
        PhrasePool x = poolWith(1, "a", "b");
        x.retract(0);
        return x;
    }

    @Says(at = "Promise 7", that = "FULL if there are 20 phrases")
    static void p07Full() {
        PhrasePool x = pool(1);
        x.type('a');
        for (int phrase = 0; phrase < 19; phrase++) {
            x.addPhrase(0, 1, NONE);
        }
        due("with 19", x.addPhrase(0, 1, 18), 19);
        due("with 20", x.addPhrase(0, 1, 19), FULL);
        refused("when all is full", PhrasePoolPromiseEdges::full, y -> y.addPhrase(0, 1, NONE), FULL);
        refused("with a parent", PhrasePoolPromiseEdges::full, y -> y.addPhrase(0, 1, 19), FULL);
    }

    @Says(at = "Promise 7", that = "BAD_INDEX .. BAD_VALUE .. BAD_STATE .. FULL")
    static void p07Order() {
        refused("member and target", PhrasePoolPromiseEdges::one, x -> x.addPhrase(1, -1, NONE), BAD_INDEX);
        refused("parent and target", PhrasePoolPromiseEdges::one, x -> x.addPhrase(0, -1, 1), BAD_INDEX);
        refused("member and text", () -> texted(""), x -> x.addPhrase(1, 1, NONE), BAD_INDEX);
        refused("parent and text", () -> texted(""), x -> x.addPhrase(0, 1, 1), BAD_INDEX);
        refused("member and ended parent", PhrasePoolPromiseEdges::ended, x -> x.addPhrase(1, 1, 0), BAD_INDEX);
        refused("member and full", PhrasePoolPromiseEdges::full, x -> x.addPhrase(6, 1, NONE), BAD_INDEX);
        refused("parent and full", PhrasePoolPromiseEdges::full, x -> x.addPhrase(0, 1, 20), BAD_INDEX);
        refused("target and text", () -> texted(""), x -> x.addPhrase(0, 1000, NONE), BAD_VALUE);
        refused("target and ended parent", PhrasePoolPromiseEdges::ended, x -> x.addPhrase(0, 1000, 0), BAD_VALUE);
        refused("target and full", PhrasePoolPromiseEdges::full, x -> x.addPhrase(0, 1000, NONE), BAD_VALUE);
        refused("text and full", PhrasePoolPromiseEdges::fullFaulty, x -> x.addPhrase(0, 1, NONE), BAD_STATE);
        refused("ended parent and full", PhrasePoolPromiseEdges::fullEnded, x -> x.addPhrase(0, 1, 19), BAD_STATE);
    }

    private static PhrasePool fullFaulty() {
        PhrasePool x = full();
        x.clearText();
        return x;
    }

    private static PhrasePool fullEnded() {
        PhrasePool x = full();
        x.retract(19);
        return x;
    }

    @Says(at = "Promise 7", that = "Recorded.")
    static void p07Recorded() {
        recorded("the second", PhrasePoolPromiseEdges::one, x -> x.addPhrase(0, 999, 0));
        recorded("beside one that has ended", PhrasePoolPromiseEdges::ended, x -> x.addPhrase(0, 0, NONE));
    }

    // ---- Promise 8: phrase

    @Says(at = "Promise 8", that = "0 its owner, 1 how many words its sentence has, 2 its target, 3 its parent (NONE without one), 4: 1 if it is live, else 0; 5 its uses, 6 with how many phrases it is in conflict (0 if it has ended)")
    static void p08WhenAllIsFull() {
        PhrasePool x = full();
        int[] first = {5, 10, 0, NONE, 1, 24, 19};
        int[] last = {5, 10, 999, 18, 1, 0, 19};
        for (int what = 0; what < 7; what++) {
            due("phrase(0, " + what + ")", x.phrase(0, what), first[what]);
            due("phrase(19, " + what + ")", x.phrase(19, what), last[what]);
        }
        x.retract(0);
        int[] ended = {5, 10, 999, 18, 0, 0, 0};
        for (int what = 0; what < 7; what++) {
            due("phrase(19, " + what + ") when it has ended", x.phrase(19, what), ended[what]);
        }
    }

    @Says(at = "Promise 8", that = "3 its parent (NONE without one)")
    static void p08Parent() {
        PhrasePool x = one();
        add(x, 0, "b", 1, 0);
        add(x, 0, "c", 1, 1);
        due("without one", x.phrase(0, 3), NONE);
        due("the number 0", x.phrase(1, 3), 0);
        x.retract(0);
        due("lost", x.phrase(1, 3), NONE);
        due("kept", x.phrase(2, 3), 1);
        x.retract(2);
        due("of one that has ended", x.phrase(2, 3), 1);
    }

    @Says(at = "Promise 8", that = "6 with how many phrases it is in conflict (0 if it has ended)")
    static void p08Conflicts() {
        PhrasePool x = pool(1);
        add(x, 0, "ab", 1, NONE);
        add(x, 0, "ab", 2, NONE);
        add(x, 0, "ab", 2, NONE);
        add(x, 0, "abc", 3, NONE);
        int[] conflicts = {2, 1, 1, 0};
        for (int phrase = 0; phrase < 4; phrase++) {
            due("of " + phrase, x.phrase(phrase, 6), conflicts[phrase]);
        }
        x.retract(1);
        int[] then = {1, 0, 1, 0};
        for (int phrase = 0; phrase < 4; phrase++) {
            due("of " + phrase + " after a retraction", x.phrase(phrase, 6), then[phrase]);
        }
    }

    @Says(at = "Promise 8", that = "BAD_INDEX if there is no such phrase")
    static void p08BadIndex() {
        PhrasePool none = pool(1);
        numbered("phrase(.., 0)", 0, phrase -> none.phrase(phrase, 0));
        for (int what = 0; what < 7; what++) {
            int asked = what;
            PhrasePool x = full();
            numbered("phrase(.., " + asked + ")", 20, phrase -> x.phrase(phrase, asked));
        }
        refused("before the value", PhrasePoolPromiseEdges::one, y -> y.phrase(1, 7), BAD_INDEX);
    }

    @Says(at = "Promise 8", that = "BAD_VALUE if what is out of range")
    static void p08BadValue() {
        PhrasePool x = one();
        ranged("phrase(0, ..)", 0, 6, what -> x.phrase(0, what));
        refused("7", PhrasePoolPromiseEdges::one, y -> y.phrase(0, 7), BAD_VALUE);
        refused("-1", PhrasePoolPromiseEdges::ended, y -> y.phrase(0, -1), BAD_VALUE);
    }

    // ---- Promise 9: word

    @Says(at = "Promise 9", that = "Returns 0 (a) to 25 (z)")
    static void p09AllLetters() {
        PhrasePool x = poolWith(1, "abcdefghij", "klmnopqrst", "uvwxyz");
        for (int letter = 0; letter < 26; letter++) {
            due("word " + letter, x.word(letter / 10, letter % 10), letter);
        }
        x.retract(2);
        due("of one that has ended", x.word(2, 5), 25);
    }

    @Says(at = "Promise 9", that = "NONE if it has not so many")
    static void p09NotSoMany() {
        PhrasePool x = poolWith(1, "z", "abcdefghij", "b");
        due("the first of one", x.word(0, 0), 25);
        due("the second of one", x.word(0, 1), NONE);
        due("the tenth of ten", x.word(1, 9), 9);
        due("the eleventh of ten", x.word(1, 10), NONE);
        for (int index : new int[] {1, 2, 9, 10, 11, 16, 100, MAX - 1, MAX}) {
            due("index " + index + " of one", x.word(2, index), NONE);
        }
    }

    @Says(at = "Promise 9", that = "BAD_INDEX if there is no such phrase")
    static void p09BadIndex() {
        PhrasePool none = pool(1);
        numbered("word(.., 0)", 0, phrase -> none.word(phrase, 0));
        PhrasePool x = full();
        numbered("word(.., 0)", 20, phrase -> x.word(phrase, 0));
        numbered("word(.., 99)", 20, phrase -> x.word(phrase, 99));
        refused("before the value", PhrasePoolPromiseEdges::one, y -> y.word(1, -1), BAD_INDEX);
    }

    @Says(at = "Promise 9", that = "BAD_VALUE if index is below 0")
    static void p09BadValue() {
        PhrasePool x = one();
        for (int index : new int[] {-1, -2, -10, MIN, MIN + 1, NONE, BAD_INDEX}) {
            due("index " + index, x.word(0, index), BAD_VALUE);
        }
        refused("-1", PhrasePoolPromiseEdges::one, y -> y.word(0, -1), BAD_VALUE);
    }

    // ---- Promise 10: score

    @Says(at = "Promise 10", that = "Returns the score of the sentences of two phrases, live or not.")
    static void p10LiveOrNot() {
        PhrasePool x = poolWith(1, "abcd", "abcx");
        due("of both", x.score(0, 1), 75);
        due("of one with itself", x.score(1, 1), 100);
        x.retract(0);
        due("the one has ended", x.score(0, 1), 75);
        due("the other has ended", x.score(1, 0), 75);
        x.retract(1);
        due("both have ended", x.score(0, 1), 75);
        due("ended, with itself", x.score(0, 0), 100);
    }

    @Says(at = "Promise 10", that = "BAD_INDEX if there is no such phrase (either one)")
    static void p10BadIndex() {
        PhrasePool none = pool(1);
        numbered("score(.., 0)", 0, phrase -> none.score(phrase, 0));
        PhrasePool x = full();
        numbered("score(.., 0)", 20, phrase -> x.score(phrase, 0));
        numbered("score(0, ..)", 20, phrase -> x.score(0, phrase));
        numbered("score(19, ..)", 20, phrase -> x.score(19, phrase));
        numbered("score of both", 20, phrase -> x.score(phrase, phrase));
        refused("the one", PhrasePoolPromiseEdges::one, y -> y.score(1, 0), BAD_INDEX);
        refused("the other", PhrasePoolPromiseEdges::one, y -> y.score(0, 1), BAD_INDEX);
    }

    // ---- Promise 11: agreed

    @Says(at = "Promise 11", that = "Finds the target that the most different members (of whom each can give several) give to the sentence of the text")
    static void p11MostMembers() {
        PhrasePool x = pool(6);
        for (int phrase = 0; phrase < 8; phrase++) {
            add(x, 0, "ab", 3, NONE);
        }
        add(x, 1, "ab", 9, NONE);
        due("one member each, eight phrases or one", x.agreed(), 3);
        add(x, 2, "ab", 9, NONE);
        due("two members before one", x.agreed(), 9);
        add(x, 1, "ab", 3, NONE);
        due("a member who gives both counts for both", x.agreed(), 3);
        for (int member = 3; member < 6; member++) {
            add(x, member, "ab", 999, NONE);
        }
        due("three members", x.agreed(), 999);
        add(x, 1, "ab", 999, NONE);
        add(x, 2, "ab", 999, NONE);
        add(x, 0, "ab", 999, NONE);
        due("all six", x.agreed(), 999);
    }

    @Says(at = "Promise 11", that = "the most different members (of whom each can give several)")
    static void p11EachCanGiveSeveral() {
        PhrasePool x = pool(3);
        add(x, 0, "ab", 8, NONE);
        add(x, 0, "ab", 7, NONE);
        add(x, 0, "ab", 9, NONE);
        due("one member, three targets", x.agreed(), 7);
        add(x, 1, "ab", 9, NONE);
        due("the last target of the one, with another member", x.agreed(), 9);
        add(x, 1, "ab", 8, NONE);
        due("two of them, with the other member", x.agreed(), 8);
        add(x, 2, "ab", 7, NONE);
        add(x, 1, "ab", 7, NONE);
        due("all three, one of them with a third member", x.agreed(), 7);
        x.retract(1);
        due("without the first one's phrase for it, all with two", x.agreed(), 7);
        x.retract(5);
        due("then it has one", x.agreed(), 8);
    }

    @Says(at = "Promise 11", that = "by live phrases of theirs with just this sentence")
    static void p11JustThis() {
        PhrasePool x = pool(3);
        add(x, 0, "ab", 5, NONE);
        add(x, 1, "abc", 4, NONE);
        add(x, 2, "a", 4, NONE);
        add(x, 2, "ba", 4, NONE);
        write(x, " a b ");
        due("just this", x.agreed(), 5);
        x.retract(0);
        due("live ones alone", x.agreed(), NONE);
        x.undo();
        due("live again", x.agreed(), 5);
    }

    @Says(at = "Promise 11", that = "Returns the target, of several the lowest one")
    static void p11Lowest() {
        PhrasePool x = pool(3);
        add(x, 0, "a", 999, NONE);
        add(x, 1, "a", 1, NONE);
        due("1 and 999", x.agreed(), 1);
        add(x, 2, "a", 0, NONE);
        due("0, 1 and 999", x.agreed(), 0);
        add(x, 2, "a", 999, NONE);
        due("999 has two", x.agreed(), 999);
        add(x, 2, "a", 1, NONE);
        due("1 and 999 have two", x.agreed(), 1);
    }

    @Says(at = "Promise 11", that = "NONE if there is none")
    static void p11None() {
        PhrasePool x = new PhrasePool();
        x.type('a');
        due("without members", x.agreed(), NONE);
        x.addMember();
        due("without phrases", x.agreed(), NONE);
        x.addPhrase(0, 0, NONE);
        due("the target 0", x.agreed(), 0);
        x.retract(0);
        due("without live ones", x.agreed(), NONE);
    }

    @Says(at = "Promise 11", that = "BAD_STATE if the text has a fault")
    static void p11Fault() {
        for (String text : FAULTY) {
            refused("the text '" + text + "'", () -> texted(text), x -> x.agreed(), BAD_STATE);
        }
        due("an eleventh letter alone is wrong", texted("aaaaaaaaaa").agreed(), NONE);
    }

    private static final String[] FAULTY = {"", " ", "1", "a1", "a\u00e4", "aaaaaaaaaaa"};

    // ---- Promise 12: match

    @Says(at = "Promise 12", that = "Returns its number")
    static void p12Number() {
        PhrasePool x = pool(1);
        for (int phrase = 0; phrase < 20; phrase++) {
            add(x, 0, phrase == 19 ? "b" : "a", 1, NONE);
        }
        due("the last one", x.match(), 19);
        write(x, "a");
        due("the first one", x.match(), 0);
    }

    @Says(at = "Promise 12", that = "NONE if there is none")
    static void p12None() {
        PhrasePool x = new PhrasePool();
        x.type('a');
        due("without phrases", x.match(), NONE);
        x.addMember();
        x.addPhrase(0, 1, NONE);
        due("one", x.match(), 0);
        x.retract(0);
        due("without live ones", x.match(), NONE);
        PhrasePool y = poolWith(1, "abcdefghij", "r");
        y.set(0, 1);
        y.type('r');
        due("one that is alike", y.match(), 1);
        y.retract(1);
        due("without one that is alike", y.match(), NONE);
    }

    @Says(at = "Promise 12", that = "BAD_STATE if the text has a fault")
    static void p12Fault() {
        for (String text : FAULTY) {
            refused("the text '" + text + "'", () -> texted(text), x -> x.match(), BAD_STATE);
        }
        refused("without phrases", PhrasePool::new, x -> x.match(), BAD_STATE);
    }

    // ---- Promise 13: alike

    @Says(at = "Promise 13", that = "Returns the score of the text with a phrase, live or not.")
    static void p13LiveOrNot() {
        PhrasePool x = poolWith(1, "abcdefghij", "a");
        due("the least", x.alike(0), 10);
        due("the same", x.alike(1), 100);
        x.retract(0);
        x.retract(1);
        due("of one that has ended", x.alike(0), 10);
        due("the same, ended", x.alike(1), 100);
        write(x, "zzzzzzzzzz");
        due("nothing alike", x.alike(0), 0);
        write(x, "  ab cde  fghij ");
        due("blanks are no words", x.alike(0), 100);
    }

    @Says(at = "Promise 13", that = "BAD_INDEX if there is no such phrase")
    static void p13BadIndex() {
        PhrasePool none = texted("a");
        numbered("alike", 1, phrase -> none.alike(phrase));
        PhrasePool x = full();
        numbered("alike", 20, phrase -> x.alike(phrase));
        refused("without phrases", () -> pool(1), y -> y.alike(0), BAD_INDEX);
        refused("before the fault", () -> texted("1"), y -> y.alike(1), BAD_INDEX);
    }

    @Says(at = "Promise 13", that = "BAD_STATE if the text has a fault")
    static void p13Fault() {
        for (String text : FAULTY) {
            refused("the text '" + text + "'", () -> texted(text), x -> x.alike(0), BAD_STATE);
        }
    }

    // ---- Promise 14: fee

    @Says(at = "Promise 14", that = "Returns the fee that a member would pay for the match of the text.")
    static void p14Fee() {
        PhrasePool x = poolWith(3, "abcdefghij");
        add(x, 1, "abcdefgxyz", 1, NONE);
        x.setPrice(0, 200);
        x.setPrice(1, 1);
        due("of the match, not of the other", x.fee(2), 1);
        due("of another's, for an owner of others", x.fee(0), 1);
        due("of one's own", x.fee(1), 0);
        write(x, "abcdefghiz");
        due("180 of 200", x.fee(2), 180);
        write(x, "abcdefgxya");
        due("0 of 1, rounded down", x.fee(2), 0);
        due("nothing is used", x.count(3), 0);
    }

    @Says(at = "Promise 14", that = "NONE if there is no match")
    static void p14None() {
        PhrasePool x = poolWith(2, "abcdefghij");
        write(x, "abcdefg");
        due("score 70", x.fee(1), 28);
        write(x, "abcdef");
        due("score 60", x.fee(1), NONE);
        due("for the owner", x.fee(0), NONE);
        PhrasePool none = texted("a");
        none.retract(0);
        due("without live ones", none.fee(0), NONE);
    }

    @Says(at = "Promise 14", that = "BAD_INDEX if there is no such member")
    static void p14BadIndex() {
        PhrasePool x = full();
        numbered("fee", 6, member -> x.fee(member));
        PhrasePool y = texted("a");
        numbered("fee", 1, member -> y.fee(member));
        refused("without members", PhrasePool::new, z -> z.fee(0), BAD_INDEX);
        refused("before the fault", () -> texted("1"), z -> z.fee(1), BAD_INDEX);
        refused("before that there is no match", () -> texted("q"), z -> z.fee(1), BAD_INDEX);
    }

    @Says(at = "Promise 14", that = "BAD_STATE if the text has a fault")
    static void p14Fault() {
        for (String text : FAULTY) {
            refused("the text '" + text + "'", () -> texted(text), x -> x.fee(0), BAD_STATE);
        }
    }

    // ---- Promise 15: use

    @Says(at = "Promise 15", that = "Lets a member use the match of the text; its uses increase by 1.")
    static void p15Uses() {
        PhrasePool x = poolWith(2, "a", "b");
        for (int uses = 1; uses <= 24; uses++) {
            x.use(uses % 2);
            due("the uses of the match", x.phrase(1, 5), uses);
            due("those of the other one", x.phrase(0, 5), 0);
        }
        x.use(0);
        due("a refused one does not count", x.phrase(1, 5), 24);
    }

    @Says(at = "Promise 15", that = "Returns the number of the note")
    static void p15Number() {
        PhrasePool x = texted("a");
        for (int note = 0; note < 24; note++) {
            due("use(0)", x.use(0), note);
        }
        x.undo();
        due("the last one again", x.use(0), 23);
    }

    @Says(at = "Promise 15", that = "NONE if there is no match (nothing is changed, but it is recorded)")
    static void p15None() {
        PhrasePool x = texted("q");
        PhrasePool twin = texted("q");
        due("use(0)", x.use(0), NONE);
        sameNow("nothing is changed", x, twin);
        recorded("use(0)", () -> texted("q"), y -> y.use(0));
        recorded("use(0) without phrases", PhrasePoolPromiseEdges::unused, y -> y.use(0));
        PhrasePool four = texted("q");
        for (int use = 0; use < 4; use++) {
            four.use(0);
        }
        due("they fill the history", four.undo() + four.undo() + four.undo() + four.undo(), 3 + 2 + 1);
        due("the phrase can't be taken back then", four.undo(), BAD_STATE);
        due("it is there", four.count(1), 1);
    }

    private static PhrasePool unused() {
        PhrasePool x = pool(1);
        x.type('a');
        return x;
    }

    @Says(at = "Promise 15", that = "BAD_INDEX if there is no such member")
    static void p15BadIndex() {
        PhrasePool x = pool(6);
        x.type('a');
        x.addPhrase(0, 1, NONE);
        numbered("use", 6, member -> x.use(member));
        refused("without members", PhrasePool::new, y -> y.use(0), BAD_INDEX);
        refused("one too many", PhrasePoolPromiseEdges::one, y -> y.use(1), BAD_INDEX);
        refused("below 0", PhrasePoolPromiseEdges::one, y -> y.use(-1), BAD_INDEX);
        refused("before the fault", () -> texted("1"), y -> y.use(1), BAD_INDEX);
        refused("before that it is full", PhrasePoolPromiseEdges::full, y -> y.use(6), BAD_INDEX);
        refused("before that there is no match", () -> texted("q"), y -> y.use(1), BAD_INDEX);
    }

    @Says(at = "Promise 15", that = "BAD_STATE if the text has a fault")
    static void p15Fault() {
        for (String text : FAULTY) {
            refused("the text '" + text + "'", () -> texted(text), x -> x.use(0), BAD_STATE);
        }
        refused("before that it is full", PhrasePoolPromiseEdges::fullFaulty, x -> x.use(0), BAD_STATE);
    }

    @Says(at = "Promise 15", that = "FULL if there are 24 notes (also if there is no match)")
    static void p15Full() {
        refused("24 notes", PhrasePoolPromiseEdges::full, x -> x.use(0), FULL);
        refused("24 notes, no match", PhrasePoolPromiseEdges::fullUnmatched, x -> x.use(0), FULL);
        refused("24 notes, all paid back", PhrasePoolPromiseEdges::fullPaidBack, x -> x.use(0), FULL);
        PhrasePool x = full();
        x.undo();
        write(x, "q");
        due("23 notes, no match", x.use(0), NONE);
        write(x, "zzzzzzzzzz");
        due("23 notes", x.use(0), 23);
    }

    private static PhrasePool fullUnmatched() {
        PhrasePool x = full();
        write(x, "q");
        return x;
    }

    private static PhrasePool fullPaidBack() {
        PhrasePool x = full();
        x.set(4, 100);
        x.retract(0);
        return x;
    }

    @Says(at = "Promise 15", that = "Recorded.")
    static void p15Recorded() {
        recorded("the first", PhrasePoolPromiseEdges::one, x -> x.use(0));
        recorded("the last", () -> {
            PhrasePool x = full();
            x.undo();
            return x;
        }, x -> x.use(5));
    }

    // ---- Promise 16: note

    @Says(at = "Promise 16", that = "0 the member, 1 the phrase, 2 the score, 3 the fee, 4 the tick, 5: 1 if it is paid back, else 0; 6 what the pool got, 7 + m what the member m got (0 for one that there is not), m from 0 to 5")
    static void p16WhenAllIsFull() {
        PhrasePool x = full();
        int[] want = {4, 0, 100, 200, 10000, 0, 100, 0, 0, 0, 0, 0, 100};
        for (int what = 0; what < 13; what++) {
            due("note(0, " + what + ")", x.note(0, what), want[what]);
            due("note(23, " + what + ")", x.note(23, what), want[what]);
        }
        x.retract(0);
        due("note(23, 5) after a retraction", x.note(23, 5), 1);
    }

    @Says(at = "Promise 16", that = "7 + m what the member m got (0 for one that there is not), m from 0 to 5")
    static void p16OneThatThereIsNot() {
        PhrasePool x = poolWith(1, "a");
        x.use(0);
        x.addMember();
        for (int member = 0; member < 6; member++) {
            due("note(0, 7 + " + member + ")", x.note(0, 7 + member), 0);
        }
        x.use(1);
        due("the owner", x.note(1, 7), 36);
        for (int member = 1; member < 6; member++) {
            due("note(1, 7 + " + member + ")", x.note(1, 7 + member), 0);
        }
    }

    @Says(at = "Promise 16", that = "7 + m what the member m got .., m from 0 to 5")
    static void p16EachMember() {
        for (int owner = 0; owner < 6; owner++) {
            PhrasePool x = pool(6);
            add(x, owner, "a", 1, NONE);
            x.use((owner + 1) % 6);
            for (int member = 0; member < 6; member++) {
                due("of " + owner + "'s, " + member, x.note(0, 7 + member), member == owner ? 36 : 0);
            }
        }
    }

    @Says(at = "Promise 16", that = "BAD_INDEX if there is no such note")
    static void p16BadIndex() {
        PhrasePool none = one();
        numbered("note(.., 0)", 0, note -> none.note(note, 0));
        PhrasePool x = full();
        for (int what : new int[] {0, 1, 6, 12}) {
            numbered("note(.., " + what + ")", 24, note -> x.note(note, what));
        }
        refused("before the value", PhrasePoolPromiseEdges::one, y -> y.note(0, 13), BAD_INDEX);
        PhrasePool y = one();
        y.use(0);
        y.undo();
        due("one that was taken back", y.note(0, 0), BAD_INDEX);
    }

    @Says(at = "Promise 16", that = "BAD_VALUE if what is out of range")
    static void p16BadValue() {
        PhrasePool x = full();
        ranged("note(23, ..)", 0, 12, what -> x.note(23, what));
        refused("13", PhrasePoolPromiseEdges::full, y -> y.note(0, 13), BAD_VALUE);
        refused("-1", PhrasePoolPromiseEdges::full, y -> y.note(0, -1), BAD_VALUE);
    }

    // ---- Promise 17: retract

    @Says(at = "Promise 17", that = "Returns how many phrases end by it, itself included")
    static void p17HowMany() {
        PhrasePool x = poolWith(1, "a", "b");
        add(x, 0, "a", 1, 0);
        add(x, 0, "q", 1, 0);
        due("it alone", x.retract(1), 1);
        due("it and one of two", x.retract(0), 2);
        due("it alone, without a parent", x.retract(3), 1);
        due("all that there can be", full().retract(0), 20);
        due("all but the first", full().retract(1), 19);
        due("the last", full().retract(19), 1);
    }

    @Says(at = "Promise 17", that = "BAD_INDEX if there is no such phrase")
    static void p17BadIndex() {
        PhrasePool x = full();
        numbered("retract", 20, phrase -> x.retract(phrase));
        refused("without phrases", () -> pool(1), y -> y.retract(0), BAD_INDEX);
        refused("one too many", PhrasePoolPromiseEdges::one, y -> y.retract(1), BAD_INDEX);
        refused("below 0", PhrasePoolPromiseEdges::one, y -> y.retract(-1), BAD_INDEX);
        refused("NONE", PhrasePoolPromiseEdges::one, y -> y.retract(NONE), BAD_INDEX);
    }

    @Says(at = "Promise 17", that = "BAD_STATE if it has ended already")
    static void p17Ended() {
        refused("retracted", PhrasePoolPromiseEdges::ended, x -> x.retract(0), BAD_STATE);
        refused("ended with another", PhrasePoolPromiseEdges::fullPaidBack, x -> x.retract(19), BAD_STATE);
        PhrasePool x = ended();
        x.undo();
        due("live again", x.retract(0), 1);
    }

    @Says(at = "Promise 17", that = "Recorded.")
    static void p17Recorded() {
        recorded("one", PhrasePoolPromiseEdges::one, x -> x.retract(0));
        recorded("all, with all notes", PhrasePoolPromiseEdges::full, x -> x.retract(0));
    }

    // ---- Promise 18: wouldPayBack

    @Says(at = "Promise 18", that = "Tells how much would be paid back if a phrase was retracted. Nothing is changed.")
    static void p18NothingChanged() {
        PhrasePool x = full();
        due("wouldPayBack(0)", x.wouldPayBack(0), 24 * 200);
        same("wouldPayBack(0)", x, full());
        notRecorded("wouldPayBack(19)", PhrasePoolPromiseEdges::full, y -> y.wouldPayBack(19));
        PhrasePool y = full();
        y.wouldPayBack(0);
        due("another one afterwards", y.wouldPayBack(19), 0);
        due("a retraction of another one afterwards", y.retract(19), 1);
    }

    @Says(at = "Promise 18", that = "Returns the sum of the fees")
    static void p18Sum() {
        PhrasePool x = poolWith(4, "abcde");
        add(x, 1, "abcdx", 1, 0);
        add(x, 2, "vwxyz", 1, 1);
        due("without notes", x.wouldPayBack(0), 0);
        x.use(3);
        x.use(2);
        write(x, "abcdx");
        x.setPrice(1, 33);
        x.use(3);
        write(x, "abcde");
        x.setPrice(0, 200);
        x.use(3);
        due("with one that is close", x.wouldPayBack(0), 233);
        due("one that is far from its child", x.wouldPayBack(1), 33);
        due("of a use by the owner nothing", x.wouldPayBack(2), 40);
        x.pass(10);
        due("at the last tick of the grace", x.wouldPayBack(0), 233);
        x.pass(1);
        due("a tick later", x.wouldPayBack(0), 0);
        due("for all", x.wouldPayBack(2), 0);
    }

    @Says(at = "Promise 18", that = "BAD_INDEX if there is no such phrase")
    static void p18BadIndex() {
        PhrasePool x = full();
        numbered("wouldPayBack", 20, phrase -> x.wouldPayBack(phrase));
        refused("without phrases", () -> pool(1), y -> y.wouldPayBack(0), BAD_INDEX);
        refused("one too many", PhrasePoolPromiseEdges::one, y -> y.wouldPayBack(1), BAD_INDEX);
        refused("below 0", PhrasePoolPromiseEdges::one, y -> y.wouldPayBack(-1), BAD_INDEX);
    }

    @Says(at = "Promise 18", that = "BAD_STATE if it has ended already")
    static void p18Ended() {
        refused("retracted", PhrasePoolPromiseEdges::ended, x -> x.wouldPayBack(0), BAD_STATE);
        refused("ended with another", PhrasePoolPromiseEdges::fullPaidBack, x -> x.wouldPayBack(19), BAD_STATE);
    }

    // ---- Promise 19: pass

    @Says(at = "Promise 19", that = "Returns the present tick then")
    static void p19Tick() {
        PhrasePool x = new PhrasePool();
        due("one", x.pass(1), 1);
        due("a hundred", x.pass(100), 101);
        due("the tick", x.count(5), 101);
        x.undo();
        due("after undo", x.pass(7), 8);
    }

    @Says(at = "Promise 19", that = "BAD_VALUE if ticks is out of range")
    static void p19BadValue() {
        PhrasePool x = new PhrasePool();
        ranged("pass", 1, 100, ticks -> x.pass(ticks));
        refused("0", PhrasePoolPromiseEdges::one, y -> y.pass(0), BAD_VALUE);
        refused("-1", PhrasePoolPromiseEdges::one, y -> y.pass(-1), BAD_VALUE);
        refused("101", PhrasePoolPromiseEdges::one, y -> y.pass(101), BAD_VALUE);
        refused("before that it is full: 0", PhrasePoolPromiseEdges::full, y -> y.pass(0), BAD_VALUE);
        refused("before that it is full: 101", PhrasePoolPromiseEdges::full, y -> y.pass(101), BAD_VALUE);
        refused("before that it is full: MAX", PhrasePoolPromiseEdges::full, y -> y.pass(MAX), BAD_VALUE);
    }

    @Says(at = "Promise 19", that = "FULL if it would be above 10000")
    static void p19Full() {
        int[][] tickTicks = {{9900, 100}, {9999, 1}, {9950, 50}};
        for (int[] row : tickTicks) {
            PhrasePool x = new PhrasePool();
            passTo(x, row[0]);
            due("to 10000 by " + row[1], x.pass(row[1]), 10000);
            due("one more", x.pass(1), FULL);
            due("a hundred more", x.pass(100), FULL);
            due("the tick", x.count(5), 10000);
        }
        PhrasePool x = new PhrasePool();
        passTo(x, 9901);
        due("to 10001 by 100", x.pass(100), FULL);
        due("to 10000 by 99", x.pass(99), 10000);
        refused("one more", PhrasePoolPromiseEdges::full, y -> y.pass(1), FULL);
        refused("a hundred more", PhrasePoolPromiseEdges::full, y -> y.pass(100), FULL);
    }

    @Says(at = "Promise 19", that = "Recorded.")
    static void p19Recorded() {
        recorded("the least", PhrasePoolPromiseEdges::one, x -> x.pass(1));
        recorded("the most", PhrasePoolPromiseEdges::one, x -> x.pass(100));
    }

    // ---- Promise 20: cheapest

    @Says(at = "Promise 20", that = "Returns the cost of the best way to put the text together.")
    static void p20Cost() {
        PhrasePool x = poolWith(2, "a");
        due("one word", x.cheapest(1), 40);
        due("one's own", x.cheapest(0), 0);
        write(x, " a a a a a a a a a a ");
        due("ten words", x.cheapest(1), 400);
        x.setPrice(0, 200);
        due("the greatest cost", x.cheapest(1), 2000);
        add(x, 0, "aaaaaaaaaa", 1, NONE);
        due("one of ten words", x.cheapest(1), 200);
        x.setPrice(0, 0);
        due("without a price", x.cheapest(1), 0);
    }

    @Says(at = "Promise 20", that = "NONE if there is no way")
    static void p20None() {
        PhrasePool x = poolWith(1, "ab", "abc");
        for (String text : new String[] {"a", "b", "c", "abc abca", "abab cc", "cab", "abcd", "ba"}) {
            write(x, text);
            due("'" + text + "'", x.cheapest(0), NONE);
        }
        due("without phrases", unused().cheapest(0), NONE);
        x.retract(0);
        write(x, "ab");
        due("of one that has ended", x.cheapest(0), NONE);
    }

    @Says(at = "Promise 20", that = "BAD_INDEX if there is no such member")
    static void p20BadIndex() {
        PhrasePool x = full();
        numbered("cheapest", 6, member -> x.cheapest(member));
        refused("without members", PhrasePool::new, y -> y.cheapest(0), BAD_INDEX);
        refused("before the fault", () -> texted("1"), y -> y.cheapest(1), BAD_INDEX);
        refused("before that there is no way", () -> texted("q"), y -> y.cheapest(-1), BAD_INDEX);
    }

    @Says(at = "Promise 20", that = "BAD_STATE if the text has a fault")
    static void p20Fault() {
        for (String text : FAULTY) {
            refused("the text '" + text + "'", () -> texted(text), x -> x.cheapest(0), BAD_STATE);
        }
    }

    // ---- Promise 21: piece

    @Says(at = "Promise 21", that = "Returns its number")
    static void p21Number() {
        PhrasePool x = poolWith(2, "j", "i", "h", "g", "f", "e", "d", "c", "b", "a");
        write(x, "abcdefghij");
        for (int index = 0; index < 10; index++) {
            due("piece " + index, x.piece(1, index), 9 - index);
        }
        PhrasePool y = pool(2);
        for (int phrase = 0; phrase < 20; phrase++) {
            add(y, 0, phrase == 19 ? "b" : "a", 1, NONE);
        }
        write(y, "aba");
        due("the first of twenty", y.piece(1, 0), 0);
        due("the last of twenty", y.piece(1, 1), 19);
        due("the first again", y.piece(1, 2), 0);
    }

    @Says(at = "Promise 21", that = "NONE if there are not so many, or there is no way")
    static void p21None() {
        PhrasePool x = poolWith(1, "a");
        due("the only one", x.piece(0, 0), 0);
        for (int index : new int[] {1, 2, 9, 10, 11, MAX - 1, MAX}) {
            due("index " + index + " of one", x.piece(0, index), NONE);
        }
        write(x, "aaaaaaaaaa");
        due("the tenth", x.piece(0, 9), 0);
        for (int index : new int[] {10, 11, 12, MAX - 1, MAX}) {
            due("index " + index + " of ten", x.piece(0, index), NONE);
        }
        write(x, "ab");
        for (int index : new int[] {0, 1, 2, MAX}) {
            due("index " + index + " without a way", x.piece(0, index), NONE);
        }
        write(x, "ba");
        due("a way from the second word on is none", x.piece(0, 0), NONE);
    }

    @Says(at = "Promise 21", that = "BAD_INDEX if there is no such member")
    static void p21BadIndex() {
        PhrasePool x = full();
        numbered("piece(.., 0)", 6, member -> x.piece(member, 0));
        refused("without members", PhrasePool::new, y -> y.piece(0, 0), BAD_INDEX);
        refused("before the value", PhrasePoolPromiseEdges::one, y -> y.piece(1, -1), BAD_INDEX);
        refused("before the fault", () -> texted("1"), y -> y.piece(1, 0), BAD_INDEX);
        refused("before both", () -> texted("1"), y -> y.piece(-1, -1), BAD_INDEX);
    }

    @Says(at = "Promise 21", that = "BAD_VALUE if index is below 0")
    static void p21BadValue() {
        PhrasePool x = one();
        for (int index : new int[] {-1, -2, -10, MIN, MIN + 1, NONE}) {
            due("index " + index, x.piece(0, index), BAD_VALUE);
        }
        refused("-1", PhrasePoolPromiseEdges::one, y -> y.piece(0, -1), BAD_VALUE);
        refused("before the fault", () -> texted("1"), y -> y.piece(0, -1), BAD_VALUE);
        refused("before that there is no way", () -> texted("q"), y -> y.piece(0, -1), BAD_VALUE);
    }

    @Says(at = "Promise 21", that = "BAD_STATE if the text has a fault")
    static void p21Fault() {
        for (String text : FAULTY) {
            refused("the text '" + text + "'", () -> texted(text), x -> x.piece(0, 0), BAD_STATE);
            refused("the text '" + text + "', an index beyond", () -> texted(text), x -> x.piece(0, MAX), BAD_STATE);
        }
    }

    // ---- Promise 22: type

    @Says(at = "Promise 22", that = "Appends a byte to the text.")
    static void p22Appends() {
        PhrasePool x = one();
        x.clearText();
        x.type('b');
        x.type('a');
        due("at its end", x.addPhrase(0, 1, NONE), 1);
        due("the first", x.word(1, 0), 1);
        due("the second", x.word(1, 1), 0);
    }

    @Says(at = "Promise 22", that = "Returns the length of the text then")
    static void p22Length() {
        PhrasePool x = new PhrasePool();
        for (int length = 1; length <= 40; length++) {
            due("type", x.type('a'), length);
        }
        x.clearText();
        due("after clearText()", x.type('a'), 1);
    }

    @Says(at = "Promise 22", that = "BAD_VALUE if code is out of range")
    static void p22BadValue() {
        for (int code = 0; code <= 255; code++) {
            due("type(" + code + ")", new PhrasePool().type(code), 1);
        }
        PhrasePool x = new PhrasePool();
        outOfRange("type", 0, 255, code -> x.type(code));
        due("type(256 + 97)", x.type(256 + 97), BAD_VALUE);
        due("type(97 - 256)", x.type(97 - 256), BAD_VALUE);
        refused("256", PhrasePoolPromiseEdges::one, y -> y.type(256), BAD_VALUE);
        refused("-1", PhrasePoolPromiseEdges::one, y -> y.type(-1), BAD_VALUE);
        refused("before that it is full", PhrasePoolPromiseEdges::full, y -> y.type(256), BAD_VALUE);
        refused("before that it is full, below 0", PhrasePoolPromiseEdges::full, y -> y.type(-1), BAD_VALUE);
    }

    @Says(at = "Promise 22", that = "FULL if the text has 40 bytes")
    static void p22Full() {
        PhrasePool x = pool(1);
        write(x, "                                       ");
        due("with 39", x.type('a'), 40);
        due("with 40", x.type('b'), FULL);
        due("the text is as it was", x.addPhrase(0, 1, NONE), 0);
        due("its words", x.phrase(0, 1), 1);
        due("its word", x.word(0, 0), 0);
        refused("a letter", PhrasePoolPromiseEdges::full, y -> y.type('a'), FULL);
        refused("a zero", PhrasePoolPromiseEdges::full, y -> y.type(0), FULL);
        refused("255", PhrasePoolPromiseEdges::full, y -> y.type(255), FULL);
    }

    // ---- Promise 23: clearText

    @Says(at = "Promise 23", that = "Empties the text.")
    static void p23Empties() {
        PhrasePool x = full();
        x.clearText();
        due("the length", x.count(13), 0);
        due("the fault", x.textFault(), 0);
        x.type(' ');
        due("nothing is left of it", x.textFault(), 1);
    }

    @Says(at = "Promise 23", that = "Returns the length that it had.")
    static void p23Length() {
        PhrasePool x = new PhrasePool();
        due("nothing", x.clearText(), 0);
        x.type(0);
        due("one byte", x.clearText(), 1);
        due("nothing again", x.clearText(), 0);
        due("forty", full().clearText(), 40);
        due("with a fault", texted("a1a1").clearText(), 4);
    }

    // ---- Promise 24: textFault

    @Says(at = "Promise 24", that = "Returns the fault")
    static void p24Fault() {
        due("of no text", new PhrasePool().textFault(), 0);
        due("at the first index", texted("1").textFault(), 0);
        due("the eleventh letter", texted("aaaaaaaaaaa").textFault(), 10);
        due("at the last index", texted("                                       1").textFault(), 39);
        due("the length", texted("                                        ").textFault(), 40);
    }

    @Says(at = "Promise 24", that = "NONE if there is none")
    static void p24None() {
        due("one letter", texted("a").textFault(), NONE);
        due("ten letters", texted("zzzzzzzzzz").textFault(), NONE);
        due("forty bytes", full().textFault(), NONE);
        due("ten letters at the end", texted("                              aaaaaaaaaa").textFault(), NONE);
    }

    // ---- Promise 25: undo

    @Says(at = "Promise 25", that = "Removes and restores the latest state of the history.")
    static void p25Restores() {
        PhrasePool x = full();
        long before = x.digest();
        x.retract(0);
        x.undo();
        due("the retraction of all", x.digest(), before);
        PhrasePool fresh = new PhrasePool();
        long nothing = fresh.digest();
        fresh.addMember();
        fresh.undo();
        due("the first state of all", fresh.digest(), nothing);
        due("no member is left", fresh.member(0, 0), BAD_INDEX);
    }

    @Says(at = "Promise 25", that = "Returns the number of states that are left in it")
    static void p25Left() {
        PhrasePool x = new PhrasePool();
        x.pass(1);
        due("none", x.undo(), 0);
        for (int call = 0; call < 5; call++) {
            x.pass(1);
        }
        for (int left = 3; left >= 0; left--) {
            due("left", x.undo(), left);
        }
    }

    @Says(at = "Promise 25", that = "BAD_STATE if it is empty")
    static void p25Empty() {
        refused("when new", PhrasePool::new, x -> x.undo(), BAD_STATE);
        refused("when all is undone", PhrasePoolPromiseEdges::undone, x -> x.undo(), BAD_STATE);
        PhrasePool x = undone();
        for (int time = 0; time < 6; time++) {
            due("time and again", x.undo(), BAD_STATE);
        }
        x.pass(1);
        due("then one", x.undo(), 0);
        due("and none", x.undo(), BAD_STATE);
    }

    // More was recorded than the history keeps, and all that it keeps is undone.
    private static PhrasePool undone() {
        PhrasePool x = one();
        for (int call = 0; call < 6; call++) {
            x.pass(2);
        }
        for (int left = 0; left < 4; left++) {
            x.undo();
        }
        return x;
    }

    @Says(at = "History, errors", that = "The methods that are said to be recorded record the whole state")
    static void p25NoOtherOnes() {
        notRecorded("count", PhrasePoolPromiseEdges::one, x -> x.count(0));
        notRecorded("member", PhrasePoolPromiseEdges::one, x -> x.member(0, 0));
        notRecorded("phrase", PhrasePoolPromiseEdges::one, x -> x.phrase(0, 0));
        notRecorded("word", PhrasePoolPromiseEdges::one, x -> x.word(0, 0));
        notRecorded("score", PhrasePoolPromiseEdges::one, x -> x.score(0, 0));
        notRecorded("agreed", PhrasePoolPromiseEdges::one, x -> x.agreed());
        notRecorded("match", PhrasePoolPromiseEdges::one, x -> x.match());
        notRecorded("alike", PhrasePoolPromiseEdges::one, x -> x.alike(0));
        notRecorded("fee", PhrasePoolPromiseEdges::one, x -> x.fee(0));
        notRecorded("note", PhrasePoolPromiseEdges::full, x -> x.note(0, 0));
        notRecorded("wouldPayBack", PhrasePoolPromiseEdges::one, x -> x.wouldPayBack(0));
        notRecorded("cheapest", PhrasePoolPromiseEdges::one, x -> x.cheapest(0));
        notRecorded("piece", PhrasePoolPromiseEdges::one, x -> x.piece(0, 0));
        notRecorded("type", PhrasePoolPromiseEdges::one, x -> x.type('a'));
        notRecorded("clearText", PhrasePoolPromiseEdges::one, x -> x.clearText());
        notRecorded("textFault", PhrasePoolPromiseEdges::one, x -> x.textFault());
        notRecorded("digest", PhrasePoolPromiseEdges::one, x -> x.digest() == 0 ? 1 : 0);
    }

    // ---- Promise 26: digest

    @Says(at = "Promise 26", that = "Let h be 61; .. h becomes 31 * h + v (long arithmetic with overflow): count() of 0 to 12")
    static void p26WrapsAround() {
        due("when new", new PhrasePool().digest(), hash(61, 0, 0, 0, 0, 0, 0, 0, 0, 70, 10, 30, 10, 80));
        PhrasePool x = new PhrasePool();
        for (int ticks = 1; ticks <= 100; ticks++) {
            x.pass(ticks);
            due("at tick " + x.count(5), x.digest(), hash(61, 0, 0, 0, 0, 0, x.count(5), 0, 0, 70, 10, 30, 10, 80));
        }
        PhrasePool y = new PhrasePool();
        y.set(0, 1);
        y.set(1, 2);
        y.set(2, 3);
        y.set(3, 4);
        y.set(4, 5);
        due("the settings", y.digest(), hash(61, 0, 0, 0, 0, 0, 0, 0, 0, 1, 2, 3, 4, 5));
        y.type('a');
        due("the length of the text is no part of it", y.digest(), hash(61, 0, 0, 0, 0, 0, 0, 0, 0, 1, 2, 3, 4, 5));
    }

    @Says(at = "Promise 26", that = "for each member its properties 0 to 4; for each phrase its properties 0 to 6, and all words; for each note its properties 0 to 12")
    static void p26WhenAllIsFull() {
        due("all is paid", full().digest(), expected(full(), true));
        PhrasePool x = full();
        x.retract(0);
        due("all is paid back", x.digest(), expected(x, false));
    }

    // What full() is, and what it is after the retraction of the phrase 0.
    private static long expected(PhrasePool x, boolean paid) {
        int p = paid ? 1 : 0;
        long h = hash(61, 6, 20, 20 * p, 24, 24 - 24 * p, 10000, 2400 * p, 190 * p, 70, 50, 30, 10, 80);
        for (int member = 0; member < 4; member++) {
            h = hash(h, 40, 0, 0, 0, 0);
        }
        h = hash(h, 40, -4800 * p, 0, 24, 0);
        h = hash(h, 200, 2400 * p, 20 * p, 0, 2400 * p);
        for (int phrase = 0; phrase < 20; phrase++) {
            int target = phrase == 19 ? 999 : phrase;
            h = hash(h, 5, 10, target, phrase == 0 ? NONE : phrase - 1, p, phrase == 0 ? 24 : 0, 19 * p);
            h = hash(h, 25, 25, 25, 25, 25, 25, 25, 25, 25, 25);
        }
        for (int note = 0; note < 24; note++) {
            h = hash(h, 4, 0, 100, 200, 10000, 1 - p, 100, 0, 0, 0, 0, 0, 100);
        }
        return h;
    }

    @Says(at = "Promise 26", that = "and all words")
    static void p26AllWords() {
        PhrasePool x = poolWith(1, "a", "abcdefghij", "zy");
        long h = hash(61, 1, 3, 3, 0, 0, 0, 0, 0, 70, 10, 30, 10, 80);
        h = hash(h, 40, 0, 3, 0, 0);
        h = hash(h, 0, 1, 1, NONE, 1, 0, 0, 0);
        h = hash(h, 0, 10, 1, NONE, 1, 0, 0, 0, 1, 2, 3, 4, 5, 6, 7, 8, 9);
        h = hash(h, 0, 2, 1, NONE, 1, 0, 0, 25, 24);
        due("one, ten and two", x.digest(), h);
    }
}
