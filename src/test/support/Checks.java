import java.lang.annotation.ElementType;
import java.lang.annotation.Retention;
import java.lang.annotation.RetentionPolicy;
import java.lang.annotation.Target;
import java.lang.reflect.InvocationTargetException;
import java.lang.reflect.Method;
import java.math.BigInteger;
import java.util.ArrayList;
import java.util.Comparator;
import java.util.List;
import java.util.function.IntToLongFunction;
import java.util.function.Supplier;
import java.util.function.ToLongFunction;

/**
 * What the tests of single sentences share: how they are named and run, and how they ask. They extend it, as
 * the names of a class without a package can't be imported.
 */
abstract class Checks {
    /** Names a test: where in ../shared/DOC.md the sentence stands, and what it says. */
    @Retention(RetentionPolicy.RUNTIME)
    @Target(ElementType.METHOD)
    @interface Says {
        String at();

        String that();
    }

    // As the document says them; those of the class could be wrong.
    static final int NONE = -1000000;
    static final int BAD_INDEX = -1000001;
    static final int BAD_VALUE = -1000002;
    static final int BAD_STATE = -1000003;
    static final int FULL = -1000004;

    static final int MIN = Integer.MIN_VALUE;
    static final int MAX = Integer.MAX_VALUE;

    private static String running = "";
    private static int asked = 0;
    private static int wrong = 0;

    /** Runs each method of a class that bears a sentence, and ends with exit code 1 if an answer was wrong. */
    static void run(Class<?> tests) {
        List<Method> methods = new ArrayList<>();
        for (Method method : tests.getDeclaredMethods()) {
            if (method.isAnnotationPresent(Says.class)) {
                methods.add(method);
            }
        }
        methods.sort(Comparator.comparing(Method::getName));
        for (Method method : methods) {
            runOne(method);
        }
        System.out.println(methods.size() + " sentences, " + asked + " answers, " + wrong + " wrong");
        if (wrong != 0 || methods.isEmpty()) {
            System.exit(1);
        }
    }

    private static void runOne(Method method) {
        Says says = method.getAnnotation(Says.class);
        running = says.at() + ": '" + says.that() + "' (" + method.getName() + ")";
        int before = asked;
        try {
            method.setAccessible(true);
            method.invoke(null);
        } catch (InvocationTargetException thrown) {
            fail("threw " + thrown.getCause());
        } catch (IllegalAccessException shut) {
            fail("could not be called: " + shut);
        }
        if (asked == before) {
            fail("asked nothing");
        }
    }

    private static void fail(String how) {
        wrong++;
        System.out.println(running + ": " + how);
    }

    static void due(String call, long got, long want) {
        asked++;
        if (got != want) {
            fail(call + " answered " + got + ", due is " + want);
        }
    }

    /** Each number from 0 to size - 1 is there, and no other one is. */
    static void numbered(String call, int size, IntToLongFunction answer) {
        for (int index = 0; index < size; index++) {
            asked++;
            if (answer.applyAsLong(index) == BAD_INDEX) {
                fail(call + " answered BAD_INDEX for " + index + " of " + size);
            }
        }
        for (int index : new int[] {-1, size, size + 1, MIN, MIN + 1, MAX, MAX - 1, NONE, NONE - 1, 1 << 16, 1 << 30}) {
            due(call + " for " + index + " of " + size, answer.applyAsLong(index), BAD_INDEX);
        }
    }

    /** Each value from least to most is in the range, and no other one is. */
    static void ranged(String call, int least, int most, IntToLongFunction answer) {
        for (int value = least; value <= most; value++) {
            asked++;
            if (answer.applyAsLong(value) == BAD_VALUE) {
                fail(call + " answered BAD_VALUE for " + value);
            }
        }
        outOfRange(call, least, most, answer);
    }

    static void outOfRange(String call, int least, int most, IntToLongFunction answer) {
        for (int value : new int[] {least - 1, least - 2, most + 1, most + 2, MIN, MIN + 1, MAX, MAX - 1, NONE, 1 << 16, 1 << 30}) {
            due(call + " for " + value, answer.applyAsLong(value), BAD_VALUE);
        }
    }

    // ---- pools

    static PhrasePool pool(int members) {
        PhrasePool x = new PhrasePool();
        for (int member = 0; member < members; member++) {
            x.addMember();
        }
        return x;
    }

    /** A pool with phrases of the first member, one of each sentence. */
    static PhrasePool poolWith(int members, String... sentences) {
        PhrasePool x = pool(members);
        for (String sentence : sentences) {
            add(x, 0, sentence, 1, NONE);
        }
        return x;
    }

    static void write(PhrasePool x, String text) {
        x.clearText();
        for (int i = 0; i < text.length(); i++) {
            x.type(text.charAt(i));
        }
    }

    static int add(PhrasePool x, int member, String sentence, int target, int parent) {
        write(x, sentence);
        return x.addPhrase(member, target, parent);
    }

    static void passTo(PhrasePool x, int tick) {
        int left = tick - x.count(5);
        while (left > 0) {
            x.pass(Math.min(100, left));
            left -= 100;
        }
    }

    static int moneyOf(PhrasePool x) {
        int all = x.count(6);
        for (int member = 0; member < x.count(0); member++) {
            all += x.member(member, 1);
        }
        return all;
    }

    // ---- comparing

    /** What can be seen of two pools is the same, their texts and histories too; both are spent by it. */
    static void same(String after, PhrasePool x, PhrasePool twin) {
        sameNow(after, x, twin);
        for (int undone = 1; undone <= 5; undone++) {
            due(after + ": undo " + undone, x.undo(), twin.undo());
            due(after + ": digest() after undo " + undone, x.digest(), twin.digest());
        }
    }

    static void sameNow(String after, PhrasePool x, PhrasePool twin) {
        due(after + ": digest()", x.digest(), twin.digest());
        due(after + ": count(13)", x.count(13), twin.count(13));
        due(after + ": textFault()", x.textFault(), twin.textFault());
        for (int phrase = 0; phrase < twin.count(1); phrase++) {
            due(after + ": alike(" + phrase + ")", x.alike(phrase), twin.alike(phrase));
        }
    }

    /** The call answers with an error, and changes nothing. */
    static void refused(String call, Supplier<PhrasePool> built, ToLongFunction<PhrasePool> answer, int error) {
        PhrasePool x = built.get();
        due(call, answer.applyAsLong(x), error);
        same(call, x, built.get());
    }

    /** The call is recorded: one undo() takes it back, whole, and leaves the states that were there before. */
    static void recorded(String call, Supplier<PhrasePool> built, ToLongFunction<PhrasePool> answer) {
        PhrasePool x = built.get();
        PhrasePool twin = built.get();
        int states = statesOf(built.get());
        due(call + " answers no error", answer.applyAsLong(x) >= NONE ? 0 : 1, 0);
        due(call + ", then undo()", x.undo(), Math.min(states, 3));
        sameNow(call + ", then undo()", x, twin);
        for (int left = Math.min(states, 3) - 1; left >= 0; left--) {
            due(call + ", then undo() to " + left, x.undo(), left);
            twin.undo();
            due(call + ", digest() at " + left, x.digest(), twin.digest());
        }
        due(call + ", then undo() of nothing", x.undo(), BAD_STATE);
    }

    /** The call is not recorded: the history is as without it. */
    static void notRecorded(String call, Supplier<PhrasePool> built, ToLongFunction<PhrasePool> answer) {
        PhrasePool x = built.get();
        PhrasePool twin = built.get();
        due(call + " answers no error", answer.applyAsLong(x) >= NONE ? 0 : 1, 0);
        for (int undone = 1; undone <= 5; undone++) {
            due(call + ", then undo " + undone, x.undo(), twin.undo());
            due(call + ", digest() after undo " + undone, x.digest(), twin.digest());
        }
    }

    private static int statesOf(PhrasePool x) {
        int states = 0;
        while (x.undo() >= 0) {
            states++;
        }
        return states;
    }

    // ---- the digest, with numbers that have no bounds

    static long hash(long start, int... values) {
        BigInteger h = BigInteger.valueOf(start);
        for (int v : values) {
            h = h.multiply(BigInteger.valueOf(31)).add(BigInteger.valueOf(v));
        }
        return h.longValue();
    }
}
