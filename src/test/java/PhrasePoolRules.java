import java.io.IOException;
import java.lang.reflect.Constructor;
import java.lang.reflect.Field;
import java.lang.reflect.Method;
import java.lang.reflect.Modifier;
import java.nio.file.Files;
import java.nio.file.Path;
import java.util.ArrayList;
import java.util.Arrays;
import java.util.HashSet;
import java.util.List;
import java.util.Set;
import java.util.TreeSet;
import java.util.regex.Pattern;

// The face of the document, and those rules of ../shared/LANGUAGE.md that a program can look for.
public final class PhrasePoolRules {
    private static final Path SOURCE = Path.of("src/main/java/PhrasePool.java");
    private static final String[] FACE = {
        "int addMember()", "int setPrice(int, int)", "int set(int, int)", "int count(int)", "int member(int, int)",
        "int addPhrase(int, int, int)", "int phrase(int, int)", "int word(int, int)", "int score(int, int)",
        "int agreed()", "int match()", "int alike(int)", "int fee(int)", "int use(int)", "int note(int, int)",
        "int retract(int)", "int wouldPayBack(int)", "int pass(int)", "int cheapest(int)", "int piece(int, int)",
        "int type(int)", "int clearText()", "int textFault()", "int undo()", "long digest()"};
    private static final String[] CONSTANTS = {"NONE", "BAD_INDEX", "BAD_VALUE", "BAD_STATE", "FULL"};
    private static final String[] UNWANTED = {
        "\\b(throw|throws|try|catch|finally|synchronized|assert|package)\\b",
        "\\bimport\\s+(?!java\\.util\\.(ArrayList|List|Arrays|Iterator)\\s*;)",
        "->", "::", "\\b(System\\.(?!arraycopy)|Thread|Random|Math\\.\\w+Exact)\\b", "@(?!Override\\b)"};
    // A switch may be written with arrows; every other arrow is that of a lambda.
    private static final String ARROW_OF_CASE = "\\b(case\\b[^;{}]*?|default\\s*)->";
    // What a call answers can't have been looked at before it is used as an index, or as a length.
    private static final String INDEX_BY_CALL = "\\[[^\\[\\]]*\\w\\(";

    private static int wrong = 0;

    public static void main(String[] args) throws IOException {
        face();
        constants();
        classes();
        names();
        source();
        if (wrong != 0) {
            System.exit(1);
        }
        System.out.println("the face and the rules are kept");
    }

    private static void demand(boolean holds, String what) {
        if (!holds) {
            wrong++;
            System.out.println("not kept: " + what);
        }
    }

    private static void face() {
        Class<?> c = PhrasePool.class;
        demand(c.getModifiers() == (Modifier.PUBLIC | Modifier.FINAL), "public and final");
        Set<String> got = new TreeSet<>();
        for (Method m : c.getDeclaredMethods()) {
            if (!Modifier.isPrivate(m.getModifiers())) {
                demand(m.getModifiers() == Modifier.PUBLIC, "public alone: " + m);
                String parameters = Arrays.toString(Arrays.stream(m.getParameterTypes()).map(Class::getName).toArray());
                got.add(m.getReturnType() + " " + m.getName() + "(" + parameters.substring(1, parameters.length() - 1) + ")");
            }
        }
        demand(got.equals(new TreeSet<>(Arrays.asList(FACE))), "the methods of the document: " + got);
        Constructor<?>[] made = c.getDeclaredConstructors();
        demand(made.length == 1 && made[0].getParameterCount() == 0 && Modifier.isPublic(made[0].getModifiers()),
            "one public constructor");
    }

    private static void constants() {
        Set<String> got = new HashSet<>();
        for (Field f : PhrasePool.class.getDeclaredFields()) {
            if (!Modifier.isPrivate(f.getModifiers())) {
                demand(f.getModifiers() == (Modifier.PUBLIC | Modifier.STATIC | Modifier.FINAL) && f.getType() == int.class,
                    "public static final int: " + f);
                got.add(f.getName());
            }
        }
        demand(got.equals(new HashSet<>(Arrays.asList(CONSTANTS))), "the constants of the document: " + got);
    }

    private static List<Class<?>> allClasses() {
        List<Class<?>> all = new ArrayList<>();
        all.add(PhrasePool.class);
        for (int i = 0; i < all.size(); i++) {
            all.addAll(Arrays.asList(all.get(i).getDeclaredClasses()));
        }
        return all;
    }

    private static void classes() {
        demand(allClasses().size() <= 12, "some twelve classes");
        for (Class<?> c : allClasses()) {
            if (c != PhrasePool.class) {
                demand(Modifier.isStatic(c.getModifiers()), "static: " + c);
                demand(!Modifier.isPublic(c.getModifiers()) && !Modifier.isProtected(c.getModifiers()), "not for others: " + c);
            }
            int fields = 0;
            for (Field f : c.getDeclaredFields()) {
                demand(!Modifier.isStatic(f.getModifiers()) || Modifier.isFinal(f.getModifiers()), "static is final: " + f);
                fields += Modifier.isStatic(f.getModifiers()) ? 0 : 1;
            }
            demand(fields <= 20, "some twenty fields: " + c);
        }
    }

    private static void names() {
        Set<String> ofFace = new HashSet<>();
        for (String method : FACE) {
            ofFace.add(method.substring(method.indexOf(' ') + 1, method.indexOf('(')));
        }
        for (Class<?> c : allClasses()) {
            for (Method m : c.getDeclaredMethods()) {
                boolean hidden = Modifier.isPrivate(m.getModifiers());
                demand(!hidden || !ofFace.contains(m.getName()), "no private method bears the name of a public one: " + m);
                demand(m.getParameterCount() <= 7, "at most seven parameters: " + m);
            }
        }
    }

    private static void source() throws IOException {
        String code = Files.readString(SOURCE).replaceAll("(?s)/\\*.*?\\*/", "").replaceAll("//[^\n]*", "");
        code = code.replaceAll(ARROW_OF_CASE, " ");
        for (String unwanted : UNWANTED) {
            demand(!Pattern.compile(unwanted).matcher(code).find(), "the source has " + unwanted);
        }
        demand(!Pattern.compile("\\b(equals|hashCode|toString)\\s*\\([^()]*\\)\\s*\\{").matcher(code).find(),
            "no equals, hashCode or toString of its own");
        demand(!Pattern.compile(INDEX_BY_CALL).matcher(code).find(), "each index is looked at before it is used");
        demand(code.chars().allMatch(sign -> sign < 128), "plain signs alone");
    }
}
