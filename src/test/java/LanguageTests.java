import java.lang.reflect.Field;
import java.lang.reflect.Method;
import java.lang.reflect.Modifier;
import java.nio.file.Files;
import java.nio.file.Path;
import java.util.Set;
import java.util.TreeSet;
import java.util.regex.Matcher;
import java.util.regex.Pattern;

/** The face of the document, and those rules of LANGUAGE.md that can be seen without reading. */
public final class LanguageTests {
    private static final String SOURCE = "src/main/java/SlidTokens.java";
    private static final Set<String> FACE = Set.of(
        "int net(int)", "int join(int,int,int)", "int shape(int)", "int set(int,int)",
        "int lawful(int,int)", "int count(int,int)", "int weight(int,int,int)",
        "int walk(int,int,int,int,int)", "int reach(int,int,int,int)", "int parts(int,int,int)",
        "int proper(int)", "int shades(int,int)", "int heaps(int)", "int told(int)", "long trace()");
    private static final Set<String> CONSTANTS = Set.of("BAD", "STATE", "FULL", "NONE");
    private static int wrong = 0;

    public static void main(String[] args) throws Exception {
        face();
        constants();
        classesInside();
        words();
        randomArgumentsNeverThrow();
        System.out.println(wrong == 0 ? "the face and the rules are kept" : wrong + " rules are broken");
        if (wrong != 0) {
            System.exit(1);
        }
    }

    private static void must(boolean holds, String what) {
        if (!holds) {
            wrong++;
            System.out.println("broken: " + what);
        }
    }

    private static void face() {
        Class<?> c = SlidTokens.class;
        must(Modifier.isFinal(c.getModifiers()) && Modifier.isPublic(c.getModifiers()), "public and final");
        must(c.getDeclaredConstructors().length == 1 && c.getConstructors().length == 1
            && c.getConstructors()[0].getParameterCount() == 0, "one public constructor");
        Set<String> seen = new TreeSet<>();
        for (Method m : c.getDeclaredMethods()) {
            if (Modifier.isPrivate(m.getModifiers()) || m.isSynthetic()) {
                for (String call : FACE) {
                    must(!call.contains(" " + m.getName() + "("), "a private method is named " + m.getName());
                }
                continue;
            }
            must(Modifier.isPublic(m.getModifiers()) && !Modifier.isStatic(m.getModifiers()), "public: " + m);
            StringBuilder call = new StringBuilder(m.getReturnType() + " " + m.getName() + "(");
            for (Class<?> p : m.getParameterTypes()) {
                call.append(call.charAt(call.length() - 1) == '(' ? "" : ",").append(p);
            }
            seen.add(call.append(")").toString());
        }
        must(seen.equals(new TreeSet<>(FACE)), "the methods of the face: " + seen);
    }

    private static void constants() {
        for (Field f : SlidTokens.class.getDeclaredFields()) {
            int m = f.getModifiers();
            boolean ofFace = CONSTANTS.contains(f.getName());
            must(ofFace ? Modifier.isPublic(m) && Modifier.isStatic(m) && Modifier.isFinal(m) && f.getType() == int.class
                : Modifier.isPrivate(m), "the field " + f.getName());
        }
    }

    private static void classesInside() {
        Class<?>[] inside = SlidTokens.class.getDeclaredClasses();
        must(inside.length <= 12, "twelve classes at most");
        for (Class<?> c : inside) {
            must(Modifier.isStatic(c.getModifiers()) && !Modifier.isPublic(c.getModifiers()), "static: " + c.getName());
            for (Field f : c.getDeclaredFields()) {
                must(!Modifier.isStatic(f.getModifiers()) || Modifier.isFinal(f.getModifiers()), "static state: " + f);
            }
        }
    }

    private static void words() throws Exception {
        String text = Files.readString(Path.of(SOURCE));
        String code = text.replaceAll("(?s)/\\*.*?\\*/", " ").replaceAll("//[^\n]*", " ");
        Matcher ruled = Pattern.compile("\\b(throw|throws|try|catch|finally|synchronized|assert|package|protected"
            + "|System|Random|Thread|volatile|native|Object|equals|hashCode|toString|while)\\b|->|::|@").matcher(code);
        while (ruled.find()) {
            must(false, "the word " + ruled.group());
        }
        Matcher imported = Pattern.compile("import ([^;]*);").matcher(code);
        while (imported.find()) {
            must(imported.group(1).equals("java.util.Arrays"), "import " + imported.group(1));
        }
    }

    /** Any arguments in any state: what is thrown ends this test with a trace of its own. */
    private static void randomArgumentsNeverThrow() throws Exception {
        java.util.Random r = new java.util.Random(7);
        Method[] calls = SlidTokens.class.getDeclaredMethods();
        java.util.Arrays.sort(calls, java.util.Comparator.comparing(Method::getName));
        int[] edges = {Integer.MIN_VALUE, Integer.MAX_VALUE, -9, -1, 0, 1, 2, 3, 4, 6, 7, 9, 10, 31, 32, 511, 512, 4095, 4096};
        for (int run = 0; run < 100; run++) {
            SlidTokens x = new SlidTokens();
            for (int i = 0; i < 512; i++) {
                Method m = calls[r.nextInt(calls.length)];
                if (!Modifier.isPublic(m.getModifiers())) {
                    continue;
                }
                Object[] given = new Object[m.getParameterCount()];
                for (int a = 0; a < given.length; a++) {
                    int kind = r.nextInt(4);
                    given[a] = kind == 0 ? edges[r.nextInt(edges.length)] : kind == 1 ? r.nextInt(512) : r.nextInt(4);
                }
                m.invoke(x, given);
            }
        }
    }
}
