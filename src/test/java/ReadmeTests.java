import java.lang.reflect.Method;
import java.lang.reflect.Modifier;
import java.nio.file.Files;
import java.nio.file.Path;
import java.util.regex.Matcher;
import java.util.regex.Pattern;

/** What README.md says of the calls is asked of the class, so that it can't grow untrue. */
public final class ReadmeTests {
    private static final Pattern EXAMPLE = Pattern.compile("(?m)^x\\.(\\w+)\\(([^)]*)\\); *// ([A-Z]+|-?\\d+)(:.*)?$");
    private static int wrong = 0;

    public static void main(String[] args) throws Exception {
        String text = Files.readString(Path.of("README.md"));
        examples(text);
        table(text);
        System.out.println(wrong == 0 ? "README.md tells the truth" : wrong + " things in README.md are not so");
        if (wrong != 0) {
            System.exit(1);
        }
    }

    private static void must(boolean holds, String what) {
        if (!holds) {
            wrong++;
            System.out.println("README.md: " + what);
        }
    }

    private static void examples(String text) throws Exception {
        SlidTokens x = new SlidTokens();
        int asked = 0;
        Matcher example = EXAMPLE.matcher(text);
        while (example.find()) {
            long got = ask(x, example.group(1), example.group(2));
            must(got == number(example.group(3)), example.group() + " -- answered " + got);
            asked++;
        }
        int written = text.split("\nx\\.", -1).length - 1;
        must(asked > 0 && asked == written, written + " calls are written, " + asked + " have an answer behind them");
    }

    private static long ask(SlidTokens x, String name, String given) throws Exception {
        String[] words = given.isBlank() ? new String[0] : given.split(", *");
        Object[] numbers = new Object[words.length];
        Class<?>[] types = new Class<?>[words.length];
        for (int i = 0; i < words.length; i++) {
            numbers[i] = Integer.valueOf(words[i]);
            types[i] = int.class;
        }
        return ((Number) SlidTokens.class.getMethod(name, types).invoke(x, numbers)).longValue();
    }

    private static long number(String word) throws Exception {
        boolean named = Character.isLetter(word.charAt(0));
        return named ? SlidTokens.class.getField(word).getInt(null) : Long.parseLong(word);
    }

    private static void table(String text) {
        for (Method m : SlidTokens.class.getDeclaredMethods()) {
            if (Modifier.isPublic(m.getModifiers())) {
                Matcher row = Pattern.compile("(?m)^\\| `" + m.getName() + "\\(([^)]*)\\)` \\|").matcher(text);
                boolean told = row.find();
                must(told, "no row for " + m.getName());
                int count = !told || row.group(1).isEmpty() ? 0 : row.group(1).split(",").length;
                must(count == m.getParameterCount(), m.getName() + " takes " + m.getParameterCount());
            }
        }
    }
}
