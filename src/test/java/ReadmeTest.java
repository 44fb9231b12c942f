import java.io.IOException;
import java.lang.reflect.Method;
import java.lang.reflect.Modifier;
import java.nio.file.Files;
import java.nio.file.Path;
import java.util.List;
import java.util.TreeSet;
import java.util.regex.Matcher;
import java.util.regex.Pattern;
import java.util.stream.Stream;

/** Each example of README.md is made and gives the answer that stands behind it; each call and each test is in it. */
public final class ReadmeTest {
    private static final Pattern CALL = Pattern.compile("x\\.(\\w+)\\(([^)]*)\\); +// (-?\\d+)(:.*)?");
    private static final Pattern BLOCK = Pattern.compile("(?s)```java\n(.*?)```");
    private static int examples = 0;
    private static int wrong = 0;

    public static void main(String[] args) throws IOException {
        String readme = Files.readString(Path.of("README.md"));
        TreeSet<String> missing = calls();
        Matcher block = BLOCK.matcher(readme);
        while (block.find()) run(List.of(block.group(1).split("\n")), missing);
        if (!missing.isEmpty()) fail("no example of " + missing);
        try (Stream<Path> tests = Files.list(Path.of("src/test/java"))) {
            for (Path test : tests.toList()) {
                String name = test.getFileName().toString().replace(".java", "");
                if (!readme.contains("`" + name + "`")) fail("no word of " + name);
            }
        }
        System.out.println(wrong == 0 ? examples + " examples of README.md hold" : wrong + " lines of README.md do not hold");
        if (wrong != 0) System.exit(1);
    }

    private static TreeSet<String> calls() {
        TreeSet<String> calls = new TreeSet<>();
        for (Method m : LevelBreaks.class.getDeclaredMethods()) if (Modifier.isPublic(m.getModifiers())) calls.add(m.getName());
        return calls;
    }

    /** A block makes its object in the first line; each line behind it is a call with its answer. */
    private static void run(List<String> lines, TreeSet<String> missing) {
        if (!lines.get(0).equals("LevelBreaks x = new LevelBreaks();")) fail(lines.get(0));
        LevelBreaks x = new LevelBreaks();
        for (String line : lines.subList(1, lines.size())) {
            Matcher call = CALL.matcher(line);
            if (!call.matches()) {
                fail(line);
                continue;
            }
            examples++;
            missing.remove(call.group(1));
            long got = Sentences.ask(x, call.group(1) + " " + numbers(call.group(2)));
            if (got != Long.parseLong(call.group(3))) fail(line + "\n    answered " + got);
        }
    }

    /** Arguments as Sentences wants them; a quoted byte is its number. */
    private static String numbers(String arguments) {
        Matcher quoted = Pattern.compile("'(.)'").matcher(arguments.replace(",", ""));
        return quoted.replaceAll(found -> String.valueOf((int) found.group(1).charAt(0)));
    }

    private static void fail(String what) {
        wrong++;
        System.out.println("README.md: " + what);
    }
}
