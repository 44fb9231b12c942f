import java.lang.reflect.Array;
import java.lang.reflect.Constructor;
import java.lang.reflect.Field;
import java.lang.reflect.Method;
import java.lang.reflect.Modifier;
import java.nio.file.Files;
import java.nio.file.Path;
import java.util.ArrayList;
import java.util.HashMap;
import java.util.HashSet;
import java.util.IdentityHashMap;
import java.util.List;
import java.util.Map;
import java.util.Set;
import java.util.TreeSet;
import java.util.regex.Matcher;
import java.util.regex.Pattern;

/** The face is the document's, the source keeps to LANGUAGE.md as far as text and reflection show, the room is small. */
public final class LanguageTest {
    private static final String[] RULED_OUT = {"throw", "throws", "try", "catch", "synchronized", "assert", "volatile",
        "native", "transient", "protected", "Object", "Exact", "double", "float", "System.out", "record ", "yield"};
    private static final Set<String> LIBRARY = Set.of("Math.abs", "Math.max", "Math.min", "Math.floorDiv",
        "Arrays.fill", "System.arraycopy");
    private static int wrong = 0;

    private static void hold(boolean holds, String what) {
        if (!holds) {
            wrong++;
            System.out.println("not so: " + what);
        }
    }

    public static void main(String[] args) throws Exception {
        String document = Files.readString(Path.of(args[0], "DOC.md"));
        String source = Files.readString(Path.of(args[1]));
        face(document);
        classes();
        words(withoutTexts(source));
        methods(withoutTexts(source));
        depth(withoutTexts(source));
        room();
        System.out.println(wrong == 0 ? "the language is kept" : wrong + " rules are broken");
        if (wrong != 0) System.exit(1);
    }

    private static void face(String document) {
        Set<String> due = new TreeSet<>();
        Matcher m = Pattern.compile("public (int|long) (\\w+)\\(([^)]*)\\);").matcher(document);
        while (m.find()) {
            StringBuilder signature = new StringBuilder(m.group(1)).append(' ').append(m.group(2)).append('(');
            for (String p : m.group(3).isEmpty() ? new String[0] : m.group(3).split(", ")) {
                signature.append(p.split(" ")[0]).append(' ');
            }
            due.add(signature.append(')').toString());
        }
        hold(due.size() == 32, "the document has 32 methods");
        Set<String> got = new TreeSet<>();
        Set<String> names = new HashSet<>();
        for (Method method : LevelBreaks.class.getDeclaredMethods()) {
            if (Modifier.isPrivate(method.getModifiers())) continue;
            hold(Modifier.isPublic(method.getModifiers()) && !Modifier.isStatic(method.getModifiers()), method + " is public");
            StringBuilder signature = new StringBuilder(method.getReturnType().getName()).append(' ').append(method.getName()).append('(');
            for (Class<?> p : method.getParameterTypes()) signature.append(p.getName()).append(' ');
            got.add(signature.append(')').toString());
            names.add(method.getName());
        }
        hold(due.equals(got), "the methods are the document's: " + due + " / " + got);
        for (Class<?> c : all()) {
            for (Method method : c.getDeclaredMethods()) {
                hold(c == LevelBreaks.class && Modifier.isPublic(method.getModifiers()) || !names.contains(method.getName()),
                    method + " bears a name of the face");
            }
        }
        Set<String> constants = new TreeSet<>();
        for (Field f : LevelBreaks.class.getDeclaredFields()) {
            if (!Modifier.isPrivate(f.getModifiers())) constants.add(f.getName() + " " + Modifier.toString(f.getModifiers()));
        }
        hold(constants.equals(new TreeSet<>(List.of("NONE public static final", "BAD public static final",
            "NOT public static final", "FULL public static final"))), "the constants are the document's: " + constants);
        hold(LevelBreaks.NONE == -1 && LevelBreaks.BAD == -2 && LevelBreaks.NOT == -3 && LevelBreaks.FULL == -4, "their numbers");
        Constructor<?>[] constructors = LevelBreaks.class.getDeclaredConstructors();
        hold(constructors.length == 1 && Modifier.isPublic(constructors[0].getModifiers())
            && constructors[0].getParameterCount() == 0, "one public constructor");
        hold(Modifier.isFinal(LevelBreaks.class.getModifiers()), "the class is final");
    }

    private static List<Class<?>> all() {
        List<Class<?>> all = new ArrayList<>(List.of(LevelBreaks.class.getDeclaredClasses()));
        all.add(LevelBreaks.class);
        return all;
    }

    private static void classes() {
        hold(all().size() <= 12, "at most twelve classes");
        for (Class<?> c : all()) {
            hold(c == LevelBreaks.class || Modifier.isStatic(c.getModifiers()) && !Modifier.isPublic(c.getModifiers()), c + " is static, not public");
            int fields = 0;
            for (Field f : c.getDeclaredFields()) {
                if (!Modifier.isStatic(f.getModifiers())) fields++;
                else hold(Modifier.isFinal(f.getModifiers()), f + " is final");
            }
            hold(fields <= 20, c + " has at most twenty fields");
            for (Method m : c.getDeclaredMethods()) hold(m.getParameterCount() <= 7, m + " takes at most seven");
        }
    }

    /** Comments and quoted signs are no code. */
    private static String withoutTexts(String source) {
        return source.replaceAll("(?s)/\\*.*?\\*/", " ").replaceAll("//[^\n]*", " ").replaceAll("'[^'\n]+'", "0");
    }

    private static void words(String code) {
        for (String word : RULED_OUT) {
            hold(!Pattern.compile("\\b" + Pattern.quote(word.trim()) + "\\b").matcher(code).find(), "no " + word);
        }
        for (String sign : new String[] {"->", "::", "@", "\"", "static {"}) hold(!code.contains(sign), "no " + sign);
        Matcher imports = Pattern.compile("import ([^;]*);").matcher(code);
        while (imports.find()) hold(imports.group(1).equals("java.util.Arrays"), "import of " + imports.group(1));
        Matcher library = Pattern.compile("\\b(?:Math|Arrays|System|Integer|Long|Character|String|List)\\.\\w+").matcher(code);
        while (library.find()) {
            hold(LIBRARY.contains(library.group()) || library.end() < code.length() && code.charAt(library.end()) == ';',
                library.group() + " is of the library");
        }
        for (String line : code.split("\n")) {
            hold(!line.contains("new ") || line.matches(" +(private )?final .* = .*;"), "made with its object alone: " + line.trim());
        }
    }

    /** Methods stay short: from a head with four or eight blanks ahead to the brace below it. */
    private static void methods(String code) {
        String[] lines = code.split("\n");
        int head = -1;
        for (int n = 0; n < lines.length; n++) {
            if (lines[n].matches("( {4}| {8})[^ ].*\\) \\{") && !lines[n].matches(" *(if|for|while|switch|} else).*")) head = n;
            if (head >= 0 && lines[n].equals(lines[head].replaceAll("[^ ].*", "") + "}")) {
                hold(n - head <= 60, "short: " + lines[head].trim());
                head = -1;
            }
        }
    }

    /** Calls go at most eight deep; none comes back to itself but the one recursion, which has its own guard. */
    private static void depth(String code) {
        Map<String, Set<String>> calls = new HashMap<>();
        Matcher heads = Pattern.compile("(?m)^ {4}(?: {4})?(?:public |private |static |final )*[\\w\\[\\]]+ (\\w+)\\([^)]*\\) \\{$").matcher(code);
        while (heads.find()) {
            String indent = heads.group().replaceAll("(?s)[^ ].*", "");
            String body = code.substring(heads.end(), code.indexOf("\n" + indent + "}", heads.end()));
            Matcher names = Pattern.compile("\\b(\\w+)\\(").matcher(body);
            Set<String> called = calls.computeIfAbsent(heads.group(1), name -> new TreeSet<>());
            while (names.find()) called.add(names.group(1));
        }
        hold(calls.size() > 80, "methods were found: " + calls.size());
        int deepest = 0;
        for (String name : calls.keySet()) {
            if (calls.get(name).remove(name)) hold(name.equals("waysAsFar"), name + " calls itself");
        }
        for (String name : calls.keySet()) deepest = Math.max(deepest, depthOf(name, calls, 0));
        System.out.println(calls.size() + " methods, calls go " + deepest + " deep");
        hold(deepest <= 8, "calls go at most eight deep");
    }

    private static int depthOf(String name, Map<String, Set<String>> calls, int above) {
        if (!calls.containsKey(name)) return above;
        hold(above < 50, name + " comes back to itself");
        int deepest = above + 1;
        for (String called : above < 50 ? calls.get(name) : Set.<String>of()) {
            deepest = Math.max(deepest, depthOf(called, calls, above + 1));
        }
        return deepest;
    }

    /** What one object holds, all told; since no call makes anything, a run needs no more. */
    private static void room() throws Exception {
        long[] counted = {0, 0};
        LevelBreaks x = new LevelBreaks();
        walk(x, new IdentityHashMap<>(), counted);
        System.out.println("an object: " + counted[0] + " objects and arrays, " + counted[1] + " fields and elements");
        hold(counted[0] < 100, "few objects: " + counted[0]);
        hold(counted[1] < 10000, "few fields and elements: " + counted[1]);
    }

    private static void walk(Object o, Map<Object, Boolean> seen, long[] counted) throws Exception {
        if (o == null || seen.put(o, true) != null) return;
        counted[0]++;
        if (o.getClass().isArray()) {
            int n = Array.getLength(o);
            counted[1] += n;
            if (!o.getClass().getComponentType().isPrimitive()) for (int i = 0; i < n; i++) walk(Array.get(o, i), seen, counted);
            return;
        }
        for (Class<?> c = o.getClass(); c != Object.class; c = c.getSuperclass()) {
            for (Field f : c.getDeclaredFields()) {
                if (Modifier.isStatic(f.getModifiers())) continue;
                counted[1]++;
                f.setAccessible(true);
                if (!f.getType().isPrimitive()) walk(f.get(o), seen, counted);
            }
        }
    }
}
