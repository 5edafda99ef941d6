import java.lang.reflect.Field;
import java.lang.reflect.Method;
import java.lang.reflect.Modifier;
import java.nio.file.Files;
import java.nio.file.Path;
import java.util.ArrayList;
import java.util.Collections;
import java.util.List;
import java.util.Map;
import java.util.Set;
import java.util.TreeMap;
import java.util.TreeSet;
import java.util.regex.Matcher;
import java.util.regex.Pattern;

/** The class's face, and those rules of LANGUAGE.md that can be seen in the source. */
public final class LanguageTest {
    private static final String FACE = """
        int aunt(int), int back(int), int copy(int,int,int,int,int), int count(int), int cousin(int,int),
        int day(int,int,int), int fails(), int fault(int), int feel(int,int), int felt(int,int,int), int forget(),
        int get(int,int,int), int hand(int,int,int,int), int hangs(int), int happy(int), int has(int,int),
        int hole(int,int), int lend(int,int,int,int,int), int load(int), int lose(int), int put(int,int,int,int),
        int read(int), int room(int), int sheet(int,int,int), int sort(int,int), int thief(int), int thing(int,int),
        int type(int,int), int undo(int), int went(int), int when(int,int), int where(int,int), int wipe(int),
        int works(int), int write(int,int), long digest(), long jumps(int,int,int,int)""";

    private static final List<String> FORBIDDEN = List.of("throw", "throws", "try", "catch", "synchronized", "assert", "->", "::",
        "protected", "Exact", "Object", "Random", "System.out", "nanoTime", "currentTimeMillis", "Thread", "hashCode", "toString", "import static");

    public static void main(String[] args) throws Exception {
        face();
        String source = Files.readString(Path.of(args.length > 0 ? args[0] : ".", "src/main/java/SharedPockets.java"));
        words(source);
        methods(source);
        depth(withoutComments(source));
        Due.end();
    }

    private static void face() {
        List<String> got = new ArrayList<>();
        Set<String> publicNames = new TreeSet<>();
        Set<String> otherNames = new TreeSet<>();
        for (Method m : SharedPockets.class.getDeclaredMethods()) {
            if (Modifier.isPrivate(m.getModifiers())) {
                otherNames.add(m.getName());
                continue;
            }
            publicNames.add(m.getName());
            List<String> types = new ArrayList<>();
            for (Class<?> type : m.getParameterTypes()) {
                types.add(type.getName());
            }
            got.add(m.getReturnType().getName() + " " + m.getName() + "(" + String.join(",", types) + ")");
        }
        Collections.sort(got);
        List<String> want = new ArrayList<>(List.of(FACE.split(",\\s+")));
        Collections.sort(want);
        alike("the face's methods", got, want);
        List<String> fields = new ArrayList<>();
        for (Field f : SharedPockets.class.getDeclaredFields()) {
            if (!Modifier.isPrivate(f.getModifiers())) {
                fields.add(Modifier.toString(f.getModifiers()) + " " + f.getType() + " " + f.getName());
            }
        }
        Collections.sort(fields);
        String head = "public static final int ";
        alike("the face's constants", fields, List.of(head + "BAD", head + "FULL", head + "NONE", head + "NOT"));
        int inner = 0;
        for (Class<?> c : SharedPockets.class.getDeclaredClasses()) {
            inner++;
            Due.is(c + " is static", Modifier.isStatic(c.getModifiers()) ? 1 : 0, 1);
            for (Method m : c.getDeclaredMethods()) {
                otherNames.add(m.getName());
            }
            Due.is(c + " has few fields", c.getDeclaredFields().length <= 20 ? 1 : 0, 1);
            for (Field f : c.getDeclaredFields()) {
                Due.is(f + " is no state of a class", Modifier.isStatic(f.getModifiers()) && !Modifier.isFinal(f.getModifiers()) ? 1 : 0, 0);
            }
        }
        Due.is("at most twelve classes", inner + 1 <= 12 ? 1 : 0, 1);
        otherNames.retainAll(publicNames);
        alike("names that other methods share with public ones", new ArrayList<>(otherNames), List.of());
        Due.is("it is final", Modifier.isFinal(SharedPockets.class.getModifiers()) ? 1 : 0, 1);
    }

    private static void alike(String what, List<String> got, List<String> want) {
        if (!got.equals(want)) {
            System.out.println(what + ": " + got + " in place of " + want);
        }
        Due.is(what, got.equals(want) ? 1 : 0, 1);
    }

    private static void words(String source) {
        String bare = withoutComments(source);
        for (String word : FORBIDDEN) {
            String pattern = Character.isLetter(word.charAt(0)) ? "\\b" + Pattern.quote(word) + "\\b" : Pattern.quote(word);
            Due.is("'" + word + "' in the source", Pattern.compile(pattern).matcher(bare).find() ? 1 : 0, 0);
        }
        Matcher imports = Pattern.compile("import ([^;]+);").matcher(bare);
        while (imports.find()) {
            Due.is("import " + imports.group(1), imports.group(1).equals("java.util.Arrays") ? 1 : 0, 1);
        }
        Due.is("no sign beyond 127", source.chars().allMatch(c -> c < 128) ? 1 : 0, 1);
    }

    private static String withoutComments(String source) {
        return source.replaceAll("(?s)/\\*.*?\\*/", "").replaceAll("//[^\n]*", "");
    }

    /** Methods of at most sixty lines and seven parameters. */
    private static void methods(String source) {
        String[] lines = source.split("\n");
        Pattern head = Pattern.compile("^( {4}| {8})(?:(?:public|private|static|final) )*(?:[A-Za-z\\[\\]]+ )?([a-zA-Z]+)\\(([^)]*)\\) \\{$");
        for (int i = 0; i < lines.length; i++) {
            Matcher m = head.matcher(lines[i]);
            if (!m.matches()) {
                continue;
            }
            int end = i;
            while (end < lines.length && !lines[end].equals(m.group(1) + "}")) {
                end++;
            }
            Due.is(m.group(2) + " is short", end - i < 60 ? 1 : 0, 1);
            Due.is(m.group(2) + " has few parameters", m.group(3).split(",").length <= 7 ? 1 : 0, 1);
        }
    }

    /** Calls that are no recursion go at most eight deep (rule 11); methods are told apart by their names. */
    private static void depth(String source) {
        Pattern head = Pattern.compile("(?m)^( {4}| {8})(?:(?:public|private|static|final) )*[A-Za-z\\[\\]]+ ([a-zA-Z]+)\\([^)]*\\) \\{$");
        Map<String, String> bodies = new TreeMap<>();
        Matcher m = head.matcher(source);
        while (m.find()) {
            int end = source.indexOf("\n" + m.group(1) + "}", m.end());
            bodies.merge(m.group(2), source.substring(m.end(), end), String::concat);
        }
        for (String name : bodies.keySet()) {
            List<String> deepest = deepest(name, bodies, new ArrayList<>());
            Due.is("at most eight deep: " + deepest, deepest.size() <= 8 ? 1 : 0, 1);
        }
        Due.is("the deepest is found", deepest("digest", bodies, new ArrayList<>()).size() > 5 ? 1 : 0, 1);
    }

    private static List<String> deepest(String name, Map<String, String> bodies, List<String> open) {
        List<String> begun = new ArrayList<>(open);
        begun.add(name);
        List<String> best = begun;
        Matcher call = Pattern.compile("\\b([a-zA-Z]+)\\(").matcher(bodies.get(name));
        Set<String> called = new TreeSet<>();
        while (call.find()) {
            called.add(call.group(1));
        }
        for (String next : called) {
            if (bodies.containsKey(next) && !begun.contains(next)) {
                List<String> one = deepest(next, bodies, begun);
                best = one.size() > best.size() ? one : best;
            }
        }
        return best;
    }
}
