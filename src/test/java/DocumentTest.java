import java.io.IOException;
import java.lang.reflect.Method;
import java.lang.reflect.Modifier;
import java.nio.file.Files;
import java.nio.file.Path;
import java.util.ArrayList;
import java.util.Arrays;
import java.util.Collections;
import java.util.HashMap;
import java.util.List;
import java.util.Map;
import java.util.regex.Matcher;
import java.util.regex.Pattern;

/** The document from its first line on: its face is the class's, and each of its sentences is named by a test. */
public final class DocumentTest {
    private static final String[] NAMING = {"EdgesOfTextsTest", "EdgesOfTellingTest", "EdgesOfHoursTest", "EdgesOfPlansTest", "EdgesOfFeltTest",
        "EdgesOfSheetsTest", "SentencesTest"};
    private static final Pattern SAYS = Pattern.compile("Edge\\.says\\((\\d+), (?:\"([^\"]*)\"|([A-Z_]+)), ");
    private static final Pattern CONSTANT = Pattern.compile("String ([A-Z_]+) = (\"[^\"]*\"(?:\\s*\\+ \"[^\"]*\")*);");

    public static void main(String[] args) throws IOException {
        Path root = Path.of(args.length > 0 ? args[0] : ".");
        Path path = root.resolve("../shared/DOC.md");
        if (!Files.exists(path)) {
            System.out.println("the document is not there: it is not gone through");
            Due.end();
            return;
        }
        String document = Files.readString(path);
        String source = Files.readString(root.resolve("src/main/java/SharedPockets.java"));
        sameFace(document);
        sameSections(document, source);
        everySentence(document, root);
        Due.end();
    }

    private static void sameFace(String document) {
        List<String> want = new ArrayList<>();
        Matcher said = Pattern.compile("(?m)^    public (int|long) ([a-z]+)\\(([^)]*)\\);$").matcher(document);
        while (said.find()) {
            String types = said.group(3).replaceAll("int [a-z]+", "int");
            want.add(said.group(1) + " " + said.group(2) + "(" + types + ")");
            Due.is("the document promises " + said.group(2), document.contains("`" + said.group(1) + " " + said.group(2) + "(" + said.group(3) + ")`: ") ? 1 : 0, 1);
        }
        List<String> got = new ArrayList<>();
        for (Method m : SharedPockets.class.getDeclaredMethods()) {
            if (Modifier.isPublic(m.getModifiers())) {
                got.add(m.getReturnType() + " " + m.getName() + "(" + String.join(", ", Collections.nCopies(m.getParameterCount(), "int")) + ")");
            }
        }
        Due.is("37 methods and the constructor are 38 promises", want.size(), 37);
        Collections.sort(want);
        Collections.sort(got);
        Due.is("the face is " + got + " in place of " + want, got.equals(want) ? 1 : 0, 1);
        Due.is("the constants", document.contains("public static final int NONE = -1, BAD = -2, NOT = -3, FULL = -4;") ? 1 : 0, 1);
    }

    /** What the interface says ahead of the calls stands in the source ahead of the same calls. */
    private static void sameSections(String document, String source) {
        Matcher said = Pattern.compile("Ahead of the calls ([^\\n]*) the interface says: (---- [a-z, ]+)\\.").matcher(document);
        int at = 0;
        int sections = 0;
        while (said.find()) {
            sections++;
            int head = source.indexOf("    // " + said.group(2) + "\n", at);
            Due.is("'" + said.group(2) + "' behind what is ahead of it", head >= 0 ? 1 : 0, 1);
            at = Math.max(at, head);
            for (String name : said.group(1).replace("`", "").split(", ")) {
                Matcher method = Pattern.compile("    public (?:int|long) " + name + "\\(").matcher(source);
                boolean behind = method.find(at);
                Due.is(name + " behind what is ahead of it", behind ? 1 : 0, 1);
                at = behind ? method.start() : at;
            }
        }
        Due.is("sections", sections, 5);
    }

    private static void everySentence(String document, Path root) throws IOException {
        String body = inOneLine(withoutFrame(document));
        boolean[] isNamed = new boolean[body.length()];
        for (String sentence : named(root)) {
            for (int at = body.indexOf(sentence); at >= 0; at = body.indexOf(sentence, at + 1)) {
                Arrays.fill(isNamed, at, at + sentence.length(), true);
            }
        }
        int from = 0;
        while (from < isNamed.length) {
            int to = from;
            while (to < isNamed.length && !isNamed[to]) {
                to++;
            }
            String left = body.substring(from, to).trim();
            Due.is("no test names '" + left + "'", left.matches(".*[A-Za-z0-9].*") ? 1 : 0, 0);
            from = to;
            while (from < isNamed.length && isNamed[from]) {
                from++;
            }
        }
    }

    /** What promises nothing: the headings, the summary, the face, which is compared above, and what is not promised. */
    private static String withoutFrame(String document) {
        return document
            .replaceAll("(?s)## Not promised.*", "")
            .replaceAll("(?s)## The public face.*?## Terms", "")
            .replaceAll("All their pockets meet: .*? ======== 1 ", "")
            .replaceAll("(?m)^Ahead of the calls .*$", "")
            .replaceAll("(?m)^#+ .*$", "")
            .replaceAll("(?m)^`[^`]*`: ", "")
            .replaceAll("```(text)?", "")
            .replaceAll("======== \\d", "");
    }

    private static List<String> named(Path root) throws IOException {
        List<String> all = new ArrayList<>();
        for (String name : NAMING) {
            String source = Files.readString(root.resolve("src/test/java/" + name + ".java"));
            Map<String, String> constants = new HashMap<>();
            Matcher constant = CONSTANT.matcher(source);
            while (constant.find()) {
                String joined = constant.group(2).replaceAll("\"\\s*\\+ \"", "");
                constants.put(constant.group(1), joined.substring(1, joined.length() - 1));
            }
            Matcher says = SAYS.matcher(source);
            int many = 0;
            while (says.find()) {
                many++;
                String sentence = says.group(2) != null ? says.group(2) : constants.get(says.group(3));
                Due.is(name + " has the words of " + says.group(), sentence != null ? 1 : 0, 1);
                all.add(sentence == null ? "no such words" : inOneLine(sentence));
            }
            Due.is(name + " names some", many > 0 ? 1 : 0, 1);
        }
        return all;
    }

    private static String inOneLine(String text) {
        return text.replaceAll("\\s+", " ").trim();
    }
}
