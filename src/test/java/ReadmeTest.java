import java.io.IOException;
import java.lang.reflect.Method;
import java.nio.file.Files;
import java.nio.file.Path;
import java.util.ArrayList;
import java.util.Arrays;
import java.util.List;
import java.util.regex.Matcher;
import java.util.regex.Pattern;

/** README.md tells the truth: its examples answer what stands behind them, its tables tell the document's calls. */
public final class ReadmeTest {
    private static final Pattern FACE = Pattern.compile("\\n    public (?:int|long) (\\w+\\([^)]*\\));");
    private static final Pattern ROW = Pattern.compile("\\n\\| (\\d+) \\| `(\\w+\\([^)]*\\))` \\|[^|\\n]*\\|([^|\\n]*)\\|");
    private static final Pattern REFUSAL = Pattern.compile("-[12346](?!\\d)");

    private static final String NEW = "TwinTreeVolume x = new TwinTreeVolume();";
    private static final Pattern TEXT = Pattern.compile("for \\(char c : \"([^\"]*)\"\\.toCharArray\\(\\)\\) \\{");
    private static final String LETTER = "    x.letter(c);";
    private static final Pattern CALL = Pattern.compile("x\\.(\\w+)\\(([^)]*)\\);\\s+// (-?\\d+)(:.*|,.*)?");

    private ReadmeTest() {
    }

    public static void main(String[] args) throws Exception {
        String readme = Files.readString(Path.of("README.md"));
        String document = Files.readString(Path.of("../shared/DOC.md"));
        calls(readme, document);
        examples(readme);
        tests(readme);
        Checks.end();
    }

    /** Each call of the face, in the document's order, with its arguments and its refusals in their order. */
    private static void calls(String readme, String document) {
        List<String> face = new ArrayList<>();
        Matcher head = FACE.matcher(document);
        while (head.find()) {
            face.add(head.group(1).replace("int ", ""));
        }
        Matcher row = ROW.matcher(readme);
        int at = 0;
        while (row.find()) {
            int promise = Integer.parseInt(row.group(1));
            Checks.due("promise of " + row.group(2), promise, at + 2);
            Checks.holds(row.group(2) + " is the document's", at < face.size() && face.get(at).equals(row.group(2)));
            String told = refusals(row.group(3));
            Checks.holds(row.group(2) + " is refused with " + told, told.equals(refusals(words(document, promise))));
            at++;
        }
        Checks.due("calls told", at, face.size());
    }

    /** What a promise says behind its own line of the face; the counts of refusals in it are none. */
    private static String words(String document, int promise) {
        int begin = document.indexOf("`: ", document.indexOf("## Promise " + promise + ":"));
        int end = document.indexOf("\n## ", begin);
        return document.substring(begin, end).replace("REFUSALS -1 .. -6", "");
    }

    private static String refusals(String words) {
        StringBuilder numbers = new StringBuilder();
        Matcher m = REFUSAL.matcher(words);
        while (m.find()) {
            numbers.append(m.group());
        }
        return numbers.toString();
    }

    private static void examples(String readme) throws Exception {
        int begin = readme.indexOf("```java\n");
        int examples = 0;
        while (begin >= 0) {
            int end = readme.indexOf("```", begin + 8);
            example(readme.substring(begin + 8, end));
            examples++;
            begin = readme.indexOf("```java\n", end);
        }
        Checks.holds("some examples", examples >= 4);
    }

    private static void example(String code) throws Exception {
        TwinTreeVolume x = new TwinTreeVolume();
        String letters = "";
        for (String line : code.split("\n")) {
            Matcher text = TEXT.matcher(line);
            Matcher call = CALL.matcher(line);
            if (line.equals(NEW)) {
                x = new TwinTreeVolume();
            } else if (text.matches()) {
                letters = text.group(1);
            } else if (line.equals(LETTER)) {
                for (char c : letters.toCharArray()) {
                    x.letter(c);
                }
            } else if (call.matches()) {
                Checks.due("README: " + line, answer(x, call.group(1), call.group(2)), Long.parseLong(call.group(3)));
            } else {
                Checks.holds("README: a line that can be played: " + line, line.equals("}"));
            }
        }
    }

    private static long answer(TwinTreeVolume x, String name, String inside) throws Exception {
        String[] words = inside.isEmpty() ? new String[0] : inside.split(", ");
        Class<?>[] types = new Class<?>[words.length];
        Object[] arguments = new Object[words.length];
        Arrays.fill(types, int.class);
        for (int i = 0; i < words.length; i++) {
            arguments[i] = Integer.parseInt(words[i]);
        }
        Method method = TwinTreeVolume.class.getMethod(name, types);
        return ((Number) method.invoke(x, arguments)).longValue();
    }

    /** How the tests are run, and each of them. */
    private static void tests(String readme) throws IOException {
        Checks.holds("README tells the command", readme.contains("\n```sh\n.ci/run\n```\n"));
        Checks.holds("the command is there", Files.isExecutable(Path.of(".ci/run")));
        try (var files = Files.list(Path.of("src/test/java"))) {
            for (Path file : files.sorted().toList()) {
                String name = file.getFileName().toString().replace(".java", "");
                Checks.holds("README tells of " + name, readme.contains("`" + name + "`"));
            }
        }
    }
}
