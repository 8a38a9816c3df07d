import java.lang.reflect.Method;
import java.nio.file.Files;
import java.nio.file.Path;
import java.util.ArrayList;
import java.util.List;
import java.util.regex.Matcher;
import java.util.regex.Pattern;

/** README.md: its calls answer what stands behind them, and its tables have every call and every refusal as they are. */
public final class ReadmeTest {
    private static final String REFUSALS = "\\b(BAD|NULL|INDEX|NOT|FULL|CAST|STORE|SIZE)\\b";
    private static int told = 0;
    private static int wrong = 0;

    public static void main(String[] args) throws Exception {
        String page = Files.readString(Path.of("README.md"));
        String document = Files.readString(Path.of("../shared/DOC.md"));
        example(page);
        calls(page, document);
        refusals(page, document);
        tests(page);
        System.out.println("ReadmeTest: " + told + " things told, " + wrong + " not as due");
        if (wrong != 0) System.exit(1);
    }

    private static void due(String what, Object got, Object want) {
        told++;
        if (!got.equals(want)) {
            wrong++;
            System.out.println("README.md: " + what + " is " + got + ", due is " + want);
        }
    }

    private static List<String> all(String pattern, String text) {
        List<String> found = new ArrayList<>();
        Matcher m = Pattern.compile(pattern).matcher(text);
        while (m.find()) found.add(m.group(1));
        return found;
    }

    /** Does what the first piece of Java on the page says, line by line. */
    private static void example(String page) throws Exception {
        TrueLedger x = new TrueLedger();
        Pattern typed = Pattern.compile("for \\(char b : \"(.*)\"\\.toCharArray\\(\\)\\) x\\.type\\((\\d), b\\);");
        Pattern asked = Pattern.compile("x\\.(\\w+)\\((.*?)\\); +// (-?\\d+): .*");
        for (String line : page.split("```java\n")[1].split("```")[0].split("\n")) {
            Matcher text = typed.matcher(line);
            Matcher call = asked.matcher(line);
            if (line.isEmpty() || line.equals("TrueLedger x = new TrueLedger();")) continue;
            if (text.matches()) {
                Due.text(x, Integer.parseInt(text.group(2)), text.group(1));
            } else if (call.matches()) {
                due(call.group(1) + "(" + call.group(2) + ")", answer(x, call.group(1), call.group(2)), call.group(3));
            } else {
                due("a line of the example", line, "a call with its answer");
            }
        }
    }

    private static String answer(TrueLedger x, String name, String arguments) throws Exception {
        String[] words = arguments.isEmpty() ? new String[0] : arguments.split(", ");
        Object[] values = new Object[words.length];
        for (int i = 0; i < words.length; i++) values[i] = Integer.valueOf(words[i]);
        for (Method m : TrueLedger.class.getMethods()) {
            if (m.getName().equals(name) && m.getParameterCount() == values.length) return m.invoke(x, values).toString();
        }
        return "no call of the class";
    }

    /** Every call of the document, in its order, with its refusals in theirs. */
    private static void calls(String page, String document) {
        List<String> face = all("\n    public (?:int|long) (\\w+\\(.*\\));", document.replaceAll("(?<=[(, ])(int|boolean) (?=\\w+[,)])", ""));
        due("the column of calls", all("\n\\| `(.*?)` \\|", page), face);
        List<String> refused = all("\n\\| `.*?` \\| .* \\|(.*)\\|", page);
        for (int i = 0; i < refused.size() && i < face.size(); i++) {
            String promise = document.split("\n## Promise " + (i + 2) + ":")[1].split("\n## ")[0];
            String other = refused.get(i).trim();
            if (other.equals("-1000") || other.equals("the least int")) {
                due("what refuses " + face.get(i), promise.contains("BAD: " + other), true);
            } else {
                due("refusals of " + face.get(i), all(REFUSALS, other), all(REFUSALS, promise));
            }
        }
    }

    private static void refusals(String page, String document) throws Exception {
        List<String> names = all("\n\\| -\\d+ \\| (\\w+) \\|", page);
        List<String> numbers = all("\n\\| (-\\d+) \\| \\w+ \\|", page);
        due("the column of names", names, List.of("BAD", "NOT", "FULL", "NULL", "INDEX", "CAST", "STORE", "SIZE"));
        for (int i = 0; i < names.size(); i++) {
            int number = Integer.parseInt(numbers.get(i));
            if (i < 3) {
                due(names.get(i), number, TrueLedger.class.getField(names.get(i)).get(null));
            } else {
                due("the document has FINDING " + names.get(i), document.contains(" " + (-10 - number) + " " + names.get(i) + ": "), true);
            }
        }
    }

    /** Every test that .ci/run runs is told of. */
    private static void tests(String page) throws Exception {
        try (var files = Files.list(Path.of("src/test/java"))) {
            for (Path file : files.toList()) {
                String name = file.getFileName().toString().replace(".java", "");
                if (name.endsWith("Test")) due(name + " is told of", page.contains("`" + name + "`"), true);
            }
        }
    }
}
