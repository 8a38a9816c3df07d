import java.lang.reflect.Constructor;
import java.lang.reflect.Field;
import java.lang.reflect.Method;
import java.lang.reflect.Modifier;
import java.nio.file.Files;
import java.nio.file.Path;
import java.util.ArrayList;
import java.util.Arrays;
import java.util.List;
import java.util.Set;
import java.util.TreeSet;
import java.util.regex.Matcher;
import java.util.regex.Pattern;

/** The public face, as the document has it, and those rules of LANGUAGE.md that can be read off the class and its text. */
public final class FaceTest {
    private static final String[] WORDS = {"throw", "throws", "try", "catch", "synchronized", "assert", "protected", "enum",
        "Exact", "->", "::", "\\bnew \\w+(<.*>)?\\(.*\\) \\{", "hashCode", "toString", "System\\.(?!arraycopy)", "random",
        "Integer\\.M", "String\\.format", "\\bvar\\b", "\\bstatic \\{"};
    private static int wrong = 0;

    public static void main(String[] args) throws Exception {
        String document = Files.readString(Path.of("../shared/DOC.md"));
        String text = Files.readString(Path.of("src/main/java/TrueLedger.java"));
        face(document, text);
        constants(document);
        headings(document, text);
        members();
        text(text);
        System.out.println("FaceTest: " + wrong + " not as due");
        if (wrong != 0) System.exit(1);
    }

    private static void due(String what, Object got, Object want) {
        if (!got.equals(want)) {
            wrong++;
            System.out.println(what + " is " + got + ", due is " + want);
        }
    }

    /** The methods of the document, just as it writes them, and no others. */
    private static void face(String document, String text) {
        Class<?> it = TrueLedger.class;
        due("the class", Modifier.toString(it.getModifiers()), "public final");
        Set<String> methods = new TreeSet<>();
        for (Method m : it.getDeclaredMethods()) {
            if (Modifier.isPrivate(m.getModifiers()) || m.isSynthetic()) continue;
            due("modifiers of " + m.getName(), Modifier.toString(m.getModifiers()), "public");
            List<String> parameters = new ArrayList<>();
            for (Class<?> p : m.getParameterTypes()) parameters.add(p.getName());
            methods.add(m.getReturnType().getName() + " " + m.getName() + "(" + String.join(", ", parameters) + ")");
        }
        Set<String> told = new TreeSet<>();
        Matcher m = Pattern.compile("\n    (public (\\w+ \\w+\\(.*\\)));").matcher(document);
        while (m.find()) {
            told.add(m.group(2).replaceAll("(\\w+) \\w+([,)])", "$1$2"));
            due("the text has " + m.group(1), text.contains("\n    " + m.group(1) + " {\n"), true);
        }
        due("methods that the document has", told.size(), 35);
        due("the methods", methods, told);
        Constructor<?>[] constructors = it.getDeclaredConstructors();
        due("constructors", constructors.length, 1);
        due("the constructor", constructors[0].toString(), "public TrueLedger()");
    }

    private static void constants(String document) throws Exception {
        Set<String> constants = new TreeSet<>();
        for (Field f : TrueLedger.class.getDeclaredFields()) {
            if (Modifier.isPrivate(f.getModifiers())) continue;
            due("modifiers of " + f.getName(), Modifier.toString(f.getModifiers()), "public static final");
            constants.add(f.getType() + " " + f.getName() + " = " + f.get(null));
        }
        Set<String> told = new TreeSet<>();
        Matcher m = Pattern.compile("\n    public static final int (.*);").matcher(document);
        while (m.find()) for (String each : m.group(1).split(", ")) told.add("int " + each);
        due("the constants", constants, told);
        due("how many", told.size(), 4);
    }

    /** What the interface says ahead of some calls stands ahead of just these, in their order. */
    private static void headings(String document, String text) {
        Matcher m = Pattern.compile("Ahead of the calls (.*) the interface says: (---- .*)\\.").matcher(document);
        int headings = 0;
        while (m.find()) {
            headings++;
            String[] chapters = text.split("// " + m.group(2) + "\n");
            due(m.group(2) + " stands once", chapters.length, 2);
            if (chapters.length != 2) continue;
            List<String> calls = new ArrayList<>();
            Matcher call = Pattern.compile("\n    public \\w+ (\\w+)\\(").matcher(chapters[1].split("// ---- ")[0]);
            while (call.find()) calls.add("`" + call.group(1) + "`");
            due("calls behind " + m.group(2), String.join(", ", calls), m.group(1));
        }
        due("headings", headings, 6);
    }

    private static void members() {
        Set<String> names = new TreeSet<>();
        for (Method m : TrueLedger.class.getMethods()) names.add(m.getName());
        List<Class<?>> classes = new ArrayList<>(Arrays.asList(TrueLedger.class.getDeclaredClasses()));
        due("not more than twelve classes", classes.size() + 1 <= 12, true);
        for (Class<?> c : classes) due(c + " is static", Modifier.isStatic(c.getModifiers()), true);
        classes.add(TrueLedger.class);
        for (Class<?> c : classes) {
            int fields = 0;
            for (Field f : c.getDeclaredFields()) {
                boolean isStatic = Modifier.isStatic(f.getModifiers());
                due(f + " is final, if static", !isStatic || Modifier.isFinal(f.getModifiers()), true);
                fields += isStatic ? 0 : 1;
            }
            due("not more than twenty fields in " + c, fields <= 20, true);
            for (Method m : c.getDeclaredMethods()) {
                due(m + " takes at most seven", m.getParameterCount() <= 7, true);
                boolean isFace = c == TrueLedger.class && Modifier.isPublic(m.getModifiers());
                due(m + " bears a public method's name", !isFace && names.contains(m.getName()), false);
            }
        }
    }

    private static void text(String text) {
        String code = text.replaceAll("(?s)/\\*.*?\\*/", "").replaceAll("//[^\n]*", "");
        for (String word : WORDS) {
            Matcher m = Pattern.compile(Character.isLetter(word.charAt(0)) ? "\\b" + word : word).matcher(code);
            due("the text has " + word, m.find(), false);
        }
        Matcher imports = Pattern.compile("import [^;]*;").matcher(code);
        while (imports.find()) due("import", imports.group(), "import java.util.Arrays;");
        int begun = 1, line = 0;
        for (String each : text.split("\n")) {
            line++;
            if (each.matches(" {4}( {4})?[a-z].*\\) \\{")) begun = line;
            if (each.matches(" {4}( {4})?\\}")) due("a method of over 60 lines at " + line, line - begun > 60, false);
            due("a line of over 120 signs at " + line, each.length() > 120, false);
        }
    }
}
