import java.lang.reflect.Constructor;
import java.lang.reflect.Field;
import java.lang.reflect.Method;
import java.lang.reflect.Modifier;
import java.nio.file.Files;
import java.nio.file.Path;
import java.util.ArrayList;
import java.util.Arrays;
import java.util.List;
import java.util.Set;
import java.util.TreeSet;
import java.util.regex.Matcher;
import java.util.regex.Pattern;

/** The public face, and those rules of LANGUAGE.md that can be read off the class and its text. */
public final class FaceTest {
    private static final String[] FACE = {"int type(int,int)", "int wipe(int)", "int fault(int)", "int acts(int,int)",
        "int differ(int,int)", "int run(int,int,int,int,int,int)", "int parting(int,int,int)", "int event(int,int,int,int)",
        "int mended(int,int)", "int counter(int)", "int log(int,int,int)", "int claim(int,int,int)", "int about(int,int)",
        "int tell(int,int,int)", "int logged(int,int)", "int fills(int,int)", "int causes(int)", "int settling(int,int)",
        "int like(int,int)", "int pay(int,int,int)", "int interest(int)", "int owed(int,int)", "int judgment(int,int)",
        "int ground(int,boolean)", "int standing()", "int falling(int)", "int order(int,int)", "int sheet(int,int,int)",
        "int lose(int)", "int put(int,int,int,int)", "int get(int,int,int)", "int copy(int,int,int,int,int)",
        "int write(int,int)", "int count(int)", "long digest()"};
    private static final String[] WORDS = {"throw", "throws", "try", "catch", "synchronized", "assert", "protected", "enum",
        "Exact", "->", "::", "\\bnew \\w+(<.*>)?\\(.*\\) \\{", "hashCode", "toString", "System\\.(?!arraycopy)", "random",
        "Integer\\.M", "String\\.format", "\\bvar\\b", "\\bstatic \\{"};
    private static final String[] HEADINGS = {"versions: int type(", "counters: int counter(", "paid, owed: int pay(",
        "judgments: int judgment(", "looking: int order(", "sheets: int sheet("};
    private static int wrong = 0;

    public static void main(String[] args) throws Exception {
        face();
        members();
        text();
        System.out.println("FaceTest: " + wrong + " not as due");
        if (wrong != 0) System.exit(1);
    }

    private static void due(String what, Object got, Object want) {
        if (!got.equals(want)) {
            wrong++;
            System.out.println(what + " is " + got + ", due is " + want);
        }
    }

    private static void face() {
        Class<?> it = TrueLedger.class;
        due("the class", Modifier.toString(it.getModifiers()), "public final");
        Set<String> methods = new TreeSet<>();
        for (Method m : it.getDeclaredMethods()) {
            if (Modifier.isPrivate(m.getModifiers()) || m.isSynthetic()) continue;
            due("modifiers of " + m.getName(), Modifier.toString(m.getModifiers()), "public");
            List<String> parameters = new ArrayList<>();
            for (Class<?> p : m.getParameterTypes()) parameters.add(p.getName());
            methods.add(m.getReturnType().getName() + " " + m.getName() + "(" + String.join(",", parameters) + ")");
        }
        due("the methods", methods, new TreeSet<>(Arrays.asList(FACE)));
        Set<String> fields = new TreeSet<>();
        for (Field f : it.getDeclaredFields()) {
            if (Modifier.isPrivate(f.getModifiers())) continue;
            due("modifiers of " + f.getName(), Modifier.toString(f.getModifiers()), "public static final");
            fields.add(f.getName());
        }
        due("the constants", fields.toString(), "[BAD, FULL, NONE, NOT]");
        Constructor<?>[] constructors = it.getDeclaredConstructors();
        due("constructors", constructors.length, 1);
        due("the constructor", constructors[0].toString(), "public TrueLedger()");
    }

    private static void members() {
        Set<String> names = new TreeSet<>();
        for (Method m : TrueLedger.class.getMethods()) names.add(m.getName());
        List<Class<?>> classes = new ArrayList<>(Arrays.asList(TrueLedger.class.getDeclaredClasses()));
        due("not more than twelve classes", classes.size() + 1 <= 12, true);
        for (Class<?> c : classes) due(c + " is static", Modifier.isStatic(c.getModifiers()), true);
        classes.add(TrueLedger.class);
        for (Class<?> c : classes) {
            int fields = 0;
            for (Field f : c.getDeclaredFields()) {
                boolean isStatic = Modifier.isStatic(f.getModifiers());
                due(f + " is final, if static", !isStatic || Modifier.isFinal(f.getModifiers()), true);
                fields += isStatic ? 0 : 1;
            }
            due("not more than twenty fields in " + c, fields <= 20, true);
            for (Method m : c.getDeclaredMethods()) {
                due(m + " takes at most seven", m.getParameterCount() <= 7, true);
                boolean isFace = c == TrueLedger.class && Modifier.isPublic(m.getModifiers());
                due(m + " bears a public method's name", !isFace && names.contains(m.getName()), false);
            }
        }
    }

    private static void text() throws Exception {
        String text = Files.readString(Path.of("src/main/java/TrueLedger.java"));
        String code = text.replaceAll("(?s)/\\*.*?\\*/", "").replaceAll("//[^\n]*", "");
        for (String word : WORDS) {
            Matcher m = Pattern.compile(Character.isLetter(word.charAt(0)) ? "\\b" + word : word).matcher(code);
            due("the text has " + word, m.find(), false);
        }
        Matcher imports = Pattern.compile("import [^;]*;").matcher(code);
        while (imports.find()) due("import", imports.group(), "import java.util.Arrays;");
        for (String heading : HEADINGS) {
            String[] words = heading.split(": ");
            int at = text.indexOf("// ---- " + words[0] + "\n");
            due("the first call behind ---- " + words[0], at >= 0 && text.startsWith("public " + words[1], text.indexOf("public", at)), true);
        }
        int begun = 1, line = 0;
        for (String each : text.split("\n")) {
            line++;
            if (each.matches(" {4}( {4})?[a-z].*\\) \\{")) begun = line;
            if (each.matches(" {4}( {4})?\\}")) due("a method of over 60 lines at " + line, line - begun > 60, false);
            due("a line of over 120 signs at " + line, each.length() > 120, false);
        }
    }
}
