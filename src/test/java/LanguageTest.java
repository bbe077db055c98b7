import java.io.IOException;
import java.lang.reflect.Constructor;
import java.lang.reflect.Field;
import java.lang.reflect.Method;
import java.lang.reflect.Modifier;
import java.nio.file.Files;
import java.nio.file.Path;
import java.util.ArrayList;
import java.util.Arrays;
import java.util.List;
import java.util.Set;
import java.util.TreeSet;
import java.util.regex.Matcher;
import java.util.regex.Pattern;

/** The document's face and those rules of LANGUAGE.md that a program can look after. */
public final class LanguageTest {
    private static final Path SOURCE = Path.of("src/main/java/KnotRows.java");
    private static final Path DOCUMENT = Path.of("../shared/DOC.md");
    private static final Path RULES = Path.of("../shared/LANGUAGE.md");

    private final Check check = new Check("language");
    private final String code;

    private LanguageTest(String code) {
        this.code = code;
    }

    public static void main(String[] args) throws IOException {
        LanguageTest test = new LanguageTest(bare(Files.readString(SOURCE)));
        test.theFaceIsTheDocuments();
        test.nothingElseIsSeen();
        test.staticFieldsAreConstants();
        test.noWordsThatAreRuledOut();
        test.onlyTheLibraryThatIsTold();
        test.sevenParametersAtMost();
        test.methodsStayShort();
        test.classesStayFew();
        test.check.end();
    }

    /** Without comments, and with empty texts and signs, line by line as it was. */
    private static String bare(String code) {
        String blank = code.replaceAll("//[^\n]*", "");
        Matcher comment = Pattern.compile("/\\*.*?\\*/", Pattern.DOTALL).matcher(blank);
        blank = comment.replaceAll(found -> found.group().replaceAll("[^\n]", ""));
        return blank.replaceAll("\"(\\\\.|[^\"\\\\])*\"", "\"\"").replaceAll("'(\\\\.|[^'\\\\])+'", "'0'");
    }

    private static String signature(Method method) {
        List<String> types = new ArrayList<>();
        for (Class<?> type : method.getParameterTypes()) {
            types.add(type.getName());
        }
        return method.getReturnType().getName() + " " + method.getName() + types;
    }

    private void theFaceIsTheDocuments() throws IOException {
        String document = Files.readString(DOCUMENT);
        Matcher told = Pattern.compile("    public (\\w+) (\\w+)\\((.*?)\\);").matcher(document);
        Set<String> due = new TreeSet<>();
        while (told.find()) {
            List<String> types = new ArrayList<>();
            for (String parameter : told.group(3).isEmpty() ? new String[0] : told.group(3).split(", ")) {
                types.add(parameter.split(" ")[0]);
            }
            due.add(told.group(1) + " " + told.group(2) + types);
        }
        Set<String> got = new TreeSet<>();
        for (Method method : KnotRows.class.getDeclaredMethods()) {
            if (Modifier.isPublic(method.getModifiers())) {
                got.add(signature(method));
            }
        }
        check.due("methods of the document", due.size(), 26);
        check.due("the face is " + got + ", due is " + due + ", alike", got.equals(due), true);
        check.due("NONE", KnotRows.NONE, -1);
        check.due("final", Modifier.isFinal(KnotRows.class.getModifiers()), true);
        Constructor<?>[] constructors = KnotRows.class.getDeclaredConstructors();
        check.due("constructors", constructors.length, 1);
        check.due("public", Modifier.isPublic(constructors[0].getModifiers()), true);
        check.due("its parameters", constructors[0].getParameterCount(), 0);
    }

    private void nothingElseIsSeen() {
        Set<String> names = new TreeSet<>();
        for (Method method : KnotRows.class.getDeclaredMethods()) {
            boolean open = Modifier.isPublic(method.getModifiers());
            check.due(method + " is public or private", open || Modifier.isPrivate(method.getModifiers()), true);
            check.due(method + " is static", Modifier.isStatic(method.getModifiers()) && open, false);
            if (open) {
                names.add(method.getName());
            }
        }
        for (Class<?> any : classes()) {
            for (Method method : any.getDeclaredMethods()) {
                boolean ofThePublic = any == KnotRows.class && Modifier.isPublic(method.getModifiers());
                check.due(method + " bears a public one's name", !ofThePublic && names.contains(method.getName()), false);
            }
            check.due(any + " is static", any == KnotRows.class || Modifier.isStatic(any.getModifiers()), true);
        }
        for (Field field : KnotRows.class.getDeclaredFields()) {
            check.due(field + " is private", Modifier.isPrivate(field.getModifiers()) || field.getName().equals("NONE"), true);
        }
    }

    private static List<Class<?>> classes() {
        List<Class<?>> classes = new ArrayList<>(Arrays.asList(KnotRows.class.getDeclaredClasses()));
        classes.add(KnotRows.class);
        return classes;
    }

    private void staticFieldsAreConstants() {
        for (Class<?> any : classes()) {
            int fields = 0;
            for (Field field : any.getDeclaredFields()) {
                boolean constant = Modifier.isStatic(field.getModifiers());
                fields += constant ? 0 : 1;
                boolean plain = Modifier.isFinal(field.getModifiers()) && field.getType() == int.class;
                check.due(field + " is a constant", !constant || plain, true);
            }
            check.due(any + " has some twenty fields at most, it has " + fields, fields <= 20, true);
        }
    }

    private void noWordsThatAreRuledOut() {
        check.due("the rules are there", Files.isReadable(RULES), true);
        for (String word : new String[] {"throw", "throws", "try", "catch", "finally", "synchronized", "assert", "import",
            "package", "instanceof", "native", "volatile", "var", "yield", "enum", "interface", "double", "float"}) {
            check.due("the word " + word, Pattern.compile("\\b" + word + "\\b").matcher(code).find(), false);
        }
        for (String sign : new String[] {"->", "::", "static {", "@", ">>>=", "Exact("}) {
            check.due("the sign " + sign, code.contains(sign), false);
        }
        check.due("signs above 127", code.chars().anyMatch(sign -> sign > 127), false);
    }

    private void onlyTheLibraryThatIsTold() {
        Set<String> fine = Set.of("Integer.bitCount", "Math.max", "Math.min", "Math.abs", "Math.floorMod", "System.arraycopy");
        Matcher call = Pattern.compile("\\b([A-Z][a-zA-Z]*)\\.([a-z]\\w*)\\(").matcher(code);
        while (call.find()) {
            String name = call.group(1) + "." + call.group(2);
            check.due(name + " is told", fine.contains(name), true);
        }
        check.due("objects are only made for fields and in constructors", Pattern.compile("\n            +.* new [A-Z]").matcher(
            code.replaceAll("\n +(slots|earlier|rows|drawings)\\[\\w+\\] = new \\w+\\(\\);", "")).find(), false);
    }

    private void sevenParametersAtMost() {
        for (Class<?> any : classes()) {
            for (Method method : any.getDeclaredMethods()) {
                check.due(method + " has seven parameters at most", method.getParameterCount() <= 7, true);
            }
        }
    }

    /** A method's braces stand alone in the column of its first word. */
    private void methodsStayShort() {
        String[] lines = code.split("\n", -1);
        int methods = 0;
        for (int from = 0; from < lines.length; from++) {
            if (lines[from].matches(" {4,8}(private |public |static |final )*[\\w\\[\\]]+ ?\\w*\\(.*\\) \\{")) {
                int indent = lines[from].length() - lines[from].stripLeading().length();
                int to = from;
                while (to < lines.length && !lines[to].equals(" ".repeat(indent) + "}")) {
                    to++;
                }
                methods++;
                check.due("the method '" + lines[from].strip() + "' has sixty lines at most", to - from < 60, true);
            }
        }
        check.due("methods were found", methods > 100, true);
    }

    private void classesStayFew() {
        check.due("classes", classes().size() <= 12, true);
        check.due("classes inside classes", Arrays.stream(KnotRows.class.getDeclaredClasses())
            .allMatch(any -> any.getDeclaredClasses().length == 0), true);
    }
}
