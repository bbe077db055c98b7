import java.io.IOException;
import java.lang.reflect.Method;
import java.lang.reflect.Modifier;
import java.nio.file.DirectoryStream;
import java.nio.file.Files;
import java.nio.file.Path;

/** What README.md shows is so. */
public final class ReadmeTest {
    private final Check check = new Check("readme");
    private final String page;

    private ReadmeTest(String page) {
        this.page = page;
    }

    public static void main(String[] args) throws IOException {
        ReadmeTest test = new ReadmeTest(Files.readString(Path.of("README.md")));
        test.theExampleAnswersAsShown();
        test.theTextsAreRead();
        test.theFaultsAreAsShown();
        test.eachCallIsTold();
        test.eachTestIsTold();
        test.check.end();
    }

    /** The line of the example ends with a comment that begins with the answer. */
    private void shown(String code, Object answer) {
        boolean found = false;
        for (String line : page.split("\n")) {
            found |= line.startsWith(code + " ") && line.matches(".*// " + answer + "\\b.*");
        }
        check.due("the page shows '" + code + "' with " + answer, found, true);
    }

    private void theExampleAnswersAsShown() {
        KnotRows knot = new KnotRows();
        shown("knot.feed(0x62726169, 0x64203220, 0x31203120, 0x313b2020, 0x20202020);",
            knot.feed(0x62726169, 0x64203220, 0x31203120, 0x313b2020, 0x20202020));
        shown("knot.back(6);", knot.back(6));
        shown("int fault = knot.read();", knot.read());
        shown("int crossings = knot.count(1);", knot.count(1));
        shown("long ways = knot.colourings(3);", knot.colourings(3));
        shown("int a = knot.coefficient(-4, true);", knot.coefficient(-4, true));
        shown("knot.switches(0);", knot.switches(0));
        shown("int gone = knot.loosen();", knot.loosen());
        shown("knot.undo();", knot.undo());
        check.due("the three are there again", knot.count(1), 3);
    }

    private void theTextsAreRead() {
        int texts = 0;
        for (String line : page.split("\n")) {
            if (line.matches("(ring|braid).*;")) {
                check.due("read of '" + line + "'", Check.read(new KnotRows(), line), 0);
                texts++;
            }
        }
        check.due("texts", texts, 3);
    }

    private void theFaultsAreAsShown() {
        String[] texts = {"", "over", "ring;ring;ring;ring;ring;", "ring over 1+over 1+;", "ring over 1+;", "braid 5;",
            "ring over 1+;ring under 1+;"};
        for (int fault = 0; fault < texts.length; fault++) {
            check.due("read of '" + texts[fault] + "'", Check.read(new KnotRows(), texts[fault]), fault);
            check.due("a row for " + fault, page.contains("\n| " + fault + " | "), true);
        }
    }

    private void eachCallIsTold() {
        for (Method method : KnotRows.class.getDeclaredMethods()) {
            if (Modifier.isPublic(method.getModifiers())) {
                boolean told = page.matches("(?s).*\n\\| [^|]*`" + method.getName() + "`[^|]* \\| .*");
                check.due("a row for " + method.getName(), told, true);
            }
        }
    }

    private void eachTestIsTold() throws IOException {
        int tests = 0;
        try (DirectoryStream<Path> files = Files.newDirectoryStream(Path.of("src/test/java"), "*Test.java")) {
            for (Path file : files) {
                String name = file.getFileName().toString().replace(".java", "");
                check.due("a row for " + name, page.contains("\n| `" + name + "` | "), true);
                tests++;
            }
        }
        int rows = page.split("\n\\| `\\w+Test` ", -1).length - 1;
        check.due("rows of tests", rows, tests);
    }
}
