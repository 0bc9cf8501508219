import java.nio.file.Files;
import java.nio.file.Path;
import java.util.List;

/** The examples of README.md: they are run here as they stand there, and do what the page says. */
public final class ReadmeTest {
    private static int wrong = 0;

    private static void due(String what, long got, long want) {
        if (got != want) {
            wrong++;
            System.out.println(what + " is " + got + ", due is " + want);
        }
    }

    private static void examples() {
        PaintedGods gods = new PaintedGods();
        int ochre = gods.stuff(12, 7, 6, 1);
        gods.trace(0, 0, ochre);
        due("the answer of odds", gods.odds(0, 1 + ochre), 1);
        due("above", gods.limb(0, 0), 1);
        due("below", gods.limb(1, 0), 2);

        String text = "stuff 12 7 6 1; rain 1 2; years 20; habit 0 3; grain 0 0; edge 1 4; copy 0 0;";
        for (int i = 0; i < text.length(); i++) {
            gods.type(text.charAt(i), 1);
        }
        due("the items", gods.statue(), 7);
        due("the stuffs told by the text alone", gods.count(0), 1);
        due("the traces told by the text alone", gods.count(1), 2);
        gods.clear();
        for (int i = 0; i < 5; i++) {
            gods.type("rain;".charAt(i), 1);
        }
        due("a fault in a token", gods.statue(), -14);
        gods.clear();
        for (int i = 0; i < 9; i++) {
            gods.type("rain 4 1;".charAt(i), 1);
        }
        due("a refused item", gods.statue(), -1000);
    }

    /** Each line of code of the page is run by the examples above, so that neither goes on without the other. */
    private static void sameLines() throws Exception {
        String page = Files.readString(Path.of("README.md"));
        String here = Files.readString(Path.of("tests/ReadmeTest.java"));
        int found = 0;
        for (String line : page.split("\n")) {
            String code = line.replaceAll(" *//.*", "").strip();
            boolean isCode = line.startsWith("    ") && code.endsWith(";");
            if (isCode && !code.contains("limb(") && !code.startsWith("int items")) {
                found++;
                if (!here.contains(code)) {
                    wrong++;
                    System.out.println("README.md has a line that is not run: " + code);
                }
            }
        }
        due("lines of code on the page", found, 5);
        for (String name : List.of("stuff", "put", "habit", "trace", "aside", "copy", "type", "clear", "statue", "left",
                "shines", "fits", "odds", "above", "likeliest", "stood", "span", "later", "next", "rests", "resting",
                "bright", "sign", "limb", "image", "from", "status", "count", "digest")) {
            due("README.md tells of " + name, page.contains("`" + name + "`") || page.contains("`" + name + "(") ? 1 : 0, 1);
        }
        try (var tests = Files.newDirectoryStream(Path.of("tests"), "*.java")) {
            for (Path test : tests) {
                due("README.md tells of " + test, page.contains("`" + test + "`") ? 1 : 0, 1);
            }
        }
    }

    public static void main(String[] args) throws Exception {
        examples();
        sameLines();
        System.out.println(wrong == 0 ? "the page holds" : "the page does not hold");
        if (wrong != 0) {
            System.exit(1);
        }
    }
}
