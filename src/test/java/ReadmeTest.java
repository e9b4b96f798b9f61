import java.io.IOException;
import java.lang.reflect.Method;
import java.lang.reflect.Modifier;
import java.nio.file.DirectoryStream;
import java.nio.file.Files;
import java.nio.file.Path;
import java.util.ArrayList;
import java.util.List;

/** What README.md says of the class and of its tests; .ci/run starts it in the project's folder. */
public final class ReadmeTest {
    private static final Path README = Path.of("README.md");
    private static final Path TESTS = Path.of("src", "test", "java");

    public static void main(String[] args) throws IOException {
        String page = Files.readString(README);
        example(page);
        for (Method m : TagTrees.class.getDeclaredMethods()) {
            if (Modifier.isPublic(m.getModifiers())) {
                Due.is("the table's row of " + m.getName(), throwsInTable(page, m.getName()), throwsOf(m));
            }
        }
        everyTestIsNamed(page);
        Due.end();
    }

    private static void example(String page) {
        TagTrees tree = new TagTrees(3, 2);
        says(page, "TagTrees tree = new TagTrees(3, 2);", "3 leaves across, 2 down");
        Due.is("across", tree.told(0), 3);
        Due.is("down", tree.told(1), 2);
        says(page, "int set = tree.values(0, 0, 6, 1, 2);", tree.values(0, 0, 6, 1, 2) + ":");
        Due.is("the values", Seen.leaves(tree), "1 3 5 7 9 11");
        int bits = tree.encode(1, 0, 4);
        says(page, "int bits = tree.encode(1, 0, 4);", bits + ":");
        says(page, "int again = tree.encode(1, 0, 4);", tree.encode(1, 0, 4) + ":");
        Due.is("decode without bits", tree.decode(1, 0, 4), TagTrees.WAITS);
        says(page, "int early = tree.decode(1, 0, 4);", "WAITS:");
        says(page, "int passed = tree.pass(bits);", tree.pass(bits) + ":");
        says(page, "int below = tree.decode(1, 0, 4);", tree.decode(1, 0, 4) + ":");
        says(page, "int value = tree.known(1, 0);", String.valueOf(tree.known(1, 0)));
        says(page, "int other = tree.known(2, 1);", tree.known(2, 1) + ":");
    }

    /** The page has this line of code, and what it says behind it begins with the answer. */
    private static void says(String page, String code, String answer) {
        String said = "no such line";
        for (String line : page.split("\n")) {
            int behind = line.indexOf("// ");
            if (line.startsWith(code) && behind >= 0) {
                said = line.substring(behind + 3);
            }
        }
        boolean same = said.equals(answer) || said.startsWith(answer + " ");
        Due.is("README.md on " + code, same ? answer : said, answer);
    }

    private static String throwsInTable(String page, String name) {
        String found = "no such row";
        for (String line : page.split("\n")) {
            if (line.startsWith("| `" + name + "(")) {
                String[] cells = line.split("\\|");
                found = cells[cells.length - 1].trim();
            }
        }
        return found;
    }

    /** The exceptions that a method names, in its order, by the page's short names for them. */
    private static String throwsOf(Method method) {
        List<String> names = new ArrayList<>();
        for (Class<?> thrown : method.getExceptionTypes()) {
            names.add(thrown.getSimpleName().replaceAll("OutOfBounds|Illegal|Operation|Exception", ""));
        }
        return String.join(", ", names);
    }

    private static void everyTestIsNamed(String page) throws IOException {
        try (DirectoryStream<Path> files = Files.newDirectoryStream(TESTS, "*.java")) {
            for (Path file : files) {
                String name = file.getFileName().toString().replace(".java", "");
                Due.is("README.md names " + name, page.contains("`" + name + "`"), true);
            }
        }
    }
}
