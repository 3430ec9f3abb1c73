import java.io.IOException;
import java.lang.reflect.Method;
import java.lang.reflect.Modifier;
import java.nio.file.DirectoryStream;
import java.nio.file.Files;
import java.nio.file.Path;
import java.util.regex.Matcher;
import java.util.regex.Pattern;

// README.md tells the truth: its example answers what it says, and it names every method and every test.
public final class ReadmeTest {
    private static final Path README = Path.of("README.md");
    private static final Path TESTS = Path.of("src/test/java");
    private static final Pattern CALL = Pattern.compile("board\\.(\\w+)\\(([^)]*)\\); *// (?:answers (-?\\w+))?.*");
    private static final Pattern ROW = Pattern.compile("row (\\d) ([ \\d]+?)(?: {5,}.*)?");

    private static int wrong = 0;

    public static void main(String[] args) throws IOException, ReflectiveOperationException {
        String readme = Files.readString(README);
        example(readme);
        rows(readme);
        namesOfMethods(readme);
        namesOfTests(readme);
        System.out.println(wrong == 0 ? "the README is true" : wrong + " faults in the README");
        if (wrong != 0) {
            System.exit(1);
        }
    }

    private static void must(boolean holds, String what) {
        if (!holds) {
            wrong++;
            System.out.println("not so: " + what);
        }
    }

    private static Method methodNamed(String name) {
        for (Method method : DraughtsBoard.class.getDeclaredMethods()) {
            if (method.getName().equals(name) && Modifier.isPublic(method.getModifiers())) {
                return method;
            }
        }
        throw new IllegalArgumentException("no method " + name);
    }

    private static Object answer(DraughtsBoard board, String name, String arguments)
            throws ReflectiveOperationException {
        if (arguments.isEmpty()) {
            return methodNamed(name).invoke(board);
        }
        String[] words = arguments.split(", ");
        Object[] numbers = new Object[words.length];
        for (int i = 0; i < words.length; i++) {
            numbers[i] = Integer.valueOf(words[i]);
        }
        return methodNamed(name).invoke(board, numbers);
    }

    private static void example(String readme) throws ReflectiveOperationException {
        int begin = readme.indexOf("```java\n");
        String[] lines = readme.substring(begin, readme.indexOf("\n```\n", begin)).split("\n");
        DraughtsBoard board = new DraughtsBoard();
        int checked = 0;
        for (String line : lines) {
            Matcher call = CALL.matcher(line);
            if (call.matches()) {
                String got = String.valueOf(answer(board, call.group(1), call.group(2)));
                String said = call.group(3);
                must(said == null ? got.equals("null") : got.equals(said), line + " (it answered " + got + ")");
                checked++;
            }
        }
        // The opening of the block and the making of the object are the only lines that are no call.
        must(checked == lines.length - 2, "every line of the example is run");
    }

    // The picture of the board is right when a king on each square steps to the squares drawn diagonally next to it.
    private static void rows(String readme) {
        int[][] squareIn = new int[8][];
        int[][] placeOf = new int[8][];
        for (String line : readme.split("\n")) {
            Matcher row = ROW.matcher(line);
            if (row.matches()) {
                int number = Integer.parseInt(row.group(1));
                squareIn[number] = new int[4];
                placeOf[number] = new int[4];
                Matcher square = Pattern.compile("\\d+").matcher(line);
                square.find();
                for (int i = 0; i < 4 && square.find(); i++) {
                    squareIn[number][i] = Integer.parseInt(square.group());
                    placeOf[number][i] = square.end();
                }
            }
        }
        for (int row = 0; row < 8; row++) {
            must(squareIn[row] != null, "row " + row + " is drawn");
        }
        for (int row = 0; wrong == 0 && row < 8; row++) {
            for (int i = 0; i < 4; i++) {
                DraughtsBoard board = new DraughtsBoard();
                board.place(squareIn[row][i], 2);
                int drawn = 0;
                for (int other = 0; other < 8; other++) {
                    for (int j = 0; j < 4; j++) {
                        int across = Math.abs(placeOf[other][j] - placeOf[row][i]);
                        if (Math.abs(other - row) == 1 && across == 2) {
                            drawn++;
                            must(hasStep(board, squareIn[other][j]),
                                    "a step from " + squareIn[row][i] + " to " + squareIn[other][j]);
                        }
                    }
                }
                must(board.moves() == drawn, "the steps from " + squareIn[row][i] + " are drawn");
            }
        }
    }

    private static boolean hasStep(DraughtsBoard board, int to) {
        for (int k = 0; k < board.moves(); k++) {
            if (board.path(k, 1) == to) {
                return true;
            }
        }
        return false;
    }

    private static void namesOfMethods(String readme) {
        for (Method method : DraughtsBoard.class.getDeclaredMethods()) {
            if (Modifier.isPublic(method.getModifiers())) {
                must(readme.contains("| `" + method.getName() + "("), method.getName() + " is in the table");
            }
        }
    }

    private static void namesOfTests(String readme) throws IOException {
        try (DirectoryStream<Path> tests = Files.newDirectoryStream(TESTS, "*.java")) {
            for (Path test : tests) {
                String name = test.getFileName().toString().replace(".java", "");
                must(readme.contains("- `" + name + "` "), name + " is told of");
            }
        }
    }
}
