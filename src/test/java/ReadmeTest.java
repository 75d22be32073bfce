import java.io.IOException;
import java.lang.reflect.Method;
import java.lang.reflect.Modifier;
import java.nio.file.Files;
import java.nio.file.Path;
import java.util.ArrayList;
import java.util.List;
import java.util.regex.Matcher;
import java.util.regex.Pattern;

/** README.md: its examples are read from it, called, and held against the answers it tells. */
public final class ReadmeTest {
    private static final Check CHECK = new Check("ReadmeTest");
    private static final Pattern CALL = Pattern.compile("board\\.(\\w+)\\((.*)\\); *// (.*)");
    private static final Pattern ANSWER = Pattern.compile("(true|false|-?\\d+|0x\\p{XDigit}+)([:;].*)?");

    public static void main(String[] args) throws Exception {
        List<String> lines = Files.readAllLines(Path.of("README.md"));
        examplesAnswerWhatIsTold(lines);
        eachMethodIsTold(lines);
        eachTestIsTold(lines);
        CHECK.end();
    }

    private static void examplesAnswerWhatIsTold(List<String> lines) throws Exception {
        int answers = 0;
        SpectrumBoard board = new SpectrumBoard();
        for (String line : lines) {
            if (line.equals("SpectrumBoard board = new SpectrumBoard();")) {
                board = new SpectrumBoard();
            } else if (line.startsWith("board.")) {
                answers += callAnswers(board, line) ? 1 : 0;
            }
        }
        CHECK.due("answers that README.md tells", answers, 19);
    }

    /** Whether the line tells an answer, which then must be the one that is given. */
    private static boolean callAnswers(SpectrumBoard board, String line) throws Exception {
        Matcher call = CALL.matcher(line.contains("//") ? line : line + " // ");
        CHECK.due("is a call: " + line, call.matches(), true);
        Object given = made(board, call.group(1), call.group(2).split(", *"));
        Matcher told = ANSWER.matcher(call.group(3));
        if (given == null || !told.matches()) {
            CHECK.due("tells its answer: " + line, given == null, true);
            return false;
        }
        String text = told.group(1);
        String due = text.startsWith("0x") ? Integer.decode(text).toString() : text;
        CHECK.same(line, given.toString(), due);
        return true;
    }

    private static Object made(SpectrumBoard board, String name, String[] numbers) throws Exception {
        Class<?>[] types = new Class<?>[numbers.length];
        Object[] arguments = new Object[numbers.length];
        for (int k = 0; k < numbers.length; k++) {
            types[k] = int.class;
            arguments[k] = Long.decode(numbers[k]).intValue();
        }
        return SpectrumBoard.class.getMethod(name, types).invoke(board, arguments);
    }

    // A method's lines begin with its head, and each exception of it has a line behind.
    private static void eachMethodIsTold(List<String> lines) {
        for (Method method : SpectrumBoard.class.getDeclaredMethods()) {
            if (!Modifier.isPublic(method.getModifiers())) {
                continue;
            }
            List<String> thrown = new ArrayList<>();
            for (Class<?> exception : method.getExceptionTypes()) {
                thrown.add(exception.getSimpleName());
            }
            CHECK.same(method.getName(), thrownBehind(lines, method).toString(), thrown.toString());
        }
    }

    private static List<String> thrownBehind(List<String> lines, Method method) {
        String head = "`" + method.getReturnType().getSimpleName() + " " + method.getName() + "(int ";
        List<String> thrown = new ArrayList<>();
        boolean here = false;
        boolean seen = false;
        for (String line : lines) {
            boolean otherHead = line.startsWith("`") || line.startsWith("#");
            here = line.startsWith(head) || here && !otherHead;
            seen |= here;
            if (here && line.startsWith("- `")) {
                thrown.add(line.substring(3, line.indexOf('`', 3)));
            }
        }
        CHECK.due("README.md tells " + head, seen, true);
        return thrown;
    }

    private static void eachTestIsTold(List<String> lines) throws IOException {
        try (var files = Files.newDirectoryStream(Path.of("src/test/java"), "*Test.java")) {
            for (Path file : files) {
                String cell = "`" + file.getFileName().toString().replace(".java", "") + "`";
                boolean told = lines.stream().anyMatch(line -> line.startsWith("|") && line.contains(cell));
                CHECK.due("README.md tells " + cell, told, true);
            }
        }
    }
}
