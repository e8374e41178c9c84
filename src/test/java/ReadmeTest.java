import java.io.IOException;
import java.lang.reflect.Method;
import java.lang.reflect.Modifier;
import java.nio.file.Files;
import java.nio.file.Path;
import java.util.regex.Matcher;
import java.util.regex.Pattern;

/** README.md: the calls of its example answer as their comments say, and it names every call of the face. */
public final class ReadmeTest {
    private static final Pattern EXAMPLE = Pattern.compile("(?s)```java\n(.*?)```");
    private static final Pattern CALL = Pattern.compile("joins\\.(\\w+)\\((.*?)\\);\\s+// (throws \\w+|\\S+?)(:.*)?");
    private static final Pattern TEXT = Pattern.compile("for \\(char c : \"(.*)\"\\.toCharArray\\(\\)\\) joins\\.unit\\(c\\);");
    private static final Pattern OTHER = Pattern.compile("|// .*|LayerJoins joins = new LayerJoins\\(\\);");

    private static int rows = 0;
    private static int wrong = 0;

    public static void main(String[] args) throws IOException {
        String readme = Files.readString(Path.of(System.getProperty("layerjoins.readme", "README.md")));
        Matcher example = EXAMPLE.matcher(readme);
        check(example.find(), "there is no example");
        Calls calls = new Calls(new LayerJoins());
        for (String row : example.group(1).split("\n")) {
            playRow(calls, row);
        }
        for (Method method : LayerJoins.class.getDeclaredMethods()) {
            if (Modifier.isPublic(method.getModifiers())) {
                check(readme.contains("`" + method.getName() + "`"), method.getName() + " is not named");
            }
        }
        System.out.println("ReadmeTest: " + rows + " rows, " + wrong + " wrong");
        if (wrong != 0) {
            System.exit(1);
        }
    }

    private static void check(boolean good, String what) {
        rows++;
        if (!good) {
            wrong++;
            System.out.println("README.md: " + what);
        }
    }

    private static void playRow(Calls calls, String row) {
        Matcher call = CALL.matcher(row);
        Matcher text = TEXT.matcher(row);
        if (call.matches()) {
            String due = call.group(3).replace("throws ", "throws.");
            String got = calls.answer(call.group(1), numbers(call.group(2)));
            check(got.equals(due), row + ", answered " + got);
        } else if (text.matches()) {
            check(calls.tell(text.group(1)).equals("true"), row + ", not taken");
        } else {
            check(OTHER.matcher(row).matches(), "not a row: " + row);
        }
    }

    private static int[] numbers(String written) {
        if (written.isEmpty()) {
            return new int[0];
        }
        String[] words = written.split(", ");
        int[] given = new int[words.length];
        for (int k = 0; k < words.length; k++) {
            given[k] = Integer.parseInt(words[k]);
        }
        return given;
    }
}
