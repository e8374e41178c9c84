import java.util.regex.Matcher;
import java.util.regex.Pattern;

/**
 * Runs of calls on a new object, a row a call: "sum(0, 1) -> 4". Beside the calls of the class there are
 * text "..." (each character a unit, | for the character 10), written (all letters), and n * in front of a row,
 * where # is the number of the turn, from 0 on.
 */
final class Script {
    private static final Pattern ROW = Pattern.compile("(?:(\\d+) \\* )?(\\w+)(?:\\((.*?)\\)| \"(.*?)\")? -> (.*)");

    // Of more calls on one object the document promises nothing.
    private static final int MOST_CALLS = 512;

    private static int rows = 0;
    private static int wrong = 0;

    private Script() {
    }

    static void check(String sentence, String... scripts) {
        int calls = play(sentence, scripts);
        if (calls > MOST_CALLS) {
            tellWrong(sentence + ": " + calls + " calls on one object");
        }
    }

    /** For the one boundary that 512 calls cannot reach, that of a text of 600 units. */
    static void checkBeyondPromisedCalls(String sentence, String... scripts) {
        play(sentence, scripts);
    }

    /** Tells how many rows there were and ends with 1 if one was wrong. */
    static void end(String test) {
        System.out.println(test + ": " + rows + " rows, " + wrong + " wrong");
        if (wrong != 0) {
            System.exit(1);
        }
    }

    private static int play(String sentence, String... scripts) {
        Calls calls = new Calls(new LayerJoins());
        for (String script : scripts) {
            for (String row : script.split("\n")) {
                if (!row.isBlank()) {
                    playRow(sentence, calls, row.strip());
                }
            }
        }
        return calls.made();
    }

    private static void playRow(String sentence, Calls calls, String row) {
        Matcher parts = ROW.matcher(row);
        if (!parts.matches()) {
            tellWrong(sentence + ": not a row: " + row);
            return;
        }
        int turns = parts.group(1) == null ? 1 : Integer.parseInt(parts.group(1));
        for (int turn = 0; turn < turns; turn++) {
            String due = parts.group(5).replace("#", "" + turn);
            String got = got(calls, parts.group(2), parts.group(3), parts.group(4), turn);
            rows++;
            if (!got.equals(due)) {
                tellWrong(sentence + ": " + row + ", answered " + got);
            }
        }
    }

    private static void tellWrong(String what) {
        wrong++;
        System.out.println(what);
    }

    private static String got(Calls calls, String name, String numbers, String text, int turn) {
        if (name.equals("text")) {
            return calls.tell(text.replace("|", "\n"));
        }
        if (name.equals("written")) {
            return calls.written();
        }
        if (numbers == null || numbers.isBlank()) {
            return calls.answer(name);
        }
        String[] words = numbers.replace("#", "" + turn).split(",");
        int[] given = new int[words.length];
        for (int k = 0; k < words.length; k++) {
            given[k] = Integer.parseInt(words[k].strip());
        }
        return calls.answer(name, given);
    }
}
