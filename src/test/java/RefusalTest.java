import java.util.ArrayList;
import java.util.List;

/**
 * Each number of each call: the least and the greatest one are taken, those just beyond and the farthest ones are
 * refused, and after a refused call the object answers all that can be asked as if there had been none.
 */
public final class RefusalTest {
    private static final String STATE = "throws.IllegalStateException";
    private static final String INDEX = "throws.IndexOutOfBoundsException";
    private static final String ARGUMENT = "throws.IllegalArgumentException";
    private static final String FULL = "throws.UnsupportedOperationException";

    private static final Span PLACE = new Span(-1000, 1000, ARGUMENT);
    private static final Span LEVEL = new Span(-100000, 100000, ARGUMENT);
    private static final Span KIND = new Span(0, 7, ARGUMENT);
    private static final Span WEEK = new Span(0, 99, ARGUMENT);
    private static final Span PART = new Span(0, 1, ARGUMENT);
    private static final Span BORING = new Span(0, 3, INDEX);
    private static final Span ANY = new Span(Integer.MIN_VALUE, Integer.MAX_VALUE, "nothing");

    private static int checks = 0;
    private static int wrong = 0;

    /** What a number of a call may be, and what is answered to another. */
    private record Span(int least, int most, String refusal) {
        Span or(String other) {
            return new Span(least, most, other);
        }

        List<Integer> outside() {
            List<Integer> found = new ArrayList<>();
            if (least > Integer.MIN_VALUE) {
                found.add(least - 1);
                found.add(Integer.MIN_VALUE);
            }
            if (most < Integer.MAX_VALUE) {
                found.add(most + 1);
                found.add(Integer.MAX_VALUE);
            }
            return found;
        }
    }

    /** Objects to begin with. */
    private enum World {
        /** Nothing was told. */
        NEW,
        /** Four borings, one of them behind a fault, and something of all else. */
        TOLD,
        /** The same after run(). */
        RUN,
        /** All the borings, layers of a boring, faults and levels of water that there can be, after run(). */
        CROWDED;

        Calls make() {
            Calls calls = new Calls(new LayerJoins());
            switch (this) {
                case NEW -> { }
                case TOLD -> tell(calls);
                case RUN -> {
                    tell(calls);
                    calls.answer("run");
                }
                case CROWDED -> crowd(calls);
            }
            return calls;
        }

        private static void tell(Calls calls) {
            int[][] borings = {{0, 0, 10}, {10, 0, 12}, {0, 10, 8}, {12, 12, 5}};
            int[][] layers = {{0, 1, 5}, {0, 2, 7}, {1, 1, 6}, {1, 2, 7}, {2, 1, 5}, {2, 3, 2}, {2, 2, 9}, {3, 4, 4}};
            int[][] waters = {{0, 3, 1}, {1, 3, 2}, {2, 3, 7}, {3, 99, 4}};
            for (int[] boring : borings) {
                calls.answer("boring", boring);
            }
            for (int[] layer : layers) {
                calls.answer("layer", layer);
            }
            for (int[] water : waters) {
                calls.answer("water", water);
            }
            calls.answer("fault", 11, 13, 13, 11);
            calls.answer("age", 3, 9);
            calls.answer("lens", 30);
            calls.answer("within", 2);
            calls.answer("write", 1);
            calls.tell("b 50 60 7 1");
        }

        private static void crowd(Calls calls) {
            for (int k = 0; k < 16; k++) {
                calls.answer("boring", k % 4, k / 4, k);
            }
            for (int k = 0; k < 12; k++) {
                calls.answer("layer", 5, k % 8, 1 + k);
            }
            for (int k = 0; k < 8; k++) {
                calls.answer("fault", 1000, k, -1000, k);
            }
            for (int k = 0; k < 60; k++) {
                calls.answer("water", k % 16, k, k);
            }
            calls.tell("b 50 60 7 1");
            calls.answer("write", 5);
            calls.answer("run");
        }
    }

    public static void main(String[] args) {
        telling();
        asking();
        levels();
        texts();
        full();
        state();
        order();
        System.out.println("RefusalTest: " + checks + " checks, " + wrong + " wrong");
        if (wrong != 0) {
            System.exit(1);
        }
    }

    private static void telling() {
        spans("boring", row(50, 60, 7), PLACE, PLACE, LEVEL);
        spans("layer", row(0, 2, 5), BORING, KIND, new Span(1, 10000, ARGUMENT));
        spans("age", row(2, 5), KIND.or("false"), new Span(0, 99, "false"));
        Span place = PLACE.or("false");
        spans("fault", row(50, 60, 51, 61), place, place, place, place);
        spans("lens", row(7), new Span(1, 100, "false"));
        spans("water", row(0, 5, 5), BORING.or("false"), WEEK.or("false"), LEVEL.or("false"));
        spans("within", row(7), new Span(0, 10000, "false"));
        refused(World.RUN, ARGUMENT, "boring", 10, 0, 12);
        refused(World.RUN, ARGUMENT, "boring", 10, 0, -99);
        refused(World.RUN, "false", "fault", 3, 4, 3, 4);
        refused(World.RUN, "false", "fault", 1000, -1000, 1000, -1000);
    }

    private static void asking() {
        spans("count", row(0), new Span(0, 6, "-1"));
        spans("edge", row(0, 0), new Span(0, 4, INDEX), new Span(0, 2, ARGUMENT));
        spans("triangle", row(0, 0), new Span(0, 0, INDEX), new Span(0, 2, ARGUMENT));
        spans("match", row(2, 0, 0), BORING, BORING, new Span(0, 2, INDEX));
        spans("match", row(3, 3, 0), BORING, BORING, new Span(0, 0, INDEX));
        spans("sum", row(1, 2), BORING, BORING);
        spans("section", row(0, 2, 1, 0), BORING, BORING, new Span(0, 2, INDEX), PART);
        spans("bed", row(0, 0), new Span(0, 3, INDEX), new Span(0, 4, ARGUMENT));
        spans("bedOf", row(2, 0), BORING, new Span(0, 2, INDEX));
        refused(World.RUN, ARGUMENT, "match", 0, 3, 0);
        refused(World.RUN, ARGUMENT, "match", 1, 1, 0);
        refused(World.RUN, ARGUMENT, "sum", 3, 1);
        refused(World.RUN, ARGUMENT, "sum", 2, 2);
        refused(World.RUN, ARGUMENT, "section", 3, 2, 0, 0);
        refused(World.RUN, ARGUMENT, "section", 0, 0, 0, 0);
    }

    private static void levels() {
        spans("at", row(0, 3, 3, 0), new Span(0, 3, INDEX), PLACE, PLACE, PART);
        spans("wet", row(3, 3, 3, 0), WEEK, PLACE, PLACE, PART);
        spans("volume", row(1, -9, -9, 99, 99), KIND, ANY, ANY, ANY, ANY);
        spans("later", row(3, 3, 1, 8), PLACE, PLACE, KIND, LEVEL);
        spans("doubt", row(3, 3), PLACE.or("-1"), PLACE.or("-1"));
    }

    private static void texts() {
        spans("unit", row(98), new Span(32, 126, "false"));
        for (int c : new int[] {0, 9, 11, 13, 128, 256 + 98, 65536 + 98, 65536 + 10}) {
            refused(World.RUN, "false", "unit", c);
        }
        taken(World.RUN, "false", "unit", 10);
        spans("write", row(0), BORING);
        spans("letter", row(0), new Span(0, 18, "0"));
    }

    /** Where there is no room left, and where it comes behind what is named before it. */
    private static void full() {
        refused(World.CROWDED, FULL, "boring", 50, 60, 7);
        refused(World.CROWDED, ARGUMENT, "boring", 3, 3, 7);
        refused(World.CROWDED, ARGUMENT, "boring", 1001, 60, 7);
        refused(World.CROWDED, ARGUMENT, "boring", 50, -1001, 7);
        refused(World.CROWDED, ARGUMENT, "boring", 50, 60, 100001);
        refused(World.CROWDED, FULL, "layer", 5, 0, 1);
        refused(World.CROWDED, ARGUMENT, "layer", 5, 8, 1);
        refused(World.CROWDED, ARGUMENT, "layer", 5, 0, 0);
        refused(World.CROWDED, INDEX, "layer", 16, 0, 1);
        refused(World.CROWDED, "false", "fault", 5, 5, 6, 6);
        refused(World.CROWDED, "false", "fault", 1000, 0, -1000, 0);
        refused(World.CROWDED, "false", "water", 0, 1, 5);
        refused(World.CROWDED, "false", "water", 1, 99, 5);
        taken(World.CROWDED, "false", "water", 11, 59, 5);
        taken(World.CROWDED, FULL, "layer", 4, 0, 1);
        taken(World.CROWDED, "false", "age", 0, 1);
    }

    /** What says so, in an object without a run(), whatever the numbers are. */
    private static void state() {
        for (World world : new World[] {World.NEW, World.TOLD}) {
            for (int far : new int[] {0, 99999}) {
                for (int what = 3; what <= 6; what++) {
                    refused(world, STATE, "count", what);
                }
                refused(world, STATE, "edge", far, far);
                refused(world, STATE, "triangle", far, far);
                refused(world, STATE, "match", far, far, far);
                refused(world, STATE, "sum", far, far);
                refused(world, STATE, "section", far, far, far, far);
                refused(world, STATE, "crosses");
                refused(world, STATE, "bed", far, far);
                refused(world, STATE, "bedOf", far, far);
                refused(world, STATE, "at", far, far, far, far);
                refused(world, STATE, "wet", far, far, far, far);
                refused(world, STATE, "volume", far, far, far, far, far);
                refused(world, STATE, "later", far, far, far, far);
            }
            refused(world, "-1", "count", 7);
            refused(world, "-1", "count", -1);
            refused(world, "-1", "doubt", 1001, 0);
            refused(world, INDEX, "write", 4);
        }
    }

    /** Of several exceptions the one named first. */
    private static void order() {
        refused(World.RUN, INDEX, "layer", 4, 8, 0);
        refused(World.RUN, INDEX, "layer", -1, 0, 10001);
        refused(World.RUN, INDEX, "edge", 5, 3);
        refused(World.RUN, INDEX, "triangle", 1, 3);
        refused(World.RUN, INDEX, "match", 4, 4, 0);
        refused(World.RUN, INDEX, "match", 0, 4, 0);
        refused(World.RUN, INDEX, "match", 3, 0, 1);
        refused(World.RUN, INDEX, "match", 0, 0, 2);
        refused(World.RUN, INDEX, "sum", 4, 4);
        refused(World.RUN, INDEX, "section", 3, 4, 0, 0);
        refused(World.RUN, ARGUMENT, "section", 3, 0, 99, 0);
        refused(World.RUN, INDEX, "section", 0, 2, 3, 2);
        refused(World.RUN, ARGUMENT, "section", 0, 2, 2, 2);
        refused(World.RUN, INDEX, "bed", 4, 5);
        refused(World.RUN, INDEX, "at", 4, 1001, 0, 0);
        refused(World.RUN, INDEX, "at", -1, 0, 1001, 0);
        refused(World.RUN, INDEX, "at", 4, 0, 0, 2);
    }

    private static int[] row(int... numbers) {
        return numbers;
    }

    private static void spans(String name, int[] good, Span... spans) {
        for (int k = 0; k < spans.length; k++) {
            for (int number : new int[] {spans[k].least(), spans[k].most()}) {
                taken(World.RUN, spans[k].refusal(), name, with(good, k, number));
            }
            for (int number : spans[k].outside()) {
                refused(World.RUN, spans[k].refusal(), name, with(good, k, number));
            }
        }
    }

    private static int[] with(int[] numbers, int k, int number) {
        int[] changed = numbers.clone();
        changed[k] = number;
        return changed;
    }

    private static void taken(World world, String refusal, String name, int... numbers) {
        String got = world.make().answer(name, numbers);
        check(!got.equals(refusal) && !got.startsWith("no "), world, name, numbers, got + ", but it is to be taken");
    }

    private static void refused(World world, String refusal, String name, int... numbers) {
        Calls calls = world.make();
        String got = calls.answer(name, numbers);
        check(got.equals(refusal), world, name, numbers, got + ", due is " + refusal);
        Calls untouched = world.make();
        List<String> due = allAnswers(untouched);
        List<String> after = allAnswers(calls);
        for (int k = 0; k < due.size(); k++) {
            check(due.get(k).equals(after.get(k)), world, name, numbers, got + ", and then " + after.get(k)
                    + " instead of " + due.get(k));
        }
        check(calls.made() <= 512, world, name, numbers, "and all: " + calls.made() + " calls on one object");
    }

    private static void check(boolean good, World world, String name, int[] numbers, String what) {
        checks++;
        if (!good) {
            wrong++;
            System.out.println(world + ": " + name + java.util.Arrays.toString(numbers) + " answered " + what);
        }
    }

    /** What an object answers to a long row of questions, the same for each object of a world. */
    private static List<String> allAnswers(Calls calls) {
        List<String> found = new ArrayList<>();
        found.add("written " + calls.written());
        ask(found, calls, "count", row(3));
        if (found.get(1).endsWith(STATE)) {
            ask(found, calls, "run");
        }
        askNet(found, calls);
        askBeds(found, calls);
        for (int[] place : new int[][] {{0, 0}, {3, 3}, {5, 0}, {12, 12}}) {
            ask(found, calls, "doubt", place);
            for (int week : new int[] {3, 5, 99}) {
                ask(found, calls, "wet", row(week, place[0], place[1], 0));
            }
            ask(found, calls, "later", row(place[0], place[1], 1, 12));
            ask(found, calls, "later", row(place[0], place[1], 1, 14));
        }
        for (int kind = 0; kind <= 7; kind++) {
            ask(found, calls, "volume", row(kind, -1000, -1000, 1000, 1000));
        }
        ask(found, calls, "write", row(0));
        found.add("written " + calls.written());
        // A text that was begun, goes on, and shows in what it tells that nothing was added to it or taken away.
        found.add("taken " + calls.tell(" 5 e"));
        ask(found, calls, "read");
        for (int what = 0; what <= 3; what++) {
            ask(found, calls, "count", row(what));
        }
        ask(found, calls, "write", row(4));
        found.add("written " + calls.written());
        return found;
    }

    private static void ask(List<String> found, Calls calls, String name, int... numbers) {
        found.add(name + java.util.Arrays.toString(numbers) + " -> " + calls.answer(name, numbers));
    }

    private static void askNet(List<String> found, Calls calls) {
        for (int what = 0; what <= 6; what++) {
            ask(found, calls, "count", row(what));
        }
        for (int k = 0; k <= 6; k++) {
            ask(found, calls, "edge", row(k, 0));
            ask(found, calls, "edge", row(k, 1));
            ask(found, calls, "edge", row(k, 2));
        }
        ask(found, calls, "triangle", row(0, 2));
        ask(found, calls, "triangle", row(1, 2));
        for (int[] pair : new int[][] {{0, 1}, {2, 0}, {1, 2}, {2, 3}}) {
            ask(found, calls, "sum", pair);
            for (int k = 0; k <= 3; k++) {
                ask(found, calls, "match", row(pair[0], pair[1], k));
                ask(found, calls, "section", row(pair[0], pair[1], k, 0));
                ask(found, calls, "section", row(pair[0], pair[1], k, 1));
            }
        }
        ask(found, calls, "crosses");
    }

    private static void askBeds(List<String> found, Calls calls) {
        for (int k = 0; k <= 4; k++) {
            for (int what = 0; what <= 4; what++) {
                ask(found, calls, "bed", row(k, what));
            }
            ask(found, calls, "at", row(k, 3, 3, 0));
            ask(found, calls, "at", row(k, 0, 10, 0));
            ask(found, calls, "at", row(k, 3, 3, 1));
        }
        for (int boring = 0; boring <= 4; boring++) {
            for (int layer = 0; layer <= 2; layer++) {
                ask(found, calls, "bedOf", row(boring, layer));
            }
        }
    }
}
