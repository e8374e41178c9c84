import java.util.ArrayList;
import java.util.List;
import java.util.Random;

/** Long runs of chosen calls on the class and on the plain model: every answer must be the same. */
public final class PlainModelTest {
    private static final int RUNS = 6000;
    private static final int CALLS = 300;
    private static final int CROWDS = 300;
    private static final int DEEP_RUNS = 12;

    private final Random chance;
    private final int reach;
    private final int thickest;
    private final int mostLayers;
    private final Calls real = new Calls(new LayerJoins());
    private final Calls plain = new Calls(new PlainModel());
    private final List<String> told = new ArrayList<>();
    private boolean wrong;

    private PlainModelTest(long seed) {
        chance = new Random(seed);
        reach = new int[] {2, 4, 10, 60, 1000}[chance.nextInt(5)];
        thickest = new int[] {3, 50, 300, 10000}[chance.nextInt(4)];
        mostLayers = 1 + chance.nextInt(5);
    }

    public static void main(String[] args) {
        long answers = 0;
        for (long seed = 1; seed <= RUNS + CROWDS + DEEP_RUNS; seed++) {
            PlainModelTest test = new PlainModelTest(seed);
            if (seed <= RUNS) {
                test.mixed();
            } else if (seed <= RUNS + CROWDS) {
                test.crowd();
            } else {
                test.deep();
            }
            answers += test.told.size();
            if (test.wrong) {
                System.out.println("seed " + seed + ":");
                test.told.forEach(System.out::println);
                System.exit(1);
            }
        }
        System.out.println("PlainModelTest: " + answers + " answers are those of the plain model");
    }

    /** Sixteen borings, thirteen of them inside of three: as many edges and triangles as there can be. */
    private void crowd() {
        call("boring", -1000, -1000, 7);
        call("boring", 1000, -999, 8);
        call("boring", 3, 1000, 9);
        while (borings() < 16) {
            call("boring", from(-200, 200), from(-500, 0), from(-50, 50));
        }
        for (int b = 0; b < 16; b++) {
            tellLayer(b);
            tellLayer(b);
        }
        for (int k = 0; k < 2; k++) {
            call("run");
            for (int e = 0; e <= number("count", 3); e++) {
                call("edge", e, 0);
                call("edge", e, 1);
                call("edge", e, 2);
            }
            for (int t = 0; t <= number("count", 5); t++) {
                call("triangle", t, 0);
                call("triangle", t, 1);
                call("triangle", t, 2);
            }
            ask();
            call("fault", from(-200, 0), from(-500, 0), from(0, 200), from(-500, 0));
        }
    }

    /** Two borings with all the layers that there can be, of few kinds and thicknesses, so that many sums are the same. */
    private void deep() {
        call("boring", 0, 0, 0);
        call("boring", 5, 0, 0);
        int kinds = from(1, 4);
        for (int k = 0; k < 12; k++) {
            call("layer", 0, from(0, kinds), from(1, 4) * 50);
            call("layer", 1, from(0, kinds), from(1, 4) * 50);
        }
        call("age", 1, from(0, 2));
        call("run");
        call("sum", 0, 1);
        for (int k = 0; k <= 12; k++) {
            call("match", 0, 1, k);
            call("match", 1, 0, k);
        }
        for (int k = 0; k <= 24; k++) {
            call("section", 0, 1, k, 0);
            call("section", 0, 1, k, 1);
            call("section", 1, 0, k, 0);
            call("section", 1, 0, k, 1);
        }
    }

    private void call(String name, int... numbers) {
        if (wrong) {
            return;
        }
        String got = real.answer(name, numbers);
        String due = plain.answer(name, numbers);
        StringBuilder row = new StringBuilder(name).append(java.util.Arrays.toString(numbers)).append(" -> ").append(got);
        if (!got.equals(due)) {
            row.append(", due is ").append(due);
            wrong = true;
        }
        told.add(row.toString());
    }

    private int from(int least, int most) {
        return least + chance.nextInt(most - least + 1);
    }

    /** Mostly what fits, sometimes just outside or far off. */
    private int near(int least, int most) {
        return switch (chance.nextInt(24)) {
            case 0 -> least - 1;
            case 1 -> most + 1;
            case 2 -> chance.nextBoolean() ? Integer.MIN_VALUE : Integer.MAX_VALUE;
            default -> from(least, Math.max(least, most));
        };
    }

    private int spot() {
        return chance.nextInt(60) == 0 ? near(-1000, 1000) : from(-reach, reach);
    }

    private int borings() {
        return Integer.parseInt(plain.answer("count", 0));
    }

    private int someBoring() {
        return near(0, borings() - 1);
    }

    private void mixed() {
        int first = from(0, 10);
        for (int k = 0; k < first; k++) {
            tellBoring();
        }
        while (told.size() < CALLS && !wrong) {
            switch (chance.nextInt(40)) {
                case 0 -> tellBoring();
                case 1 -> tellLayer(someBoring());
                case 2, 3 -> call("age", near(0, 7), chance.nextBoolean() ? from(0, 4) : near(0, 99));
                case 4 -> call("fault", spot(), spot(), spot(), spot());
                case 5 -> call("lens", near(1, 100));
                case 6, 7, 8, 9 -> call("water", someBoring(), chance.nextInt(9) == 0 ? near(0, 99) : from(0, 3), level());
                case 10 -> call("within", chance.nextBoolean() ? from(0, 20) : near(0, 10000));
                case 11 -> text();
                case 12 -> call("write", someBoring());
                case 13 -> call("letter", near(0, 30));
                case 14 -> call("doubt", spot(), spot());
                default -> {
                    if (chance.nextInt(20) != 0) {
                        call("run");
                    }
                    ask();
                }
            }
        }
    }

    private int level() {
        return chance.nextBoolean() ? from(-20, 20) : near(-100000, 100000);
    }

    private void tellBoring() {
        call("boring", spot(), spot(), level());
        int layers = from(0, mostLayers);
        for (int k = 0; k < layers; k++) {
            tellLayer(borings() - 1);
        }
    }

    // The plain model tries every matching: borings of many layers would take it too long.
    private void tellLayer(int boring) {
        boolean isTold = boring >= 0 && boring < borings();
        if (!isTold || layersOf(boring) < 6) {
            call("layer", boring, chance.nextBoolean() ? from(0, 2) : near(0, 7),
                    chance.nextInt(30) == 0 ? near(1, 10000) : from(1, thickest));
        }
    }

    private int layersOf(int boring) {
        plain.answer("write", boring);
        real.answer("write", boring);
        return plain.written().split(" ").length / 2 - 2;
    }

    private void text() {
        StringBuilder text = new StringBuilder();
        int some = from(0, 2);
        for (int k = 0; k < some; k++) {
            text.append("b ").append(spot()).append(' ').append(spot()).append('\n').append(level());
            int layers = from(0, 3);
            for (int i = 0; i < layers; i++) {
                text.append("  ").append(near(0, 7)).append(' ').append(from(1, thickest));
            }
            text.append(" e ");
        }
        if (chance.nextInt(3) == 0 && text.length() > 0) {
            int at = chance.nextInt(text.length());
            text.setCharAt(at, " -0be19x".charAt(chance.nextInt(8)));
        }
        if (chance.nextInt(6) == 0) {
            text.setLength(chance.nextInt(text.length() + 1));
        }
        for (int k = 0; k < text.length(); k++) {
            call("unit", text.charAt(k));
        }
        call("unit", near(32, 126) > 126 ? 10 : 32);
        call("unit", 31);
        call("read");
    }

    private void ask() {
        int beds = Math.max(0, number("count", 6));
        for (int k = 0; k < 7; k++) {
            call("count", k);
        }
        call("crosses");
        for (int k = 0; k < 8; k++) {
            call("edge", near(0, number("count", 3) - 1), near(0, 2));
            call("triangle", near(0, number("count", 5) - 1), near(0, 2));
            int a = someBoring();
            int b = someBoring();
            if (chance.nextInt(4) != 0 && number("count", 3) > 0) {
                int edge = from(0, number("count", 3) - 1);
                boolean turned = chance.nextBoolean();
                a = number("edge", edge, turned ? 1 : 0);
                b = number("edge", edge, turned ? 0 : 1);
            }
            call("match", a, b, near(0, 3));
            call("sum", a, b);
            call("section", a, b, near(0, 5), near(0, 1));
            call("bed", near(0, beds - 1), near(0, 4));
            call("bedOf", someBoring(), near(0, 3));
            int bed = near(0, beds - 1);
            int x = spot();
            int y = spot();
            call("at", bed, x, y, 0);
            call("at", bed, x, y, near(0, 1));
            int week = from(0, 4) == 0 ? near(0, 99) : from(0, 3);
            call("wet", week, x, y, 0);
            call("wet", week, x, y, near(0, 1));
            call("volume", near(0, 7), chance.nextBoolean() ? -1000 : spot(), chance.nextBoolean() ? -1000 : spot(),
                    chance.nextBoolean() ? 1000 : spot(), chance.nextBoolean() ? Integer.MAX_VALUE : spot());
            call("later", x, y, near(0, 7), level());
        }
    }

    private int number(String name, int... numbers) {
        String answer = plain.answer(name, numbers);
        return answer.startsWith("throws") ? 0 : Integer.parseInt(answer);
    }
}
