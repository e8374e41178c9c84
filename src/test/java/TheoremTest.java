import java.lang.reflect.Field;
import java.util.Random;

/**
 * Promise 16. That no matching crosses is looked at by match() over many runs; that crosses() would tell it can be seen
 * in no run of calls, so here, and nowhere else, the state inside the object is bent by hand.
 */
public final class TheoremTest {
    private static final int RUNS = 2000;
    private static final int MOST_LAYERS = 12;

    private static int checks = 0;
    private static int wrong = 0;

    public static void main(String[] args) throws ReflectiveOperationException {
        Random chance = new Random(16);
        for (int run = 0; run < RUNS; run++) {
            noMatchingCrosses(chance, run);
        }
        bentMatchingsCross();
        System.out.println("TheoremTest: " + checks + " checks, " + wrong + " wrong");
        if (wrong != 0) {
            System.exit(1);
        }
    }

    private static void check(boolean good, String what) {
        checks++;
        if (!good) {
            wrong++;
            System.out.println("promise 16: " + what);
        }
    }

    private static void noMatchingCrosses(Random chance, int run) {
        LayerJoins joins = new LayerJoins();
        int[] layers = {chance.nextInt(MOST_LAYERS + 1), chance.nextInt(MOST_LAYERS + 1)};
        int kinds = 1 + chance.nextInt(8);
        int thickest = 1 + chance.nextInt(200);
        for (int boring = 0; boring < 2; boring++) {
            joins.boring(boring, 0, 0);
            for (int layer = 0; layer < layers[boring]; layer++) {
                joins.layer(boring, chance.nextInt(kinds), 1 + chance.nextInt(thickest));
            }
        }
        joins.run();
        boolean[] taken = new boolean[MOST_LAYERS];
        int above = LayerJoins.NONE;
        for (int layer = 0; layer < layers[0]; layer++) {
            int partner = joins.match(0, 1, layer);
            if (partner != LayerJoins.NONE) {
                check(partner > above, "run " + run + ": the pair of layer " + layer + " crosses one above it");
                check(!taken[partner], "run " + run + ": layer " + partner + " is in two pairs");
                check(joins.match(1, 0, partner) == layer, "run " + run + ": the pair of " + layer + " is none from below");
                taken[partner] = true;
                above = partner;
            }
        }
        for (int layer = 0; layer < layers[1]; layer++) {
            check(taken[layer] || joins.match(1, 0, layer) == LayerJoins.NONE, "run " + run + ": " + layer + " has a pair");
        }
        check(!joins.crosses(), "run " + run + ": crosses() is true");
    }

    private static void bentMatchingsCross() throws ReflectiveOperationException {
        LayerJoins joins = new LayerJoins();
        for (int boring = 0; boring < 3; boring++) {
            joins.boring(boring, 0, 0);
            for (int layer = 0; layer < 3; layer++) {
                joins.layer(boring, layer, 10);
            }
        }
        joins.run();
        int[] pairs = pairsOf(joins);
        for (int edge = 0; edge < 2; edge++) {
            int first = edge * MOST_LAYERS;
            bend(joins, pairs, first, true, "two pairs cross", 1, 0, 2);
            bend(joins, pairs, first, true, "the lower two pairs cross", 0, 2, 1);
            bend(joins, pairs, first, true, "two pairs cross over a layer that ends", 2, LayerJoins.NONE, 0);
            bend(joins, pairs, first, true, "a layer is in two pairs", 1, 1, 2);
            bend(joins, pairs, first, true, "a layer is in two pairs, with one between that ends", 0, LayerJoins.NONE, 0);
            bend(joins, pairs, first, false, "layers end", LayerJoins.NONE, 1, LayerJoins.NONE);
            bend(joins, pairs, first, false, "all are pairs", 0, 1, 2);
        }
    }

    private static void bend(LayerJoins joins, int[] pairs, int first, boolean due, String what, int... partners) {
        System.arraycopy(partners, 0, pairs, first, partners.length);
        check(joins.crosses() == due, what + " at " + first + ": crosses() is not " + due);
        joins.run();
        check(!joins.crosses(), what + " at " + first + ": crosses() is true after run()");
    }

    private static int[] pairsOf(LayerJoins joins) throws ReflectiveOperationException {
        return (int[]) inside(inside(joins, "matchings"), "ofFirsts");
    }

    private static Object inside(Object owner, String name) throws ReflectiveOperationException {
        Field field = owner.getClass().getDeclaredField(name);
        field.setAccessible(true);
        return field.get(owner);
    }
}
