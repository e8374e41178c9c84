/** The sentences of the document that name no boundary, each by its words; the others are in TermsTest and BoundaryTest. */
public final class SentenceTest {
    // All layers of kind 4, on the plane x + 2 y; twice the area of the triangle is 36.
    private static final String PLANE = """
        boring(0, 0, 0) -> 0
        boring(6, 0, 6) -> 1
        boring(0, 6, 12) -> 2
        layer(0, 4, 6) -> 0
        layer(1, 4, 12) -> 0
        layer(2, 4, 24) -> 0
        """;

    // Between the two, the layers of kinds 2 and 3 are matched; that of kind 1 would have to cross them.
    private static final String ENDS = """
        boring(0, 0, 0) -> 0
        layer(0, 1, 10) -> 0
        layer(0, 2, 20) -> 1
        layer(0, 3, 30) -> 2
        boring(9, 0, 0) -> 1
        layer(1, 2, 20) -> 0
        layer(1, 3, 30) -> 1
        layer(1, 1, 10) -> 2
        run() -> 4
        """;

    public static void main(String[] args) {
        whatItIs();
        whatItIsOfTexts();
        triangles();
        matchings();
        sums();
        levels();
        planes();
        volumes();
        lenses();
        exceptions();
        whatNeedsNoRun();
        telling();
        counts();
        matches();
        sections();
        beds();
        asking();
        texts();
        Script.end("SentenceTest");
    }

    private static void check(String words, String... scripts) {
        Script.check("sentence: " + words, scripts);
    }

    private static void whatItIs() {
        check("layers of each boring matched with those of its neighbours by the least sum, without crossings", ENDS, """
            match(0, 1, 0) -> -1
            match(0, 1, 1) -> 0
            match(0, 1, 2) -> 1
            sum(0, 1) -> 20
            crosses() -> false
            """);
        check("beds that go through many borings", """
            16 * boring(#, 0, #) -> #
            16 * layer(#, 5, 7) -> 0
            run() -> 1
            bed(0, 1) -> 16
            16 * bedOf(#, 0) -> 0
            """);
        check("their levels on triangles", PLANE, """
            run() -> 1
            at(0, 2, 3, 0) -> 8
            """);
        check("exact volumes with lenses that end between borings", PLANE, """
            layer(0, 5, 1) -> 1
            lens(33) -> true
            run() -> 2
            volume(5, 0, 0, 6, 6) -> 78408
            """);
        check("faults that part neighbours", PLANE, """
            run() -> 1
            fault(3, -1, 3, 1) -> true
            run() -> 1
            sum(0, 1) -> throws.IllegalArgumentException
            sum(0, 2) -> 18
            fault(-1, 3, 1, 3) -> true
            run() -> 2
            sum(0, 2) -> throws.IllegalArgumentException
            bedOf(0, 0) -> 0
            bedOf(1, 0) -> 1
            bedOf(2, 0) -> 1
            """);
        check("water by weeks", PLANE, """
            water(0, 1, 5) -> true
            water(0, 2, 6) -> true
            run() -> 1
            wet(1, 0, 0, 0) -> 5
            wet(2, 0, 0, 0) -> 6
            """);
        check("later findings held against what is foretold", PLANE, """
            run() -> 1
            later(2, 3, 4, 8) -> 0
            later(2, 3, 4, 9) -> 1
            later(2, 3, 5, 8) -> 2
            """);
    }

    private static void whatItIsOfTexts() {
        check("texts of borings", """
            text "b 3 -4 5 6 7 e" -> true
            read() -> 1
            write(0) -> 14
            written -> b 3 -4 5 6 7 e
            """);
    }

    private static void triangles() {
        check("A TRIANGLE is three borings a, b, c (a less than b, b less than c)", """
            boring(10, 10, 0) -> 0
            boring(0, 0, 0) -> 1
            boring(0, 10, 0) -> 2
            boring(10, 0, 0) -> 3
            run() -> 0
            count(5) -> 2
            triangle(0, 0) -> 0
            triangle(0, 1) -> 1
            triangle(0, 2) -> 2
            triangle(1, 0) -> 0
            triangle(1, 1) -> 1
            triangle(1, 2) -> 3
            """);
        check("three borings a, b, c: turned to the other side", """
            boring(0, 0, 0) -> 0
            boring(0, 10, 0) -> 1
            boring(10, 0, 0) -> 2
            run() -> 0
            triangle(0, 0) -> 0
            triangle(0, 1) -> 1
            triangle(0, 2) -> 2
            """);
    }

    private static void matchings() {
        check("pairs of a layer of a and a layer of b", """
            boring(0, 0, 0) -> 0
            layer(0, 1, 10) -> 0
            layer(0, 1, 70) -> 1
            layer(0, 2, 40) -> 2
            boring(9, 0, 0) -> 1
            layer(1, 1, 71) -> 0
            layer(1, 3, 5) -> 1
            layer(1, 2, 43) -> 2
            run() -> 4
            match(0, 1, 0) -> -1
            match(0, 1, 1) -> 0
            match(0, 1, 2) -> 2
            match(1, 0, 0) -> 1
            match(1, 0, 1) -> -1
            match(1, 0, 2) -> 2
            """);
        check("of two pairs the one with the upper layer of a has the upper layer of b", ENDS, """
            match(0, 1, 1) -> 0
            match(0, 1, 2) -> 1
            match(1, 0, 2) -> -1
            """);
        check("THE MATCHING is the one with the least sum: not the nearest pair first", """
            boring(0, 0, 0) -> 0
            layer(0, 0, 10) -> 0
            layer(0, 0, 100) -> 1
            boring(9, 0, 0) -> 1
            layer(1, 0, 100) -> 0
            run() -> 2
            match(0, 1, 0) -> -1
            match(0, 1, 1) -> 0
            sum(0, 1) -> 10
            """);
        check("THE MATCHING is the one with the least sum: over layers of other kinds", """
            boring(0, 0, 0) -> 0
            layer(0, 0, 60) -> 0
            layer(0, 1, 60) -> 1
            boring(9, 0, 0) -> 1
            layer(1, 1, 60) -> 0
            layer(1, 0, 60) -> 1
            run() -> 3
            match(0, 1, 0) -> 1
            match(0, 1, 1) -> -1
            sum(0, 1) -> 120
            """);
    }

    private static void sums() {
        // A pair of one kind 6, a layer that ends 7, a pair of two kinds 10 + 100 + 50 * 2, a layer that ends 3.
        check("The SUM of a matching is all costs together", """
            age(3, 10) -> true
            age(4, 12) -> true
            boring(0, 0, 0) -> 0
            layer(0, 1, 50) -> 0
            layer(0, 2, 7) -> 1
            layer(0, 3, 500) -> 2
            boring(9, 0, 0) -> 1
            layer(1, 1, 44) -> 0
            layer(1, 4, 490) -> 1
            layer(1, 5, 3) -> 2
            run() -> 4
            match(0, 1, 0) -> 0
            match(0, 1, 1) -> -1
            match(0, 1, 2) -> 1
            sum(0, 1) -> 226
            sum(1, 0) -> 226
            """);
    }

    private static void levels() {
        check("LEVELS AT A PLACE, of a bed (or of water, told by boring and week)", PLANE, """
            water(0, 7, 100) -> true
            water(1, 7, 106) -> true
            water(2, 7, 112) -> true
            water(0, 8, -100) -> true
            water(1, 8, -106) -> true
            water(2, 8, -112) -> true
            run() -> 1
            at(0, 2, 3, 0) -> 8
            wet(7, 2, 3, 0) -> 108
            wet(8, 2, 3, 0) -> -108
            """);
        check("otherwise there is none: beside the triangle", PLANE, """
            run() -> 1
            at(0, 4, 3, 0) -> 0
            at(0, 4, 3, 1) -> 0
            at(0, -1, 0, 1) -> 0
            """);
        check("otherwise there is none: between two borings without a triangle", """
            boring(0, 0, 8) -> 0
            layer(0, 1, 1) -> 0
            boring(2, 0, 8) -> 1
            layer(1, 1, 1) -> 0
            run() -> 1
            at(0, 0, 0, 0) -> 8
            at(0, 1, 0, 0) -> 0
            at(0, 1, 0, 1) -> 0
            at(0, 2, 0, 0) -> 8
            """);
        check("otherwise there is none: at a boring without it", PLANE, """
            layer(0, 5, 9) -> 1
            run() -> 2
            at(1, 0, 0, 0) -> -6
            at(1, 6, 0, 0) -> 0
            at(1, 6, 0, 1) -> 0
            """);
    }

    private static void planes() {
        check("the level at the place of the plane through the three", PLANE, """
            run() -> 1
            at(0, 1, 1, 0) -> 3
            at(0, 1, 1, 1) -> 1
            at(0, 3, 0, 0) -> 3
            at(0, 0, 5, 0) -> 10
            at(0, 2, 4, 0) -> 10
            at(0, 4, 1, 0) -> 6
            """);
        check("the level at the place of the plane through the three: on 3 x - 2 y + 11", """
            boring(-7, 2, -14) -> 0
            boring(5, -3, 32) -> 1
            boring(1, 9, -4) -> 2
            3 * layer(#, 0, 1) -> 0
            run() -> 1
            at(0, 0, 3, 0) -> 5
            at(0, 0, 3, 1) -> 1
            at(0, -1, 2, 0) -> 4
            at(0, 2, 5, 0) -> 7
            """);
        check("the level at the place of the plane through the three: on x / 6", """
            boring(0, 0, 0) -> 0
            boring(6, 0, 1) -> 1
            boring(0, 6, 0) -> 2
            3 * layer(#, 0, 1) -> 0
            run() -> 1
            at(0, 1, 1, 0) -> 1
            at(0, 1, 1, 1) -> 6
            at(0, 2, 1, 1) -> 3
            at(0, 4, 2, 0) -> 2
            at(0, 4, 2, 1) -> 3
            at(0, 0, 3, 0) -> 0
            at(0, 0, 3, 1) -> 1
            """);
    }

    private static void volumes() {
        check("THE VOLUME of a bed in a triangle: t, u, v thicknesses of the bed in its borings", PLANE, """
            run() -> 1
            volume(4, 0, 0, 6, 6) -> 30240000
            """);
        check("as far as they have it: in two", PLANE, """
            layer(0, 5, 3) -> 1
            layer(2, 5, 4) -> 1
            run() -> 2
            volume(5, 0, 0, 6, 6) -> 3150000
            """);
        check("as far as they have it: in one", PLANE, """
            layer(1, 5, 4) -> 1
            run() -> 2
            volume(5, 0, 0, 6, 6) -> 720000
            """);
        check("as far as they have it: in a boring that is none of the triangle's", """
            boring(20, 20, 0) -> 0
            boring(0, 0, 0) -> 1
            boring(6, 0, 0) -> 2
            boring(0, 6, 0) -> 3
            layer(0, 5, 9) -> 0
            layer(2, 5, 9) -> 0
            run() -> 1
            volume(5, 0, 0, 6, 6) -> 1620000
            """);
    }

    private static void lenses() {
        check("e the LENS of the way to a boring without it at which it ends: all the way, as if it were 0 there", PLANE, """
            layer(0, 5, 3) -> 1
            layer(2, 5, 4) -> 1
            layer(1, 6, 4) -> 1
            lens(100) -> true
            run() -> 3
            volume(5, 0, 0, 6, 6) -> 5040000
            volume(6, 0, 0, 6, 6) -> 2880000
            """);
        check("e the LENS of the way to a boring without it: none where all have it", PLANE, """
            run() -> 1
            lens(1) -> true
            volume(4, 0, 0, 6, 6) -> 30240000
            lens(100) -> true
            volume(4, 0, 0, 6, 6) -> 30240000
            """);
    }

    private static void exceptions() {
        check("IndexOutOfBoundsException: there is no such boring, layer, edge, triangle, bed, row", PLANE, """
            layer(3, 0, 1) -> throws.IndexOutOfBoundsException
            write(3) -> throws.IndexOutOfBoundsException
            run() -> 1
            sum(0, 3) -> throws.IndexOutOfBoundsException
            match(0, 1, 1) -> throws.IndexOutOfBoundsException
            bedOf(0, 1) -> throws.IndexOutOfBoundsException
            edge(3, 0) -> throws.IndexOutOfBoundsException
            triangle(1, 0) -> throws.IndexOutOfBoundsException
            bed(1, 0) -> throws.IndexOutOfBoundsException
            at(1, 0, 0, 0) -> throws.IndexOutOfBoundsException
            section(0, 1, 1, 0) -> throws.IndexOutOfBoundsException
            """);
        check("IllegalArgumentException: another number is none that is told", PLANE, """
            boring(1001, 0, 0) -> throws.IllegalArgumentException
            boring(9, 9, 100001) -> throws.IllegalArgumentException
            layer(0, 8, 1) -> throws.IllegalArgumentException
            layer(0, 0, 0) -> throws.IllegalArgumentException
            run() -> 1
            edge(0, 3) -> throws.IllegalArgumentException
            triangle(0, 3) -> throws.IllegalArgumentException
            section(0, 1, 0, 2) -> throws.IllegalArgumentException
            bed(0, 5) -> throws.IllegalArgumentException
            at(0, 0, 1001, 0) -> throws.IllegalArgumentException
            at(0, 0, 0, 2) -> throws.IllegalArgumentException
            wet(100, 0, 0, 0) -> throws.IllegalArgumentException
            wet(0, 0, -1001, 0) -> throws.IllegalArgumentException
            wet(0, 0, 0, -1) -> throws.IllegalArgumentException
            volume(8, 0, 0, 6, 6) -> throws.IllegalArgumentException
            later(0, 0, 0, 100001) -> throws.IllegalArgumentException
            """);
        check("Of several the one named first", PLANE, """
            edge(9, 9) -> throws.IllegalStateException
            match(9, 9, 9) -> throws.IllegalStateException
            wet(-1, 9999, 9999, 9) -> throws.IllegalStateException
            layer(9, 9, 0) -> throws.IndexOutOfBoundsException
            run() -> 1
            edge(9, 9) -> throws.IndexOutOfBoundsException
            match(0, 0, 9) -> throws.IndexOutOfBoundsException
            at(9, 9999, 9999, 9) -> throws.IndexOutOfBoundsException
            bed(9, 9) -> throws.IndexOutOfBoundsException
            boring(50, 50, 0) -> 3
            12 * layer(3, 4, 1) -> #
            layer(4, 9, 1) -> throws.IndexOutOfBoundsException
            layer(3, 9, 1) -> throws.IllegalArgumentException
            layer(3, 4, 1) -> throws.UnsupportedOperationException
            """);
    }

    private static void whatNeedsNoRun() {
        check("What says so throws IllegalStateException: what does not say so needs no run()", """
            boring(1, 2, 3) -> 0
            layer(0, 1, 5) -> 0
            age(1, 3) -> true
            fault(0, 0, 1, 0) -> true
            lens(10) -> true
            water(0, 5, 6) -> true
            within(7) -> true
            count(0) -> 1
            count(1) -> 1
            count(2) -> 1
            count(7) -> -1
            doubt(9, 9) -> 0
            text "b 5 5 5 e" -> true
            read() -> 1
            write(1) -> 9
            letter(0) -> 98
            count(3) -> throws.IllegalStateException
            run() -> 1
            count(3) -> 1
            """);
    }

    private static void telling() {
        check("A fault", PLANE, """
            count(1) -> 0
            fault(3, -1, 3, 1) -> true
            count(1) -> 1
            run() -> 1
            count(4) -> 1
            """);
        check("The lens", PLANE, """
            layer(1, 5, 4) -> 1
            run() -> 2
            lens(20) -> true
            volume(5, 0, 0, 6, 6) -> 115200
            lens(40) -> true
            volume(5, 0, 0, 6, 6) -> 460800
            """);
        check("The level of water in a boring in a week", PLANE, """
            water(1, 4, -55) -> true
            water(2, 4, 66) -> true
            count(2) -> 2
            run() -> 1
            wet(4, 6, 0, 0) -> -55
            wet(4, 6, 0, 1) -> 1
            wet(4, 0, 6, 0) -> 66
            wet(4, 0, 0, 1) -> 0
            wet(5, 6, 0, 1) -> 0
            """);
        check("By how much later findings may be off", PLANE, """
            run() -> 1
            later(2, 3, 4, 12) -> 1
            within(3) -> true
            later(2, 3, 4, 12) -> 1
            within(4) -> true
            later(2, 3, 4, 12) -> 0
            later(2, 3, 4, 4) -> 0
            later(2, 3, 4, 3) -> 1
            """);
    }

    private static void counts() {
        check("How many: what = 0 borings, 1 faults, 2 levels of water", PLANE, """
            fault(50, 50, 51, 51) -> true
            fault(50, 50, 51, 51) -> true
            water(0, 0, 0) -> true
            water(1, 0, 0) -> true
            water(2, 0, 0) -> true
            water(2, 1, 0) -> true
            count(0) -> 3
            count(1) -> 2
            count(2) -> 4
            """);
        check("Of the last run(): 3 edges, 4 broken ones, 5 triangles, 6 beds", """
            boring(10, 10, 0) -> 0
            boring(0, 0, 0) -> 1
            boring(0, 10, 0) -> 2
            boring(10, 0, 0) -> 3
            layer(0, 1, 5) -> 0
            layer(1, 1, 5) -> 0
            layer(2, 1, 5) -> 0
            layer(3, 1, 5) -> 0
            layer(3, 1, 900) -> 1
            run() -> 2
            count(3) -> 5
            count(4) -> 0
            count(5) -> 2
            count(6) -> 2
            fault(5, -1, 5, 1) -> true
            run() -> 2
            count(3) -> 5
            count(4) -> 1
            count(5) -> 1
            count(6) -> 2
            fault(9, 5, 11, 5) -> true
            run() -> 3
            count(3) -> 5
            count(4) -> 2
            count(5) -> 1
            count(6) -> 3
            """);
    }

    private static void matches() {
        check("The layer of b with which a layer of a is matched", ENDS, """
            match(0, 1, 1) -> 0
            match(0, 1, 2) -> 1
            """);
        check("Also for a greater than b: the other way round", ENDS, """
            match(1, 0, 0) -> 1
            match(1, 0, 1) -> 2
            match(1, 0, 2) -> -1
            """);
        check("The sum of the matching of two neighbours", """
            boring(0, 0, 0) -> 0
            boring(6, 0, 0) -> 1
            boring(0, 6, 0) -> 2
            layer(0, 1, 10) -> 0
            layer(1, 1, 13) -> 0
            layer(2, 1, 30) -> 0
            run() -> 1
            sum(0, 1) -> 3
            sum(0, 2) -> 20
            sum(1, 2) -> 17
            sum(2, 1) -> 17
            """);
    }

    private static void sections() {
        check("Row k (from 0) of the section between two neighbours: from the top down", ENDS, """
            section(0, 1, 0, 0) -> 0
            section(0, 1, 1, 0) -> 1
            section(0, 1, 2, 0) -> 2
            section(0, 1, 1, 1) -> 0
            section(0, 1, 2, 1) -> 1
            section(0, 1, 3, 1) -> 2
            section(0, 1, 4, 0) -> throws.IndexOutOfBoundsException
            """);
        check("what = 0 the layer of a, 1 that of b, NONE where there is none", ENDS, """
            section(0, 1, 0, 1) -> -1
            section(0, 1, 1, 0) -> 1
            section(0, 1, 1, 1) -> 0
            section(0, 1, 3, 0) -> -1
            section(1, 0, 0, 0) -> -1
            section(1, 0, 0, 1) -> 0
            section(1, 0, 1, 0) -> 0
            section(1, 0, 1, 1) -> 1
            section(1, 0, 3, 0) -> 2
            section(1, 0, 3, 1) -> -1
            """);
    }

    private static void beds() {
        // One bed through all; below it one from boring 1 on, with two layers in boring 3: 2 is matched with the upper one,
        // 1 with the lower one.
        String two = """
            boring(100, 100, 0) -> 0
            layer(0, 2, 900) -> 0
            boring(0, 0, 0) -> 1
            layer(1, 2, 900) -> 0
            layer(1, 6, 30) -> 1
            boring(4, 0, 0) -> 2
            layer(2, 2, 900) -> 0
            layer(2, 6, 10) -> 1
            boring(0, 4, 0) -> 3
            layer(3, 2, 900) -> 0
            layer(3, 6, 10) -> 1
            layer(3, 6, 20) -> 2
            run() -> 2
            """;
        check("Of a bed: what = 0 its kind", two, "bed(0, 0) -> 2", "bed(1, 0) -> 6");
        check("1 in how many borings it is", two, "bed(0, 1) -> 4", "bed(1, 1) -> 3");
        check("2 how many layers it has", two, "bed(0, 2) -> 4", "bed(1, 2) -> 4");
        check("3 the boring of its first layer", two, "bed(0, 3) -> 0", "bed(1, 3) -> 1");
        check("4 the number of that", two, "bed(0, 4) -> 0", "bed(1, 4) -> 1");
        check("The bed of a layer", two, """
            4 * bedOf(#, 0) -> 0
            bedOf(1, 1) -> 1
            bedOf(2, 1) -> 1
            bedOf(3, 1) -> 1
            bedOf(3, 2) -> 1
            """);
    }

    private static void asking() {
        check("The level of water at a place in a week", PLANE, """
            water(0, 0, 0) -> true
            water(1, 0, 60) -> true
            water(2, 0, 120) -> true
            run() -> 1
            wet(0, 1, 1, 0) -> 30
            wet(0, 6, 0, 0) -> 60
            wet(0, 4, 3, 1) -> 0
            """);
        check("120000 times the volumes of all beds of a kind in all triangles", """
            boring(0, 0, 0) -> 0
            boring(6, 0, 0) -> 1
            boring(0, 6, 0) -> 2
            boring(7, 7, 0) -> 3
            4 * layer(#, 1, 2) -> 0
            layer(0, 2, 3) -> 1
            run() -> 2
            count(5) -> 2
            volume(1, 0, 0, 7, 7) -> 10080000
            volume(2, 0, 0, 7, 7) -> 540000
            """);
        check("A later finding: a bed of a kind has a level at a place", PLANE, """
            layer(0, 5, 9) -> 1
            run() -> 2
            later(0, 0, 5, -6) -> 0
            later(0, 0, 4, -6) -> 1
            later(6, 0, 5, -6) -> 2
            later(6, 0, 4, 6) -> 0
            later(1, 1, 4, 3) -> 0
            """);
        check("The boring that is nearest to a place", PLANE, """
            doubt(1, 1) -> 0
            doubt(5, 1) -> 1
            doubt(1, 5) -> 2
            doubt(1000, -1000) -> 1
            doubt(-1000, 1000) -> 2
            doubt(-1000, -1000) -> 0
            """);
    }

    private static void texts() {
        check("For each boring there are: the word b, three numbers (x, y, top)", """
            text "b 10 20 30 e" -> true
            read() -> 1
            layer(0, 1, 5) -> 0
            run() -> 1
            doubt(10, 20) -> 0
            boring(10, 20, 0) -> throws.IllegalArgumentException
            boring(20, 10, 0) -> 1
            run() -> 1
            at(0, 10, 20, 0) -> 30
            """);
        check("any number of pairs of numbers (kind, thickness) and the word e", """
            text "b 0 0 100 3 40 5 60 e" -> true
            read() -> 1
            run() -> 2
            bed(0, 0) -> 3
            bed(1, 0) -> 5
            at(0, 0, 0, 0) -> 100
            at(1, 0, 0, 0) -> 60
            write(0) -> 21
            """);
        check("the first word that cannot stand there: no such word", """
            text "c 0 0 0 e" -> true
            read() -> -1
            text "b zero 0 0 e" -> true
            read() -> -2
            text "b 0 0 0 1 e" -> true
            read() -> -6
            text "b 0 0 0 b" -> true
            read() -> -5
            text "b 0 0 0 e e" -> true
            read() -> -6
            count(0) -> 0
            """);
        check("-1 less the number (from 0 on) of the first word that cannot stand there: of two the first", """
            text "b 0 x 0 y e" -> true
            read() -> -3
            text "b 0 0 0 9 0 e" -> true
            read() -> -5
            """);
        check("Character i of what was written", """
            boring(-12, 3, 45) -> 0
            layer(0, 6, 78) -> 0
            write(0) -> 17
            letter(0) -> 98
            letter(1) -> 32
            letter(2) -> 45
            letter(3) -> 49
            letter(4) -> 50
            letter(6) -> 51
            letter(8) -> 52
            letter(11) -> 54
            letter(13) -> 55
            letter(14) -> 56
            letter(15) -> 32
            letter(16) -> 101
            letter(17) -> 0
            written -> b -12 3 45 6 78 e
            """);
    }
}
