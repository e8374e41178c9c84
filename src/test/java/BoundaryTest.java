/** The boundary cases that the promises name, each by the words that name it; those of the terms are in TermsTest. */
public final class BoundaryTest {
    // Three borings around a corner, one with a lens between two layers that go through.
    private static final String CORNER = """
        boring(0, 0, 10) -> 0
        layer(0, 1, 5) -> 0
        layer(0, 2, 7) -> 1
        boring(10, 0, 12) -> 1
        layer(1, 1, 6) -> 0
        layer(1, 2, 7) -> 1
        boring(0, 10, 8) -> 2
        layer(2, 1, 5) -> 0
        layer(2, 3, 2) -> 1
        layer(2, 2, 9) -> 2
        """;

    private static final String CORNER_RUN = CORNER + "run() -> 3\n";

    private static final String SIXTEEN = "16 * boring(#, 5, 0) -> #\n";

    private static final String TWELVE_PAIRS = " 0 1 1 2 2 3 3 4 4 5 5 6 6 7 7 8 0 9 1 10 2 11 3 12";

    public static void main(String[] args) {
        newObject();
        boringsAndLayers();
        agesAndFaults();
        lensWaterWithin();
        runAndCount();
        edgesAndTriangles();
        matches();
        sections();
        beds();
        levels();
        volumes();
        findings();
        nearest();
        units();
        goodTexts();
        words();
        numbers();
        placesOfTexts();
        fullTexts();
        shortTexts();
        writing();
        Script.end("BoundaryTest");
    }

    private static void check(int promise, String words, String... scripts) {
        Script.check("promise " + promise + ": " + words, scripts);
    }

    private static void newObject() {
        check(1, "No borings", """
            count(0) -> 0
            doubt(0, 0) -> -1
            layer(0, 0, 1) -> throws.IndexOutOfBoundsException
            write(0) -> throws.IndexOutOfBoundsException
            water(0, 0, 0) -> false
            run() -> 0
            match(0, 0, 0) -> throws.IndexOutOfBoundsException
            bedOf(0, 0) -> throws.IndexOutOfBoundsException
            """);
        check(1, "no faults", """
            count(1) -> 0
            boring(0, 0, 0) -> 0
            boring(1, 0, 0) -> 1
            run() -> 0
            count(4) -> 0
            edge(0, 2) -> 0
            """);
        check(1, "no water", """
            count(2) -> 0
            boring(0, 0, 0) -> 0
            run() -> 0
            100 * wet(#, 0, 0, 1) -> 0
            """);
        check(1, "the lens is 50", CORNER_RUN, """
            volume(3, 0, 0, 10, 10) -> 1000000
            """);
        check(1, "what is within is 0", CORNER_RUN, """
            later(0, 0, 1, 10) -> 0
            later(0, 0, 1, 9) -> 1
            later(0, 0, 1, 11) -> 1
            """);
        check(1, "an empty text", """
            read() -> 0
            letter(0) -> 0
            """);
    }

    private static void boringsAndLayers() {
        check(2, "A boring: its number", """
            boring(0, 0, 0) -> 0
            boring(1001, 0, 0) -> throws.IllegalArgumentException
            boring(1, 0, 0) -> 1
            """);
        check(2, "IllegalArgumentException: also if there is a boring at the place", """
            boring(-1000, 1000, 4) -> 0
            boring(-1000, 1000, 5) -> throws.IllegalArgumentException
            boring(1000, -1000, 5) -> 1
            write(0) -> 16
            written -> b -1000 1000 4 e
            count(0) -> 2
            """);
        check(2, "UnsupportedOperationException: there are 16", SIXTEEN, """
            boring(0, 6, 0) -> throws.UnsupportedOperationException
            count(0) -> 16
            """);
        check(2, "of several the one named first: a boring at the place, or another number, where there are 16", SIXTEEN, """
            boring(15, 5, 0) -> throws.IllegalArgumentException
            boring(1001, 6, 0) -> throws.IllegalArgumentException
            boring(0, -1001, 0) -> throws.IllegalArgumentException
            boring(0, 6, -100001) -> throws.IllegalArgumentException
            """);
        check(3, "One more layer, below the others: its number", """
            boring(0, 0, 100) -> 0
            layer(0, 1, 7) -> 0
            layer(0, 1, 0) -> throws.IllegalArgumentException
            layer(0, 2, 9) -> 1
            layer(0, 3, 1) -> 2
            write(0) -> 23
            written -> b 0 0 100 1 7 2 9 3 1 e
            run() -> 3
            at(2, 0, 0, 0) -> 84
            """);
        check(3, "UnsupportedOperationException: there are 12", """
            boring(0, 0, 0) -> 0
            11 * layer(0, 1, 1) -> #
            layer(0, 1, 1) -> 11
            layer(0, 1, 1) -> throws.UnsupportedOperationException
            run() -> 12
            """);
        check(3, "of several the one named first", """
            boring(0, 0, 0) -> 0
            12 * layer(0, 1, 1) -> #
            layer(1, 8, 0) -> throws.IndexOutOfBoundsException
            layer(-1, 1, 1) -> throws.IndexOutOfBoundsException
            layer(0, 8, 1) -> throws.IllegalArgumentException
            layer(0, 1, 10001) -> throws.IllegalArgumentException
            """);
    }

    private static void agesAndFaults() {
        check(4, "False: no such kind or age", """
            boring(0, 0, 0) -> 0
            layer(0, 0, 9000) -> 0
            boring(1, 0, 0) -> 1
            layer(1, 7, 9000) -> 0
            age(0, 10) -> true
            age(7, 13) -> true
            run() -> 1
            age(-1, 5) -> false
            age(8, 5) -> false
            age(0, -1) -> false
            age(7, 100) -> false
            sum(0, 1) -> 250
            run() -> 1
            sum(0, 1) -> 250
            """);
        check(4, "A kind's age: each kind has its own, and the last one told holds", """
            8 * age(#, 1#) -> true
            boring(0, 0, 0) -> 0
            boring(1, 0, 0) -> 1
            8 * layer(0, #, 9000) -> #
            layer(1, 7, 9000) -> 0
            layer(1, 0, 9000) -> 1
            run() -> 8
            sum(0, 1) -> 54600
            age(7, 99) -> true
            age(7, 0) -> true
            age(0, 0) -> true
            run() -> 8
            sum(0, 1) -> 54200
            """);
        check(5, "False: no such places", """
            fault(1001, 0, 0, 0) -> false
            fault(0, -1001, 0, 0) -> false
            fault(0, 0, -1001, 0) -> false
            fault(0, 0, 0, 1001) -> false
            count(1) -> 0
            """);
        check(5, "both are one", """
            fault(7, 7, 7, 7) -> false
            count(1) -> 0
            fault(7, 7, 7, 8) -> true
            fault(7, 7, 8, 7) -> true
            count(1) -> 2
            """);
        check(5, "or there are 8", """
            8 * fault(0, 0, 1, #) -> true
            fault(0, 0, 1, 8) -> false
            fault(0, 0, 1, 0) -> false
            count(1) -> 8
            """);
    }

    private static void lensWaterWithin() {
        check(6, "False: no such one", CORNER_RUN, """
            lens(1) -> true
            lens(0) -> false
            volume(3, 0, 0, 10, 10) -> 400
            lens(100) -> true
            lens(101) -> false
            volume(3, 0, 0, 10, 10) -> 4000000
            """);
        check(7, "in a week 0 .. 99", """
            boring(0, 0, 0) -> 0
            run() -> 0
            water(0, 0, 5) -> true
            water(0, 99, 6) -> true
            water(0, -1, 7) -> false
            water(0, 100, 7) -> false
            count(2) -> 2
            wet(0, 0, 0, 0) -> 5
            wet(99, 0, 0, 0) -> 6
            """);
        check(7, "-100000 .. 100000", """
            boring(0, 0, 0) -> 0
            run() -> 0
            water(0, 0, -100000) -> true
            water(0, 1, 100000) -> true
            water(0, 0, -100001) -> false
            water(0, 1, 100001) -> false
            water(0, 2, 100001) -> false
            wet(0, 0, 0, 0) -> -100000
            wet(1, 0, 0, 0) -> 100000
            count(2) -> 2
            """);
        check(7, "that of the same boring and week is replaced", """
            boring(0, 0, 0) -> 0
            boring(1, 0, 0) -> 1
            run() -> 0
            water(0, 4, 1) -> true
            water(1, 4, 2) -> true
            water(0, 5, 3) -> true
            water(0, 4, 9) -> true
            count(2) -> 3
            wet(4, 0, 0, 0) -> 9
            wet(4, 1, 0, 0) -> 2
            wet(5, 0, 0, 0) -> 3
            """);
        check(7, "False: none such", """
            water(0, 0, 0) -> false
            boring(0, 0, 0) -> 0
            water(0, 0, 0) -> true
            water(1, 0, 0) -> false
            water(-1, 0, 0) -> false
            water(2147483647, 0, 0) -> false
            count(2) -> 1
            """);
        check(7, "or 60 others were told", """
            boring(0, 0, 0) -> 0
            boring(1, 0, 0) -> 1
            59 * water(0, #, 5) -> true
            water(1, 99, 6) -> true
            count(2) -> 60
            water(0, 59, 5) -> false
            water(1, 0, 5) -> false
            count(2) -> 60
            water(1, 99, 7) -> true
            water(0, 0, 8) -> true
            count(2) -> 60
            run() -> 0
            wet(99, 1, 0, 0) -> 7
            wet(0, 0, 0, 0) -> 8
            wet(59, 0, 0, 1) -> 0
            wet(0, 1, 0, 1) -> 0
            """);
        check(8, "0 .. 10000. False: no such one", CORNER_RUN, """
            within(10000) -> true
            within(10001) -> false
            later(0, 0, 1, 10010) -> 0
            later(0, 0, 1, 10011) -> 1
            later(0, 0, 1, -9990) -> 0
            later(0, 0, 1, -9991) -> 1
            within(0) -> true
            within(-1) -> false
            later(0, 0, 1, 10) -> 0
            later(0, 0, 1, 11) -> 1
            later(0, 0, 1, 9) -> 1
            """);
    }

    private static void runAndCount() {
        check(9, "how many beds there are: none", """
            run() -> 0
            run() -> 0
            boring(0, 0, 0) -> 0
            run() -> 0
            """);
        check(9, "how many beds there are: the same once more", CORNER, """
            run() -> 3
            run() -> 3
            count(3) -> 3
            count(5) -> 1
            """);
        check(9, "how many beds there are: nothing of an earlier run() is left", CORNER, """
            fault(5, -1, 5, 1) -> true
            run() -> 3
            count(4) -> 1
            run() -> 3
            count(3) -> 3
            count(4) -> 1
            bed(0, 1) -> 3
            bed(0, 2) -> 3
            bed(2, 1) -> 1
            bed(2, 2) -> 1
            """);
        runAgain();
        StringBuilder most = new StringBuilder();
        for (int b = 0; b < 16; b++) {
            most.append("boring(" + b % 4 + ", " + b / 4 + ", 0) -> " + b + "\n12 * layer(" + b + ", "
                    + (b % 2 * 2 + b / 4 % 2) + ", 1) -> #\n");
        }
        check(9, "how many beds there are: the most", most.toString(), """
            run() -> 192
            count(6) -> 192
            bed(191, 2) -> 1
            bed(192, 2) -> throws.IndexOutOfBoundsException
            """);
        check(10, "what = 0 borings, 1 faults, 2 levels of water, also before a run()", CORNER, """
            fault(1, 2, 3, 4) -> true
            fault(1, 2, 3, 4) -> true
            water(0, 0, 0) -> true
            count(0) -> 3
            count(1) -> 2
            count(2) -> 1
            """);
        check(10, "-1 for another what", """
            count(-1) -> -1
            count(7) -> -1
            count(-2147483648) -> -1
            count(2147483647) -> -1
            run() -> 0
            count(-1) -> -1
            count(7) -> -1
            """);
        check(10, "IllegalStateException for these", """
            boring(0, 0, 0) -> 0
            count(2) -> 0
            count(3) -> throws.IllegalStateException
            count(4) -> throws.IllegalStateException
            count(5) -> throws.IllegalStateException
            count(6) -> throws.IllegalStateException
            count(7) -> -1
            run() -> 0
            count(3) -> 0
            count(4) -> 0
            count(5) -> 0
            count(6) -> 0
            """);
    }

    /** Edges, matchings and beds get other numbers when more is told; what was there before must not shine through. */
    private static void runAgain() {
        check(9, "The net, triangles, matchings and beds: after more was told", """
            boring(0, 0, 0) -> 0
            boring(100, 0, 0) -> 1
            boring(0, 100, 0) -> 2
            6 * layer(0, 1, 3) -> #
            6 * layer(1, 2, 3) -> #
            6 * layer(2, 3, 3) -> #
            run() -> 18
            sum(0, 1) -> 36
            section(1, 2, 11, 1) -> 5
            boring(40, 40, 0) -> 3
            boring(41, 41, 0) -> 4
            layer(3, 5, 900) -> 0
            layer(4, 5, 900) -> 0
            run() -> 19
            count(3) -> 9
            edge(0, 0) -> 3
            edge(0, 1) -> 4
            edge(8, 0) -> 1
            edge(8, 1) -> 2
            sum(3, 4) -> 0
            match(3, 4, 0) -> 0
            section(3, 4, 0, 0) -> 0
            section(3, 4, 0, 1) -> 0
            section(3, 4, 1, 0) -> throws.IndexOutOfBoundsException
            bed(18, 1) -> 2
            bed(18, 2) -> 2
            bed(18, 3) -> 3
            fault(40, 41, 41, 40) -> true
            run() -> 20
            count(4) -> 1
            section(3, 4, 0, 0) -> throws.IllegalArgumentException
            bed(18, 1) -> 1
            bed(19, 3) -> 4
            """);
        check(9, "The net: an edge of an earlier run() is none that was taken before", """
            boring(0, 0, 0) -> 0
            boring(10, 0, 0) -> 1
            run() -> 0
            edge(0, 0) -> 0
            boring(5, 1, 0) -> 2
            boring(5, -1, 0) -> 3
            run() -> 0
            count(3) -> 5
            edge(0, 0) -> 2
            edge(0, 1) -> 3
            sum(0, 1) -> throws.IllegalArgumentException
            """);
    }

    private static void edgesAndTriangles() {
        check(11, "Of an edge: what = 0 its first boring, 1 the second one, 2 whether it is broken (1 or 0)", CORNER, """
            fault(5, -1, 5, 1) -> true
            run() -> 3
            edge(0, 0) -> 0
            edge(0, 1) -> 1
            edge(0, 2) -> 1
            edge(2, 0) -> 1
            edge(2, 1) -> 2
            edge(2, 2) -> 0
            edge(0, -1) -> throws.IllegalArgumentException
            edge(0, 3) -> throws.IllegalArgumentException
            edge(-1, 0) -> throws.IndexOutOfBoundsException
            edge(3, 0) -> throws.IndexOutOfBoundsException
            edge(3, 3) -> throws.IndexOutOfBoundsException
            age(0, 0) -> true
            edge(3, 3) -> throws.IllegalStateException
            """);
        check(12, "its first, second, third boring (what = 0, 1, 2)", CORNER_RUN, """
            triangle(0, 0) -> 0
            triangle(0, 1) -> 1
            triangle(0, 2) -> 2
            triangle(0, -1) -> throws.IllegalArgumentException
            triangle(0, 3) -> throws.IllegalArgumentException
            triangle(-1, 0) -> throws.IndexOutOfBoundsException
            triangle(1, 0) -> throws.IndexOutOfBoundsException
            triangle(1, 3) -> throws.IndexOutOfBoundsException
            age(0, 0) -> true
            triangle(1, 3) -> throws.IllegalStateException
            """);
    }

    private static void matches() {
        check(13, "NONE if it ends", CORNER_RUN, """
            match(2, 0, 1) -> -1
            match(2, 1, 1) -> -1
            match(2, 0, 0) -> 0
            match(2, 0, 2) -> 1
            """);
        check(13, "there is no such boring, layer", CORNER_RUN, """
            match(-1, 0, 0) -> throws.IndexOutOfBoundsException
            match(3, 0, 0) -> throws.IndexOutOfBoundsException
            match(0, -1, 0) -> throws.IndexOutOfBoundsException
            match(0, 3, 0) -> throws.IndexOutOfBoundsException
            match(0, 2, -1) -> throws.IndexOutOfBoundsException
            match(0, 2, 1) -> 2
            match(0, 2, 2) -> throws.IndexOutOfBoundsException
            match(2, 0, 2) -> 1
            match(2, 0, 3) -> throws.IndexOutOfBoundsException
            """);
        check(13, "IllegalArgumentException: they are no neighbours", CORNER, """
            fault(5, -1, 5, 1) -> true
            run() -> 3
            match(0, 1, 0) -> throws.IllegalArgumentException
            match(1, 0, 1) -> throws.IllegalArgumentException
            match(0, 1, 2) -> throws.IndexOutOfBoundsException
            match(0, 0, 0) -> throws.IllegalArgumentException
            match(2, 2, 2) -> throws.IllegalArgumentException
            match(0, 2, 0) -> 0
            """);
        check(14, "of two neighbours, told in any order", CORNER_RUN, """
            sum(0, 2) -> 4
            sum(2, 0) -> 4
            sum(1, 2) -> 5
            sum(2, 1) -> 5
            """);
        check(14, "IllegalArgumentException: they are none", CORNER, """
            fault(5, -1, 5, 1) -> true
            run() -> 3
            sum(0, 1) -> throws.IllegalArgumentException
            sum(1, 0) -> throws.IllegalArgumentException
            sum(1, 1) -> throws.IllegalArgumentException
            sum(3, 3) -> throws.IndexOutOfBoundsException
            sum(0, 3) -> throws.IndexOutOfBoundsException
            sum(-1, 0) -> throws.IndexOutOfBoundsException
            age(0, 0) -> true
            sum(3, 3) -> throws.IllegalStateException
            """);
        check(16, "Whether in some matching two pairs cross: without a matching", """
            crosses() -> throws.IllegalStateException
            run() -> 0
            crosses() -> false
            boring(0, 0, 0) -> 0
            crosses() -> throws.IllegalStateException
            run() -> 0
            crosses() -> false
            """);
        check(16, "in some matching: an edge that is broken has none", """
            boring(0, 0, 0) -> 0
            boring(1, 0, 0) -> 1
            12 * layer(0, 1, 5) -> #
            12 * layer(1, 1, 5) -> #
            fault(0, 0, 1, 0) -> true
            run() -> 24
            crosses() -> false
            """);
    }

    private static void sections() {
        // Of 0 the first and the last layer end, of 1 the first and the last two.
        String ends = """
            boring(0, 0, 0) -> 0
            layer(0, 1, 10) -> 0
            layer(0, 2, 500) -> 1
            layer(0, 1, 20) -> 2
            boring(5, 0, 0) -> 1
            layer(1, 3, 30) -> 0
            layer(1, 2, 500) -> 1
            layer(1, 3, 40) -> 2
            layer(1, 3, 41) -> 3
            boring(10, 0, 0) -> 2
            age(1, 99) -> true
            run() -> 6
            """;
        check(15, "before each pair the layers of a, and then those of b, that end above it", ends, """
            section(0, 1, 0, 0) -> 0
            section(0, 1, 0, 1) -> -1
            section(0, 1, 1, 0) -> -1
            section(0, 1, 1, 1) -> 0
            section(0, 1, 2, 0) -> 1
            section(0, 1, 2, 1) -> 1
            """);
        check(15, "and behind the last pair likewise", ends, """
            section(0, 1, 3, 0) -> 2
            section(0, 1, 3, 1) -> -1
            section(0, 1, 4, 0) -> -1
            section(0, 1, 4, 1) -> 2
            section(0, 1, 5, 0) -> -1
            section(0, 1, 5, 1) -> 3
            """);
        check(15, "the layers of a, and then those of b, for a greater than b", ends, """
            section(1, 0, 0, 0) -> 0
            section(1, 0, 1, 1) -> 0
            section(1, 0, 2, 0) -> 1
            section(1, 0, 2, 1) -> 1
            section(1, 0, 3, 0) -> 2
            section(1, 0, 4, 0) -> 3
            section(1, 0, 5, 0) -> -1
            section(1, 0, 5, 1) -> 2
            section(1, 0, 6, 0) -> throws.IndexOutOfBoundsException
            """);
        check(15, "IndexOutOfBoundsException: no such boring, or row", ends, """
            section(0, 3, 0, 0) -> throws.IndexOutOfBoundsException
            section(3, 0, 0, 0) -> throws.IndexOutOfBoundsException
            section(-1, 0, 0, 0) -> throws.IndexOutOfBoundsException
            section(0, -1, 0, 0) -> throws.IndexOutOfBoundsException
            section(0, 1, -1, 0) -> throws.IndexOutOfBoundsException
            section(0, 1, 5, 0) -> -1
            section(0, 1, 6, 0) -> throws.IndexOutOfBoundsException
            """);
        check(15, "IndexOutOfBoundsException: no row of neighbours without layers", """
            boring(0, 0, 0) -> 0
            boring(1, 0, 0) -> 1
            run() -> 0
            section(0, 1, 0, 0) -> throws.IndexOutOfBoundsException
            """);
        check(15, "IllegalArgumentException: no neighbours, or another what", ends, """
            section(0, 2, 0, 0) -> throws.IllegalArgumentException
            section(1, 1, 0, 0) -> throws.IllegalArgumentException
            section(0, 1, 0, -1) -> throws.IllegalArgumentException
            section(0, 1, 0, 2) -> throws.IllegalArgumentException
            """);
        check(15, "Borings are looked at first, then whether they are neighbours, then the row, then what", ends, """
            section(3, 3, 99, 99) -> throws.IndexOutOfBoundsException
            section(0, 2, 99, 99) -> throws.IllegalArgumentException
            section(0, 1, 6, 2) -> throws.IndexOutOfBoundsException
            section(0, 1, 5, 2) -> throws.IllegalArgumentException
            age(0, 0) -> true
            section(3, 3, 99, 99) -> throws.IllegalStateException
            """);
    }

    private static void beds() {
        check(17, "Of a bed: what = 0 .. 4", CORNER_RUN, """
            bed(2, 0) -> 3
            bed(2, 1) -> 1
            bed(2, 2) -> 1
            bed(2, 3) -> 2
            bed(2, 4) -> 1
            bed(2, 5) -> throws.IllegalArgumentException
            bed(2, -1) -> throws.IllegalArgumentException
            bed(3, 0) -> throws.IndexOutOfBoundsException
            bed(-1, 0) -> throws.IndexOutOfBoundsException
            bed(3, 5) -> throws.IndexOutOfBoundsException
            age(0, 0) -> true
            bed(3, 5) -> throws.IllegalStateException
            """);
        check(17, "the last layer of the last boring", SIXTEEN, """
            12 * layer(15, 7, 1) -> #
            run() -> 12
            bed(11, 0) -> 7
            bed(11, 3) -> 15
            bed(11, 4) -> 11
            bedOf(15, 11) -> 11
            bedOf(15, 12) -> throws.IndexOutOfBoundsException
            bedOf(16, 0) -> throws.IndexOutOfBoundsException
            bedOf(14, 0) -> throws.IndexOutOfBoundsException
            """);
        check(18, "The bed of a layer", CORNER_RUN, """
            bedOf(0, -1) -> throws.IndexOutOfBoundsException
            bedOf(0, 1) -> 1
            bedOf(0, 2) -> throws.IndexOutOfBoundsException
            bedOf(2, 2) -> 1
            bedOf(2, 3) -> throws.IndexOutOfBoundsException
            bedOf(-1, 0) -> throws.IndexOutOfBoundsException
            bedOf(3, 0) -> throws.IndexOutOfBoundsException
            age(0, 0) -> true
            bedOf(3, 0) -> throws.IllegalStateException
            """);
    }

    private static void levels() {
        check(19, "The level of a bed at a place", CORNER_RUN, """
            at(-1, 0, 0, 0) -> throws.IndexOutOfBoundsException
            at(3, 0, 0, 0) -> throws.IndexOutOfBoundsException
            at(3, 1001, 0, 2) -> throws.IndexOutOfBoundsException
            at(0, 1001, 0, 0) -> throws.IllegalArgumentException
            at(0, -1001, 0, 0) -> throws.IllegalArgumentException
            at(0, 0, 1001, 0) -> throws.IllegalArgumentException
            at(0, 0, -1001, 0) -> throws.IllegalArgumentException
            at(0, 0, 0, 2) -> throws.IllegalArgumentException
            at(0, 0, 0, -1) -> throws.IllegalArgumentException
            at(0, 1000, 1000, 1) -> 0
            at(0, -1000, -1000, 1) -> 0
            at(0, 0, 0, 1) -> 1
            at(2, 0, 10, 0) -> 3
            age(0, 0) -> true
            at(3, 1001, 0, 2) -> throws.IllegalStateException
            """);
        check(20, "IllegalArgumentException: also another week", CORNER_RUN, """
            water(0, 0, 5) -> true
            water(0, 99, 6) -> true
            wet(0, 0, 0, 0) -> 5
            wet(99, 0, 0, 0) -> 6
            wet(-1, 0, 0, 0) -> throws.IllegalArgumentException
            wet(100, 0, 0, 0) -> throws.IllegalArgumentException
            wet(0, 1001, 0, 0) -> throws.IllegalArgumentException
            wet(0, -1001, 0, 0) -> throws.IllegalArgumentException
            wet(0, 0, 1001, 0) -> throws.IllegalArgumentException
            wet(0, 0, -1001, 0) -> throws.IllegalArgumentException
            wet(0, 0, 0, 2) -> throws.IllegalArgumentException
            wet(0, 0, 0, -1) -> throws.IllegalArgumentException
            wet(0, 1000, -1000, 1) -> 0
            age(0, 0) -> true
            wet(100, 0, 0, 0) -> throws.IllegalStateException
            """);
        check(20, "in a week: only that one", CORNER_RUN, """
            water(0, 5, 9) -> true
            water(1, 5, 9) -> true
            water(2, 6, 9) -> true
            wet(5, 3, 3, 1) -> 0
            wet(6, 3, 3, 1) -> 0
            wet(4, 0, 0, 1) -> 0
            water(2, 5, 12) -> true
            wet(5, 3, 3, 0) -> 99
            wet(5, 3, 3, 1) -> 10
            """);
    }

    private static void volumes() {
        check(21, "whose borings have x from x0 to x1 and y from y0 to y1", CORNER_RUN, """
            volume(1, 0, 0, 10, 10) -> 32000000
            volume(1, 1, 0, 10, 10) -> 0
            volume(1, 0, 1, 10, 10) -> 0
            volume(1, 0, 0, 9, 10) -> 0
            volume(1, 0, 0, 10, 9) -> 0
            """);
        for (String places : new String[] {"0, 3; 10, 0; 7, 10", "7, 10; 0, 3; 10, 0", "10, 0; 7, 10; 0, 3"}) {
            String[] at = places.split("; ");
            check(21, "x from x0 to x1 and y from y0 to y1: one boring is just outside", "boring(" + at[0] + ", 0) -> 0",
                "boring(" + at[1] + ", 0) -> 1", "boring(" + at[2] + ", 0) -> 2", """
                3 * layer(#, 0, 1) -> 0
                run() -> 1
                volume(0, 0, 0, 10, 10) -> 5460000
                volume(0, 1, 0, 10, 10) -> 0
                volume(0, 0, 1, 10, 10) -> 0
                volume(0, 0, 0, 9, 10) -> 0
                volume(0, 0, 0, 10, 9) -> 0
                """);
        }
        check(21, "(any numbers)", CORNER_RUN, """
            volume(1, -2147483648, -2147483648, 2147483647, 2147483647) -> 32000000
            volume(1, 2147483647, 2147483647, -2147483648, -2147483648) -> 0
            volume(1, -1001, -1001, 1001, 1001) -> 32000000
            volume(1, 10, 10, 0, 0) -> 0
            """);
        check(21, "all triangles in it, none that is not whole in it", """
            boring(0, 0, 0) -> 0
            boring(10, 0, 0) -> 1
            boring(0, 10, 0) -> 2
            boring(-20, 0, 0) -> 3
            4 * layer(#, 4, 3) -> 0
            run() -> 1
            count(5) -> 2
            volume(4, -20, 0, 10, 10) -> 54000000
            volume(4, -19, 0, 10, 10) -> 18000000
            volume(4, -20, 0, 9, 10) -> 36000000
            volume(4, -19, 0, 9, 10) -> 0
            """);
        check(21, "of all beds of a kind", """
            boring(0, 0, 0) -> 0
            layer(0, 4, 30) -> 0
            layer(0, 5, 900) -> 1
            layer(0, 4, 50) -> 2
            boring(10, 0, 0) -> 1
            boring(0, 10, 0) -> 2
            run() -> 3
            lens(100) -> true
            volume(4, 0, 0, 10, 10) -> 160000000
            volume(5, 0, 0, 10, 10) -> 1800000000
            """);
        check(21, "without a triangle", """
            run() -> 0
            volume(0, -1000, -1000, 1000, 1000) -> 0
            boring(0, 0, 0) -> 0
            layer(0, 0, 5) -> 0
            boring(1, 0, 0) -> 1
            layer(1, 0, 5) -> 0
            run() -> 1
            volume(0, -1000, -1000, 1000, 1000) -> 0
            """);
        check(21, "IllegalArgumentException: no such kind", CORNER_RUN, """
            volume(-1, 0, 0, 10, 10) -> throws.IllegalArgumentException
            volume(8, 0, 0, 10, 10) -> throws.IllegalArgumentException
            volume(0, 0, 0, 10, 10) -> 0
            volume(7, 0, 0, 10, 10) -> 0
            age(0, 0) -> true
            volume(8, 0, 0, 10, 10) -> throws.IllegalStateException
            """);
    }

    private static void findings() {
        check(22, "0 when such a bed has a level there that is off by what is within at most", CORNER_RUN, """
            within(3) -> true
            later(0, 0, 1, 13) -> 0
            later(0, 0, 1, 14) -> 1
            later(0, 0, 1, 7) -> 0
            later(0, 0, 1, 6) -> 1
            """);
        // The level of bed 0 is 51 / 5 there.
        check(22, "off by what is within at most: parts of one count", CORNER_RUN, """
            at(0, 1, 0, 0) -> 51
            at(0, 1, 0, 1) -> 5
            later(1, 0, 1, 10) -> 1
            within(1) -> true
            later(1, 0, 1, 10) -> 0
            later(1, 0, 1, 11) -> 0
            later(1, 0, 1, 9) -> 1
            later(1, 0, 1, 12) -> 1
            """);
        check(22, "1 when some have levels there, but all are off by more", """
            boring(0, 0, 100) -> 0
            layer(0, 6, 30) -> 0
            layer(0, 2, 30) -> 1
            layer(0, 6, 30) -> 2
            run() -> 3
            within(29) -> true
            later(7, 7, 6, 70) -> 1
            later(7, 7, 2, 70) -> 0
            within(30) -> true
            later(7, 7, 6, 70) -> 0
            later(7, 7, 6, 9) -> 1
            later(7, 7, 6, 131) -> 1
            """);
        check(22, "2 when none has", CORNER_RUN, """
            within(10000) -> true
            later(6, 5, 1, 10) -> 2
            later(0, 0, 3, 3) -> 2
            later(0, 10, 3, 3) -> 0
            later(0, 0, 0, 10) -> 2
            later(0, 0, 7, 10) -> 2
            """);
        check(22, "IllegalArgumentException: no such place, kind or level (as tops are)", CORNER_RUN, """
            later(1001, 0, 1, 0) -> throws.IllegalArgumentException
            later(-1001, 0, 1, 0) -> throws.IllegalArgumentException
            later(0, 1001, 1, 0) -> throws.IllegalArgumentException
            later(0, -1001, 1, 0) -> throws.IllegalArgumentException
            later(0, 0, -1, 0) -> throws.IllegalArgumentException
            later(0, 0, 8, 0) -> throws.IllegalArgumentException
            later(0, 0, 1, -100001) -> throws.IllegalArgumentException
            later(0, 0, 1, 100001) -> throws.IllegalArgumentException
            later(0, 0, 1, -100000) -> 1
            later(0, 0, 1, 100000) -> 1
            later(-1000, -1000, 0, 0) -> 2
            later(1000, 1000, 7, 0) -> 2
            age(0, 0) -> true
            later(1001, 0, 1, 0) -> throws.IllegalStateException
            """);
        check(22, "the farthest off that a level can be", """
            boring(0, 0, -100000) -> 0
            12 * layer(0, 3, 10000) -> #
            layer(0, 3, 1) -> throws.UnsupportedOperationException
            run() -> 12
            later(0, 0, 3, 100000) -> 1
            later(0, 0, 3, -100000) -> 0
            within(10000) -> true
            later(0, 0, 3, -90000) -> 0
            later(0, 0, 3, -89999) -> 1
            """);
    }

    private static void nearest() {
        check(23, "of several the least", """
            boring(10, 0, 0) -> 0
            boring(0, 0, 0) -> 1
            boring(0, 10, 0) -> 2
            doubt(5, 5) -> 0
            doubt(4, 5) -> 1
            doubt(5, 6) -> 2
            doubt(0, 5) -> 1
            doubt(0, 6) -> 2
            doubt(0, 10) -> 2
            """);
        check(23, "NONE without one", """
            doubt(0, 0) -> -1
            boring(1000, 1000, 0) -> 0
            doubt(-1000, -1000) -> 0
            """);
        check(23, "or for no such place", """
            boring(1000, 1000, 0) -> 0
            doubt(1000, 1000) -> 0
            doubt(1001, 1000) -> -1
            doubt(1000, 1001) -> -1
            doubt(-1001, 0) -> -1
            doubt(0, -1001) -> -1
            doubt(2147483647, -2147483648) -> -1
            """);
        check(23, "the last of 16", SIXTEEN, """
            doubt(1000, 5) -> 15
            doubt(-1000, 5) -> 0
            """);
    }

    private static void units() {
        check(24, "One more character of the text, 32 .. 126 or 10", """
            unit(32) -> true
            unit(126) -> true
            unit(10) -> true
            read() -> -1
            """);
        check(24, "False: it is none such", """
            unit(31) -> false
            unit(127) -> false
            unit(9) -> false
            unit(11) -> false
            unit(0) -> false
            unit(-1) -> false
            unit(65568) -> false
            unit(-2147483648) -> false
            unit(2147483647) -> false
            read() -> 0
            """);
        // What was refused is not in the text: it would be no word that can stand there.
        check(24, "False: it changes nothing", """
            text "b 1 2 3" -> true
            unit(127) -> false
            unit(9) -> false
            text " e" -> true
            read() -> 1
            """);
        Script.checkBeyondPromisedCalls("promise 24: or there are 600", """
            599 * unit(32) -> true
            unit(98) -> true
            unit(98) -> false
            unit(32) -> false
            unit(10) -> false
            read() -> -2
            600 * unit(10) -> true
            unit(10) -> false
            read() -> 0
            unit(10) -> true
            """);
        Script.checkBeyondPromisedCalls("promise 24: there are 600 again after read()", """
            text "b 1 2 3 e" -> true
            read() -> 1
            595 * unit(32) -> true
            text "b 7 8" -> true
            unit(32) -> false
            read() -> -4
            """);
    }

    private static void goodTexts() {
        check(25, "The text, which is empty then, is read", """
            text "b 1 2 3 e" -> true
            read() -> 1
            read() -> 0
            text "b 4" -> true
            read() -> -3
            read() -> 0
            text " 4 4 e" -> true
            read() -> -1
            count(0) -> 1
            """);
        check(25, "How many borings were read: none", """
            run() -> 0
            read() -> 0
            text " | | " -> true
            read() -> 0
            count(0) -> 0
            count(3) -> 0
            """);
        check(25, "(they are told then, in order)", """
            boring(9, 9, 9) -> 0
            run() -> 0
            text "b 1 2 3 4 5 e b 2 1 3 e b 0 0 0 7 1 0 10000 e" -> true
            read() -> 3
            count(0) -> 4
            count(3) -> throws.IllegalStateException
            write(1) -> 13
            written -> b 1 2 3 4 5 e
            write(2) -> 9
            written -> b 2 1 3 e
            write(3) -> 21
            written -> b 0 0 0 7 1 0 10000 e
            layer(2, 0, 1) -> 0
            layer(3, 0, 1) -> 2
            """);
        check(25, "any number of pairs of numbers: none and 12", """
            text "b 1 2 3 e b 2 2 3
            """.strip() + TWELVE_PAIRS + " e\" -> true", """
            read() -> 2
            layer(1, 0, 1) -> throws.UnsupportedOperationException
            layer(0, 0, 1) -> 0
            write(1) -> 60
            """, "written -> b 2 2 3" + TWELVE_PAIRS + " e");
        check(25, "otherwise nothing is told", """
            run() -> 0
            text "b 1 2 3 4 5 e b 2 2 3 6 7 e b" -> true
            read() -> -16
            count(0) -> 0
            count(3) -> 0
            boring(1, 2, 3) -> 0
            write(0) -> 9
            boring(2, 2, 3) -> 1
            write(1) -> 9
            doubt(1, 2) -> 0
            """);
    }

    /** A text after one boring at 50, 60 was told, what read() answers, and what was told then. */
    private static void texts(String words, String... textsAndAnswers) {
        for (int k = 0; k < textsAndAnswers.length; k += 2) {
            int told = Math.max(0, Integer.parseInt(textsAndAnswers[k + 1]));
            check(25, words, "boring(50, 60, 0) -> 0", "run() -> 0", "text \"" + textsAndAnswers[k] + "\" -> true",
                "read() -> " + textsAndAnswers[k + 1], "count(0) -> " + (1 + told),
                "count(3) -> " + (told > 0 ? "throws.IllegalStateException" : "0"), "read() -> 0");
        }
    }

    private static void words() {
        texts("Words are its rows of characters other than 32 and 10",
            "|b|1 |2|3| e|", "1", "  b  1  2  3  e  ", "1", "b 1 2 3 e|b 2 2 3 e", "2", "b1 2 3 e", "-1",
            "b 1 2 3e", "-4", "b 1 2 3 eb 2 2 3 e", "-5", "b 12 3 e", "-4", "b 1 2 3 e b 2 2 3 e~", "-10", "!", "-1",
            "~", "-1");
        texts("the word b", "B 1 2 3 e", "-1", "bb 1 2 3 e", "-1", "a 1 2 3 e", "-1", "c", "-1", "e", "-1", "0", "-1",
            "-b", "-1", "b 1 2 3 e 2", "-6", "b 1 2 3 e e", "-6", "b 1 2 3 e x", "-6");
        texts("and the word e", "b 1 2 3 E", "-5", "b 1 2 3 ee", "-5", "b 1 2 3 d", "-5", "b 1 2 3 f", "-5",
            "b 1 2 3 b", "-5", "b 1 2 3 4 e", "-6", "b 1 2 3 4 5 b", "-7", "b 1 2 e", "-4", "b 1 e", "-3", "b e", "-2");
        texts("the number (from 0 on) of the first word that cannot stand there", "x", "-1", "x y", "-1", "b x y", "-2",
            "b 1 x y", "-3", "b 1 2 x y", "-4", "b 1 2 3 x y", "-5", "b 1 2 3 4 x y", "-6", "b 1 2 3 4 5 x y", "-7",
            "b 1 2 3 4 5 6 x y", "-8", "b 1 2 3 e b 2 2 x", "-9");
    }

    private static void numbers() {
        texts("a number is a word of 1 to 6 digits", "b 000001 2 3 e", "1", "b 0000001 2 3 e", "-2", "b 1 000000 3 e", "1",
            "b 1 0000000 3 e", "-3", "b 1 2 100000 e", "1", "b 1 2 0100000 e", "-4", "b 1 2 3 000007 000001 e", "1",
            "b 1 2 3 0000007 1 e", "-5", "b 1 2 3 7 0000001 e", "-6", "b 1 2 4294967299 e", "-4",
            "b 1 2 18446744073709551619 e", "-4");
        texts("digits", "b / 2 3 e", "-2", "b : 2 3 e", "-2", "b 1/ 2 3 e", "-2", "b 1: 2 3 e", "-2", "b 9 2 3 e", "1",
            "b 0 2 3 e", "1", "b 1.0 2 3 e", "-2", "b +1 2 3 e", "-2", "b 1e 2 3 e", "-2", "b x1 2 3 e", "-2");
        texts("perhaps with - in front", "b -1 -2 -3 e", "1", "b -000001 2 3 e", "1", "b -0000001 2 3 e", "-2",
            "b 1 2 -100000 e", "1", "b 1 2 -0100000 e", "-4", "b - 2 3 e", "-2", "b --1 2 3 e", "-2", "b 1- 2 3 e", "-2",
            "b -0 -0 -0 -0 1 e", "1", "b 1 2 3 -0 1 e", "1", "b 1-1 2 3 e", "-2");
        texts("a number that is none such: x", "b 1000 2 3 e", "1", "b 1001 2 3 e", "-2", "b -1000 2 3 e", "1",
            "b -1001 2 3 e", "-2");
        texts("a number that is none such: y", "b 1 1000 3 e", "1", "b 1 1001 3 e", "-3", "b 1 -1000 3 e", "1",
            "b 1 -1001 3 e", "-3");
        texts("a number that is none such: top", "b 1 2 100000 e", "1", "b 1 2 100001 e", "-4", "b 1 2 -100000 e", "1",
            "b 1 2 -100001 e", "-4");
        texts("a number that is none such: kind", "b 1 2 3 0 1 e", "1", "b 1 2 3 7 1 e", "1", "b 1 2 3 8 1 e", "-5",
            "b 1 2 3 -1 1 e", "-5");
        texts("a number that is none such: thickness", "b 1 2 3 4 1 e", "1", "b 1 2 3 4 0 e", "-6", "b 1 2 3 4 -1 e", "-6",
            "b 1 2 3 4 10000 e", "1", "b 1 2 3 4 10001 e", "-6");
    }

    private static void placesOfTexts() {
        texts("the y of a place where a boring is", "b 50 60 3 e", "-3", "b 50 60", "-3", "b 50 060 x", "-3",
            "b 50 61 3 e", "1", "b 51 60 3 e", "1", "b 60 50 3 e", "1", "b 50", "-3", "b -50 -60 3 e", "1");
        texts("(or one of those read before)", "b 1 2 3 e b 1 2 3 e", "-8", "b 1 2 3 e b 1 2", "-8",
            "b 1 2 3 e b 2 1 3 e", "2", "b 1 2 3 e b 1 3 3 e b 1 2 3 e", "-13", "b 1 2 3 e b 1 1 3 e b 2 2 3 e", "3",
            "b 1 2 3 e b 50 60 3 e", "-8", "b 1 2 3 4 5 e b 1 2 3 e", "-10");
        check(25, "one of those read before, but in a text that was refused", """
            text "b 1 2 3 e x" -> true
            read() -> -6
            text "b 1 2 3 e" -> true
            read() -> 1
            text "b 1 2 3 e" -> true
            read() -> -3
            """);
    }

    private static void fullTexts() {
        StringBuilder sixteen = new StringBuilder();
        for (int k = 0; k < 16; k++) {
            sixteen.append("b ").append(k).append(" 0 0 e ");
        }
        check(25, "a b behind 16 borings in all: 16 of the text", "text \"" + sixteen + "\" -> true", """
            read() -> 16
            count(0) -> 16
            boring(99, 99, 0) -> throws.UnsupportedOperationException
            write(15) -> 10
            """);
        check(25, "a b behind 16 borings in all: the seventeenth of the text", "text \"" + sixteen + "b\" -> true", """
            read() -> -81
            count(0) -> 0
            """);
        check(25, "a b behind 16 borings in all: another word there", "text \"" + sixteen + "x\" -> true", """
            read() -> -81
            count(0) -> 0
            """);
        check(25, "a b behind 16 borings in all: 16 told before", SIXTEEN, """
            text " " -> true
            read() -> 0
            text "b 0 0 0 e" -> true
            read() -> -1
            read() -> 0
            count(0) -> 16
            """);
        check(25, "a b behind 16 borings in all: 15 told before", """
            15 * boring(#, 5, 0) -> #
            text "b 0 0 0 e b 1 1 1 e" -> true
            read() -> -6
            count(0) -> 15
            text "b 0 0 0 e" -> true
            read() -> 1
            count(0) -> 16
            text "b" -> true
            read() -> -1
            """);
        texts("a kind behind 12 layers", "b 1 2 3" + TWELVE_PAIRS + " e", "1", "b 1 2 3" + TWELVE_PAIRS + " 0 1 e", "-29",
            "b 1 2 3" + TWELVE_PAIRS + " 0", "-29", "b 1 2 3" + TWELVE_PAIRS + " x", "-29",
            "b 1 2 3" + TWELVE_PAIRS + " e b 2 2 3" + TWELVE_PAIRS + " e", "2",
            "b 1 2 3" + TWELVE_PAIRS + " e b 2 2 3" + TWELVE_PAIRS + " 5 5 e", "-58");
    }

    private static void shortTexts() {
        texts("or less the number of words, if more would have to come", "b", "-2", "b 1", "-3", "b 1 2", "-4", "b 1 2 3", "-5",
            "b 1 2 3 4", "-6", "b 1 2 3 4 5", "-7", "b 1 2 3 4 5 6", "-8", "b 1 2 3 e b", "-7", "b 1 2 3 e b 2", "-8",
            "b 1 2 3 e b 2 2 3", "-10", "b 1 2 3" + TWELVE_PAIRS, "-29", "b ", "-2", "b||", "-2");
        Script.checkBeyondPromisedCalls("promise 25: the last word ends with the last of 600 units", """
            599 * unit(32) -> true
            text "b" -> true
            read() -> -2
            591 * unit(10) -> true
            text "b 1 2 3 e" -> true
            read() -> 1
            591 * unit(10) -> true
            text "b 2 2 3 -" -> true
            read() -> -5
            300 * text "b " -> true
            read() -> -2
            """);
    }

    private static void writing() {
        check(26, "IndexOutOfBoundsException", """
            write(0) -> throws.IndexOutOfBoundsException
            boring(0, 0, 0) -> 0
            write(-1) -> throws.IndexOutOfBoundsException
            write(1) -> throws.IndexOutOfBoundsException
            letter(0) -> 0
            write(0) -> 9
            write(1) -> throws.IndexOutOfBoundsException
            written -> b 0 0 0 e
            """);
        check(26, "in place of what was written before", """
            boring(-1000, -1000, -100000) -> 0
            boring(0, 0, 0) -> 1
            12 * layer(0, 7, 10000) -> #
            write(0) -> 119
            letter(118) -> 101
            letter(119) -> 0
            write(1) -> 9
            letter(8) -> 101
            letter(9) -> 0
            letter(118) -> 0
            layer(1, 3, 4) -> 0
            written -> b 0 0 0 e
            write(1) -> 13
            written -> b 0 0 0 3 4 e
            """);
        check(26, "its words with one blank between; how many characters: the longest", """
            boring(-1000, -1000, -100000) -> 0
            12 * layer(0, 7, 10000) -> #
            write(0) -> 119
            """, "written -> b -1000 -1000 -100000" + " 7 10000".repeat(12) + " e");
        check(26, "A boring is written as such a text: it can be read again", """
            text "b -0 0007 -000300 00 01 e" -> true
            read() -> 1
            write(0) -> 16
            written -> b 0 7 -300 0 1 e
            text "b 0 7 -300 0 1 e" -> true
            read() -> -3
            text "b 0 8 -300 0 1 e" -> true
            read() -> 1
            """);
        check(27, "0 when there is none", """
            letter(0) -> 0
            letter(-1) -> 0
            boring(3, 0, 0) -> 0
            letter(0) -> 0
            write(0) -> 9
            letter(-1) -> 0
            letter(0) -> 98
            letter(2) -> 51
            letter(8) -> 101
            letter(9) -> 0
            letter(-2147483648) -> 0
            letter(2147483647) -> 0
            """);
        check(27, "Character i of what was written, not of the text that is to be read", """
            boring(3, 0, 0) -> 0
            write(0) -> 9
            text "xyz" -> true
            written -> b 3 0 0 e
            read() -> -1
            written -> b 3 0 0 e
            """);
    }
}
