/** Each promise as runs of calls on a new object; the rows are told by Script. */
public final class PromiseTest {
    // Three borings around a corner, one with a lens between two layers that go through.
    private static final String CORNER = """
        boring(0, 0, 10) -> 0
        layer(0, 1, 5) -> 0
        layer(0, 2, 7) -> 1
        boring(10, 0, 12) -> 1
        layer(1, 1, 6) -> 0
        layer(1, 2, 7) -> 1
        boring(0, 10, 8) -> 2
        layer(2, 1, 5) -> 0
        layer(2, 3, 2) -> 1
        layer(2, 2, 9) -> 2
        """;

    private static final String SIXTEEN = """
        16 * boring(#, 5, 0) -> #
        """;

    public static void main(String[] args) {
        newObject();
        telling();
        waterAndWithin();
        net();
        matching();
        beds();
        levels();
        volumes();
        findings();
        texts();
        Script.end("PromiseTest");
    }

    private static void check(String promise, String... scripts) {
        Script.check("promise " + promise, scripts);
    }

    private static void newObject() {
        check("1: nothing is told", """
            count(0) -> 0
            count(1) -> 0
            count(2) -> 0
            letter(0) -> 0
            doubt(0, 0) -> -1
            read() -> 0
            run() -> 0
            count(3) -> 0
            count(6) -> 0
            """);
        check("1: the lens is 50", CORNER, """
            run() -> 3
            volume(3, -9, -9, 99, 99) -> 1000000
            lens(50) -> true
            volume(3, -9, -9, 99, 99) -> 1000000
            """);
        check("1: what is within is 0", CORNER, """
            run() -> 3
            later(0, 0, 1, 10) -> 0
            later(0, 0, 1, 11) -> 1
            """);
        check("1: ages are 0", """
            boring(0, 0, 0) -> 0
            layer(0, 0, 900) -> 0
            boring(1, 0, 0) -> 1
            layer(1, 7, 900) -> 0
            run() -> 1
            sum(0, 1) -> 100
            """);
        check("1: two objects have nothing in common", "count(0) -> 0");
        for (String call : new String[] {"count(3)", "count(4)", "count(5)", "count(6)", "edge(0, 0)",
            "triangle(0, 0)", "match(0, 0, 0)", "sum(0, 0)", "section(0, 0, 0, 0)", "crosses()", "bed(0, 0)",
            "bedOf(0, 0)", "at(0, 0, 0, 0)", "wet(0, 0, 0, 0)", "volume(0, 0, 0, 0, 0)", "later(0, 0, 0, 0)"}) {
            noRunSince(call);
        }
    }

    /** The state comes before all other numbers, and only what was told spoils it. */
    private static void noRunSince(String call) {
        String fails = call + " -> throws.IllegalStateException\n";
        check("9 to 22: before the first run", fails);
        check("9 to 22: after a boring", "run() -> 0\nboring(0, 0, 0) -> 0\n" + fails);
        check("9 to 22: after a layer", "boring(0, 0, 0) -> 0\nrun() -> 0\nlayer(0, 0, 1) -> 0\n" + fails);
        check("9 to 22: after an age that was so before", "run() -> 0\nage(0, 0) -> true\n" + fails);
        check("9 to 22: after a fault that was so before", """
            fault(0, 0, 1, 1) -> true
            run() -> 0
            fault(0, 0, 1, 1) -> true
            """ + fails);
        check("9 to 22: after borings of a text", "run() -> 0\ntext \"b 0 0 0 e\" -> true\nread() -> 1\n" + fails);
    }

    private static void telling() {
        check("2: numbers and edges of numbers", """
            boring(-1000, -1000, -100000) -> 0
            boring(1000, 1000, 100000) -> 1
            boring(-1001, 0, 0) -> throws.IllegalArgumentException
            boring(1001, 0, 0) -> throws.IllegalArgumentException
            boring(0, -1001, 0) -> throws.IllegalArgumentException
            boring(0, 1001, 0) -> throws.IllegalArgumentException
            boring(0, 0, -100001) -> throws.IllegalArgumentException
            boring(0, 0, 100001) -> throws.IllegalArgumentException
            boring(-2147483648, 2147483647, 0) -> throws.IllegalArgumentException
            boring(1000, 1000, 5) -> throws.IllegalArgumentException
            boring(1000, -1000, 5) -> 2
            count(0) -> 3
            """);
        check("2: sixteen, and what is named first", SIXTEEN, """
            boring(0, 6, 0) -> throws.UnsupportedOperationException
            boring(3, 5, 0) -> throws.IllegalArgumentException
            boring(0, 6, 100001) -> throws.IllegalArgumentException
            count(0) -> 16
            """);
        check("3: numbers, and what is named first", """
            layer(0, 0, 1) -> throws.IndexOutOfBoundsException
            boring(0, 0, 0) -> 0
            layer(-1, 0, 1) -> throws.IndexOutOfBoundsException
            layer(1, 8, 1) -> throws.IndexOutOfBoundsException
            layer(0, -1, 1) -> throws.IllegalArgumentException
            layer(0, 8, 1) -> throws.IllegalArgumentException
            layer(0, 0, 0) -> throws.IllegalArgumentException
            layer(0, 0, 10001) -> throws.IllegalArgumentException
            layer(0, 7, 10000) -> 0
            boring(9, 9, 50) -> 1
            12 * layer(1, 3, 100) -> #
            layer(1, 0, 1) -> throws.UnsupportedOperationException
            layer(1, 8, 1) -> throws.IllegalArgumentException
            layer(5, 0, 1) -> throws.IndexOutOfBoundsException
            layer(0, 0, 1) -> 1
            fault(9, 9, 10, 10) -> true
            run() -> 14
            bedOf(1, 11) -> 13
            at(2, 9, 9, 0) -> 50
            at(13, 9, 9, 0) -> -1050
            """);
        check("4: ages", """
            age(0, 99) -> true
            age(7, 0) -> true
            age(-1, 0) -> false
            age(8, 0) -> false
            age(0, -1) -> false
            age(0, 100) -> false
            run() -> 0
            age(8, 0) -> false
            age(0, 100) -> false
            count(3) -> 0
            """);
        check("5: faults", """
            fault(-1000, -1000, 1000, 1000) -> true
            fault(1001, 0, 0, 0) -> false
            fault(0, -1001, 0, 0) -> false
            fault(0, 0, -1001, 0) -> false
            fault(0, 0, 0, 1001) -> false
            fault(3, 4, 3, 4) -> false
            fault(3, 4, 4, 4) -> true
            fault(3, 4, 3, 5) -> true
            count(1) -> 3
            5 * fault(0, 0, 1, 1) -> true
            fault(0, 0, 1, 1) -> false
            count(1) -> 8
            run() -> 0
            fault(0, 0, 1, 1) -> false
            count(4) -> 0
            """);
        check("6: the lens", CORNER, """
            run() -> 3
            lens(0) -> false
            lens(101) -> false
            lens(-5) -> false
            volume(3, 0, 0, 10, 10) -> 1000000
            lens(1) -> true
            volume(3, 0, 0, 10, 10) -> 400
            lens(100) -> true
            volume(3, 0, 0, 10, 10) -> 4000000
            """);
    }

    private static void waterAndWithin() {
        check("7: water", """
            water(0, 0, 0) -> false
            boring(0, 0, 0) -> 0
            boring(5, 0, 0) -> 1
            run() -> 0
            water(0, 0, -100000) -> true
            water(1, 99, 100000) -> true
            water(-1, 0, 0) -> false
            water(2, 0, 0) -> false
            water(0, -1, 0) -> false
            water(0, 100, 0) -> false
            water(0, 0, -100001) -> false
            water(0, 0, 100001) -> false
            count(2) -> 2
            wet(0, 0, 0, 0) -> -100000
            wet(99, 5, 0, 0) -> 100000
            water(0, 0, 7) -> true
            count(2) -> 2
            wet(0, 0, 0, 0) -> 7
            """);
        check("7: sixty others", """
            boring(0, 0, 0) -> 0
            boring(5, 0, 0) -> 1
            60 * water(0, #, #) -> true
            count(2) -> 60
            water(0, 60, 1) -> false
            water(1, 0, 1) -> false
            water(0, 59, 8) -> true
            water(0, 0, 9) -> true
            count(2) -> 60
            run() -> 0
            wet(59, 0, 0, 0) -> 8
            wet(0, 0, 0, 0) -> 9
            wet(58, 0, 0, 0) -> 58
            wet(60, 0, 0, 1) -> 0
            """);
        check("8: within", CORNER, """
            run() -> 3
            within(-1) -> false
            within(10001) -> false
            later(0, 0, 1, 13) -> 1
            within(3) -> true
            within(10001) -> false
            later(0, 0, 1, 13) -> 0
            later(0, 0, 1, 7) -> 0
            later(0, 0, 1, 14) -> 1
            within(0) -> true
            later(0, 0, 1, 11) -> 1
            within(10000) -> true
            later(0, 0, 1, 10010) -> 0
            later(0, 0, 1, 10011) -> 1
            """);
    }

    private static void net() {
        check("9, 10, 11: an order by squares, then a, then b", """
            boring(0, 0, 0) -> 0
            boring(10, 0, 0) -> 1
            boring(10, 10, 0) -> 2
            boring(0, 10, 0) -> 3
            boring(13, 0, 0) -> 4
            run() -> 0
            count(0) -> 5
            count(3) -> 7
            edge(0, 0) -> 1
            edge(0, 1) -> 4
            edge(1, 0) -> 0
            edge(1, 1) -> 1
            edge(2, 0) -> 0
            edge(2, 1) -> 3
            edge(3, 0) -> 1
            edge(3, 1) -> 2
            edge(4, 0) -> 2
            edge(4, 1) -> 3
            edge(5, 0) -> 2
            edge(5, 1) -> 4
            edge(6, 0) -> 0
            edge(6, 1) -> 2
            edge(7, 0) -> throws.IndexOutOfBoundsException
            edge(-1, 0) -> throws.IndexOutOfBoundsException
            edge(7, 9) -> throws.IndexOutOfBoundsException
            edge(0, 3) -> throws.IllegalArgumentException
            edge(0, -1) -> throws.IllegalArgumentException
            """);
        check("10: other numbers", """
            count(7) -> -1
            count(-1) -> -1
            count(2147483647) -> -1
            count(0) -> 0
            """);
        check("9: a boring on the way parts the others", """
            boring(0, 0, 0) -> 0
            boring(4, 2, 0) -> 1
            boring(2, 1, 0) -> 2
            run() -> 0
            count(3) -> 2
            edge(0, 0) -> 0
            edge(0, 1) -> 2
            edge(1, 0) -> 1
            edge(1, 1) -> 2
            count(5) -> 0
            sum(0, 1) -> throws.IllegalArgumentException
            """);
        check("11: a fault that touches an end, lies on the way or crosses it", """
            boring(0, 0, 0) -> 0
            boring(10, 0, 0) -> 1
            run() -> 0
            edge(0, 2) -> 0
            fault(11, 0, 20, 0) -> true
            fault(0, 1, 10, 1) -> true
            fault(5, -3, 5, -1) -> true
            run() -> 0
            count(4) -> 0
            fault(10, 0, 20, 5) -> true
            run() -> 0
            edge(0, 2) -> 1
            count(4) -> 1
            count(3) -> 1
            sum(0, 1) -> throws.IllegalArgumentException
            """);
        for (String fault : new String[] {"4, 0, 6, 0", "-5, 0, 15, 0", "10, 0, 20, 0", "5, 0, 5, 9", "5, -9, 5, 9",
            "0, 0, 10, 0", "-1, 5, 1, -5"}) {
            check("11: the fault " + fault, "boring(0, 0, 0) -> 0\nboring(10, 0, 0) -> 1\nfault(" + fault
                    + ") -> true\nrun() -> 0\nedge(0, 2) -> 1\nsection(0, 1, 0, 0) -> throws.IllegalArgumentException\n");
        }
        check("12: triangles by a, b, c, none with a boring in it", """
            boring(0, 0, 0) -> 0
            boring(9, 0, 0) -> 1
            boring(0, 9, 0) -> 2
            boring(3, 3, 0) -> 3
            run() -> 0
            count(3) -> 6
            count(5) -> 3
            triangle(0, 0) -> 0
            triangle(0, 1) -> 1
            triangle(0, 2) -> 3
            triangle(1, 0) -> 0
            triangle(1, 1) -> 2
            triangle(1, 2) -> 3
            triangle(2, 0) -> 1
            triangle(2, 1) -> 2
            triangle(2, 2) -> 3
            triangle(3, 0) -> throws.IndexOutOfBoundsException
            triangle(3, 7) -> throws.IndexOutOfBoundsException
            triangle(-1, 0) -> throws.IndexOutOfBoundsException
            triangle(0, 3) -> throws.IllegalArgumentException
            triangle(0, -1) -> throws.IllegalArgumentException
            fault(1, 1, 2, 1) -> true
            run() -> 0
            count(4) -> 1
            count(5) -> 1
            triangle(0, 0) -> 1
            """);
    }

    private static void matching() {
        check("13, 14: the least sum in both directions", CORNER, """
            run() -> 3
            match(0, 2, 0) -> 0
            match(0, 2, 1) -> 2
            match(2, 0, 0) -> 0
            match(2, 0, 1) -> -1
            match(2, 0, 2) -> 1
            sum(0, 2) -> 4
            sum(2, 0) -> 4
            match(3, 0, 0) -> throws.IndexOutOfBoundsException
            match(0, 3, 0) -> throws.IndexOutOfBoundsException
            match(0, -1, 0) -> throws.IndexOutOfBoundsException
            match(0, 1, 2) -> throws.IndexOutOfBoundsException
            match(0, 1, -1) -> throws.IndexOutOfBoundsException
            match(0, 0, 5) -> throws.IndexOutOfBoundsException
            match(0, 0, 0) -> throws.IllegalArgumentException
            sum(0, 3) -> throws.IndexOutOfBoundsException
            sum(-1, 0) -> throws.IndexOutOfBoundsException
            sum(1, 1) -> throws.IllegalArgumentException
            """);
        check("13: of the same sums a pair is better than an end", """
            boring(0, 0, 0) -> 0
            layer(0, 0, 50) -> 0
            boring(1, 0, 0) -> 1
            layer(1, 1, 50) -> 0
            run() -> 1
            sum(0, 1) -> 100
            match(0, 1, 0) -> 0
            age(1, 1) -> true
            run() -> 2
            sum(0, 1) -> 100
            match(0, 1, 0) -> -1
            """);
        check("13: of the same sums the less deep layer of the greater boring", """
            boring(0, 0, 0) -> 0
            layer(0, 0, 10) -> 0
            boring(1, 0, 0) -> 1
            layer(1, 0, 10) -> 0
            layer(1, 0, 10) -> 1
            layer(1, 0, 10) -> 2
            run() -> 3
            match(0, 1, 0) -> 0
            match(1, 0, 2) -> -1
            sum(0, 1) -> 20
            """);
        check("13: the first layer of the lesser boring is served first", """
            boring(0, 0, 0) -> 0
            layer(0, 0, 10) -> 0
            layer(0, 0, 10) -> 1
            layer(0, 0, 10) -> 2
            boring(1, 0, 0) -> 1
            layer(1, 0, 10) -> 0
            run() -> 3
            match(0, 1, 0) -> 0
            match(0, 1, 1) -> -1
            match(0, 1, 2) -> -1
            match(1, 0, 0) -> 0
            """);
        check("14: kinds of other ages cost more", """
            boring(0, 0, 0) -> 0
            layer(0, 2, 10000) -> 0
            boring(1, 0, 0) -> 1
            layer(1, 3, 9000) -> 0
            age(2, 99) -> true
            age(3, 90) -> true
            run() -> 1
            sum(1, 0) -> 1550
            age(3, 0) -> true
            run() -> 1
            sum(0, 1) -> 6050
            """);
        check("14: borings without layers", """
            boring(0, 0, 0) -> 0
            boring(1, 0, 0) -> 1
            run() -> 0
            sum(0, 1) -> 0
            section(0, 1, 0, 0) -> throws.IndexOutOfBoundsException
            layer(1, 0, 7) -> 0
            run() -> 1
            sum(0, 1) -> 7
            match(1, 0, 0) -> -1
            match(0, 1, 0) -> throws.IndexOutOfBoundsException
            section(0, 1, 0, 0) -> -1
            section(0, 1, 0, 1) -> 0
            section(0, 1, 1, 0) -> throws.IndexOutOfBoundsException
            """);
        sections();
        check("16: no matching crosses", CORNER, """
            run() -> 3
            crosses() -> false
            """);
    }

    private static void sections() {
        // Ends on both sides before the pair, between pairs, and behind the last one.
        String ends = """
            boring(0, 0, 0) -> 0
            layer(0, 1, 10) -> 0
            layer(0, 2, 500) -> 1
            layer(0, 1, 20) -> 2
            boring(5, 0, 0) -> 1
            layer(1, 3, 30) -> 0
            layer(1, 2, 500) -> 1
            layer(1, 3, 40) -> 2
            layer(1, 3, 41) -> 3
            age(1, 99) -> true
            run() -> 6
            """;
        check("15: a to the left", ends, """
            section(0, 1, 0, 0) -> 0
            section(0, 1, 0, 1) -> -1
            section(0, 1, 1, 0) -> -1
            section(0, 1, 1, 1) -> 0
            section(0, 1, 2, 0) -> 1
            section(0, 1, 2, 1) -> 1
            section(0, 1, 3, 0) -> 2
            section(0, 1, 3, 1) -> -1
            section(0, 1, 4, 0) -> -1
            section(0, 1, 4, 1) -> 2
            section(0, 1, 5, 0) -> -1
            section(0, 1, 5, 1) -> 3
            section(0, 1, 6, 0) -> throws.IndexOutOfBoundsException
            """);
        check("15: the other way round", ends, """
            section(1, 0, 0, 0) -> 0
            section(1, 0, 0, 1) -> -1
            section(1, 0, 1, 0) -> -1
            section(1, 0, 1, 1) -> 0
            section(1, 0, 2, 0) -> 1
            section(1, 0, 2, 1) -> 1
            section(1, 0, 3, 0) -> 2
            section(1, 0, 4, 0) -> 3
            section(1, 0, 5, 0) -> -1
            section(1, 0, 5, 1) -> 2
            """);
        check("15: what is looked at first", ends, """
            boring(10, 0, 0) -> 2
            section(0, 1, 0, 0) -> throws.IllegalStateException
            run() -> 6
            section(3, 0, 99, 99) -> throws.IndexOutOfBoundsException
            section(0, 3, 99, 99) -> throws.IndexOutOfBoundsException
            section(-1, 0, 0, 0) -> throws.IndexOutOfBoundsException
            section(0, 2, 99, 99) -> throws.IllegalArgumentException
            section(0, 0, 99, 0) -> throws.IllegalArgumentException
            section(0, 1, 99, 99) -> throws.IndexOutOfBoundsException
            section(0, 1, -1, 0) -> throws.IndexOutOfBoundsException
            section(0, 1, 0, 2) -> throws.IllegalArgumentException
            section(0, 1, 0, -1) -> throws.IllegalArgumentException
            """);
    }

    private static void beds() {
        check("9, 17, 18: beds by their first layers", CORNER, """
            run() -> 3
            bed(0, 0) -> 1
            bed(0, 1) -> 3
            bed(0, 2) -> 3
            bed(0, 3) -> 0
            bed(0, 4) -> 0
            bed(1, 0) -> 2
            bed(1, 3) -> 0
            bed(1, 4) -> 1
            bed(2, 0) -> 3
            bed(2, 1) -> 1
            bed(2, 2) -> 1
            bed(2, 3) -> 2
            bed(2, 4) -> 1
            bed(3, 0) -> throws.IndexOutOfBoundsException
            bed(-1, 9) -> throws.IndexOutOfBoundsException
            bed(0, 5) -> throws.IllegalArgumentException
            bed(0, -1) -> throws.IllegalArgumentException
            bedOf(0, 0) -> 0
            bedOf(0, 1) -> 1
            bedOf(2, 1) -> 2
            bedOf(2, 2) -> 1
            bedOf(2, 3) -> throws.IndexOutOfBoundsException
            bedOf(2, -1) -> throws.IndexOutOfBoundsException
            bedOf(3, 0) -> throws.IndexOutOfBoundsException
            bedOf(-1, 0) -> throws.IndexOutOfBoundsException
            count(6) -> 3
            """);
        // 0 is matched with the lower layer of 2, and 1 with the upper one: over 0 and 1 both are one bed.
        String twice = """
            boring(0, 0, 100) -> 0
            layer(0, 0, 30) -> 0
            boring(4, 0, 100) -> 1
            layer(1, 0, 10) -> 0
            boring(0, 4, 100) -> 2
            layer(2, 0, 10) -> 0
            layer(2, 0, 20) -> 1
            run() -> 1
            """;
        check("17: a bed with two layers in one boring", twice, """
            match(0, 2, 0) -> 1
            match(1, 2, 0) -> 0
            bed(0, 1) -> 3
            bed(0, 2) -> 4
            bedOf(2, 0) -> 0
            bedOf(2, 1) -> 0
            """);
        check("19, 21: its level there is the upper one, its thickness both", twice, """
            at(0, 0, 4, 0) -> 100
            volume(0, 0, 0, 4, 4) -> 22400000
            """);
        mostBeds();
        check("17: the kind is that of the first layer", """
            boring(0, 0, 0) -> 0
            layer(0, 5, 900) -> 0
            boring(1, 0, 0) -> 1
            layer(1, 4, 900) -> 0
            run() -> 1
            bed(0, 0) -> 5
            bed(0, 2) -> 2
            """);
    }

    /** Four by four borings with twelve thin layers each, no two neighbours of one kind: every layer is a bed. */
    private static void mostBeds() {
        StringBuilder told = new StringBuilder();
        for (int b = 0; b < 16; b++) {
            int x = b % 4;
            int y = b / 4;
            told.append("boring(" + x + ", " + y + ", " + b + ") -> " + b + "\n");
            told.append("12 * layer(" + b + ", " + (x % 2 * 2 + y % 2) + ", 1) -> #\n");
        }
        check("17, 19, 21, 22: as many beds as there can be", told.toString(), """
            run() -> 192
            count(3) -> 33
            count(5) -> 18
            bed(191, 3) -> 15
            bed(191, 4) -> 11
            bed(192, 0) -> throws.IndexOutOfBoundsException
            bedOf(15, 11) -> 191
            at(191, 3, 3, 0) -> 4
            at(191, 2, 3, 1) -> 0
            volume(3, 0, 0, 1, 1) -> 120000
            volume(0, 0, 0, 3, 3) -> 840000
            volume(7, 0, 0, 3, 3) -> 0
            later(3, 3, 3, 4) -> 0
            later(3, 3, 3, 3) -> 1
            later(3, 3, 2, 4) -> 2
            later(3, 3, 7, 0) -> 2
            crosses() -> false
            """);
    }

    private static void levels() {
        check("19: at borings, in triangles, nowhere", CORNER, """
            run() -> 3
            at(0, 10, 0, 0) -> 12
            at(0, 10, 0, 1) -> 1
            at(0, 1, 1, 0) -> 10
            at(0, 1, 0, 0) -> 51
            at(0, 1, 0, 1) -> 5
            at(1, 5, 5, 0) -> 7
            at(1, 5, 5, 1) -> 2
            at(1, 6, 5, 0) -> 0
            at(1, 6, 5, 1) -> 0
            at(2, 0, 10, 0) -> 3
            at(2, 0, 10, 1) -> 1
            at(2, 0, 0, 1) -> 0
            at(3, 0, 0, 0) -> throws.IndexOutOfBoundsException
            at(-1, 2000, 0, 0) -> throws.IndexOutOfBoundsException
            at(0, 1001, 0, 0) -> throws.IllegalArgumentException
            at(0, 0, -1001, 0) -> throws.IllegalArgumentException
            at(0, 0, 0, 2) -> throws.IllegalArgumentException
            at(0, 0, 0, -1) -> throws.IllegalArgumentException
            at(0, 1000, 1000, 1) -> 0
            """);
        check("19: below zero, and zero in least terms", """
            boring(0, 0, -3) -> 0
            layer(0, 0, 5) -> 0
            boring(3, 0, -4) -> 1
            layer(1, 0, 5) -> 0
            boring(0, 3, 6) -> 2
            layer(2, 0, 5) -> 0
            run() -> 1
            at(0, 1, 0, 0) -> -10
            at(0, 1, 0, 1) -> 3
            at(0, 1, 1, 0) -> -1
            at(0, 1, 1, 1) -> 3
            at(0, 0, 1, 0) -> 0
            at(0, 0, 1, 1) -> 1
            """);
        check("19, 20: just one boring", """
            boring(5, 5, 42) -> 0
            layer(0, 0, 2) -> 0
            layer(0, 1, 2) -> 1
            run() -> 2
            at(1, -1000, 1000, 0) -> 40
            at(1, -1000, 1000, 1) -> 1
            wet(0, 0, 0, 1) -> 0
            water(0, 0, -6) -> true
            wet(0, 0, 0, 0) -> -6
            wet(0, 0, 0, 1) -> 1
            wet(1, 5, 5, 1) -> 0
            boring(6, 5, 0) -> 1
            run() -> 2
            at(1, 0, 0, 1) -> 0
            at(1, 5, 5, 0) -> 40
            wet(0, 0, 0, 1) -> 0
            wet(0, 5, 5, 0) -> -6
            """);
        check("19, 20: on a side of two triangles the first whose borings have it", """
            boring(0, 0, 0) -> 0
            boring(4, 0, 0) -> 1
            boring(0, 4, 0) -> 2
            boring(-5, -5, 0) -> 3
            run() -> 0
            count(5) -> 3
            water(0, 1, 10) -> true
            water(2, 1, 30) -> true
            wet(1, 0, 2, 1) -> 0
            water(3, 1, 50) -> true
            wet(1, 0, 2, 0) -> 20
            wet(1, 1, 1, 1) -> 0
            wet(1, 4, 0, 1) -> 0
            water(1, 1, -10) -> true
            wet(1, 1, 1, 0) -> 10
            """);
        check("20: wrong numbers", CORNER, """
            run() -> 3
            wet(-1, 0, 0, 0) -> throws.IllegalArgumentException
            wet(100, 0, 0, 0) -> throws.IllegalArgumentException
            wet(0, 1001, 0, 0) -> throws.IllegalArgumentException
            wet(0, 0, -1001, 0) -> throws.IllegalArgumentException
            wet(0, 0, 0, 2) -> throws.IllegalArgumentException
            wet(99, 0, 0, 0) -> 0
            """);
    }

    private static void volumes() {
        check("21: three, two, one", """
            boring(0, 0, 0) -> 0
            layer(0, 0, 10) -> 0
            boring(10, 0, 0) -> 1
            boring(0, 10, 0) -> 2
            run() -> 1
            lens(20) -> true
            volume(0, 0, 0, 10, 10) -> 800000
            layer(1, 0, 12) -> 0
            run() -> 1
            volume(0, 0, 0, 10, 10) -> 12320000
            layer(2, 0, 13) -> 0
            run() -> 1
            volume(0, 0, 0, 10, 10) -> 70000000
            volume(1, 0, 0, 10, 10) -> 0
            """);
        check("21: only triangles that are whole in the box", CORNER, """
            run() -> 3
            volume(1, 0, 0, 10, 10) -> 32000000
            volume(1, -2147483648, -2147483648, 2147483647, 2147483647) -> 32000000
            volume(1, 1, 0, 10, 10) -> 0
            volume(1, 0, 1, 10, 10) -> 0
            volume(1, 0, 0, 9, 10) -> 0
            volume(1, 0, 0, 10, 9) -> 0
            volume(1, 10, 10, 0, 0) -> 0
            volume(-1, 0, 0, 0, 0) -> throws.IllegalArgumentException
            volume(8, 0, 0, 0, 0) -> throws.IllegalArgumentException
            """);
        check("21: a great one", """
            boring(-1000, -1000, 0) -> 0
            boring(1000, -1000, 0) -> 1
            boring(-1000, 1000, 0) -> 2
            8 * layer(0, #, 10000) -> #
            8 * layer(1, #, 10000) -> #
            8 * layer(2, #, 10000) -> #
            run() -> 8
            volume(3, -1000, -1000, 1000, 1000) -> 2400000000000000
            """);
    }

    private static void findings() {
        check("22: near, off, none", CORNER, """
            run() -> 3
            within(2) -> true
            later(3, 3, 1, 10) -> 0
            later(3, 3, 1, 12) -> 0
            later(3, 3, 1, 13) -> 1
            later(3, 3, 5, 10) -> 2
            later(9, 9, 1, 10) -> 2
            later(1, 1, 3, 10) -> 2
            later(0, 10, 3, 2) -> 0
            later(1001, 0, 1, 0) -> throws.IllegalArgumentException
            later(0, 1001, 1, 0) -> throws.IllegalArgumentException
            later(0, 0, -1, 0) -> throws.IllegalArgumentException
            later(0, 0, 8, 0) -> throws.IllegalArgumentException
            later(0, 0, 1, 100001) -> throws.IllegalArgumentException
            later(0, 0, 1, -100001) -> throws.IllegalArgumentException
            later(0, 0, 1, 100000) -> 1
            """);
        check("22: parts of one count", CORNER, """
            run() -> 3
            at(0, 1, 0, 0) -> 51
            at(0, 1, 0, 1) -> 5
            later(1, 0, 1, 10) -> 1
            within(1) -> true
            later(1, 0, 1, 10) -> 0
            later(1, 0, 1, 11) -> 0
            later(1, 0, 1, 9) -> 1
            """);
        check("22: any bed of the kind will do", """
            boring(0, 0, 100) -> 0
            layer(0, 6, 30) -> 0
            layer(0, 2, 30) -> 1
            layer(0, 6, 30) -> 2
            run() -> 3
            later(7, 7, 6, 100) -> 0
            later(7, 7, 6, 40) -> 0
            later(7, 7, 6, 70) -> 1
            later(7, 7, 2, 70) -> 0
            """);
        check("23: the nearest, of several the least", """
            doubt(0, 0) -> -1
            boring(10, 0, 0) -> 0
            boring(0, 0, 0) -> 1
            boring(0, 10, 0) -> 2
            doubt(5, 5) -> 0
            doubt(4, 5) -> 1
            doubt(4, 6) -> 2
            doubt(1000, 1000) -> 0
            doubt(-1000, -1000) -> 1
            doubt(1001, 0) -> -1
            doubt(0, -1001) -> -1
            """);
    }

    private static void texts() {
        check("24: which characters", """
            unit(31) -> false
            unit(127) -> false
            unit(9) -> false
            unit(13) -> false
            unit(-1) -> false
            unit(65568) -> false
            unit(32) -> true
            unit(10) -> true
            unit(126) -> true
            read() -> -1
            """);
        Script.checkBeyondPromisedCalls("promise 24: six hundred", """
            600 * unit(32) -> true
            unit(32) -> false
            unit(10) -> false
            read() -> 0
            unit(32) -> true
            """);
        check("25, 26, 27: a text and back", """
            text "b 1 -2 30 4 5|6 7 e|| b -0 007 -100000 e " -> true
            read() -> 2
            count(0) -> 2
            write(0) -> 19
            written -> b 1 -2 30 4 5 6 7 e
            write(1) -> 15
            written -> b 0 7 -100000 e
            run() -> 2
            bed(1, 0) -> 6
            read() -> 0
            count(6) -> 2
            """);
        badTexts();
        check("25: nothing is told, and the text is empty", """
            text "b 1 1 1 e b 2 2 2 e x" -> true
            run() -> 0
            read() -> -11
            count(0) -> 0
            count(3) -> 0
            read() -> 0
            boring(1, 1, 1) -> 0
            layer(0, 0, 1) -> 0
            """);
        check("25: a text in which layers were told before it failed", """
            text "b 1 1 1 3 3 4 4 q" -> true
            read() -> -9
            boring(1, 1, 1) -> 0
            write(0) -> 9
            written -> b 1 1 1 e
            """);
        StringBuilder sixteen = new StringBuilder();
        for (int k = 0; k < 16; k++) {
            sixteen.append("b ").append(k).append(" 0 0 e ");
        }
        check("25: sixteen in one text", "text \"" + sixteen + "\" -> true", "read() -> 16", "count(0) -> 16");
        check("25: seventeen in one text", "text \"" + sixteen + "b\" -> true", "read() -> -81", "count(0) -> 0");
        Script.checkBeyondPromisedCalls("promise 25: words up to the last unit", """
            599 * unit(32) -> true
            text "b" -> true
            read() -> -2
            598 * unit(10) -> true
            text "b-" -> true
            read() -> -1
            """);
        check("25: a b behind sixteen borings", SIXTEEN, """
            text "b 0 0 0 e" -> true
            read() -> -1
            read() -> 0
            count(0) -> 16
            """);
        check("25: a b behind sixteen in all", """
            15 * boring(#, 5, 0) -> #
            text "b 0 0 0 e b" -> true
            read() -> -6
            count(0) -> 15
            text "b 0 0 0 e" -> true
            read() -> 1
            count(0) -> 16
            """);
        check("26: edges", """
            write(0) -> throws.IndexOutOfBoundsException
            boring(-1000, -1000, -100000) -> 0
            12 * layer(0, 7, 10000) -> #
            write(0) -> 119
            written -> b -1000 -1000 -100000 7 10000 7 10000 7 10000 7 10000 7 10000 7 10000 7 10000 7 10000 7 10000 7 10000 7 10000 7 10000 e
            boring(0, 0, 0) -> 1
            write(1) -> 9
            written -> b 0 0 0 e
            write(2) -> throws.IndexOutOfBoundsException
            write(-1) -> throws.IndexOutOfBoundsException
            written -> b 0 0 0 e
            layer(1, 1, 1) -> 0
            written -> b 0 0 0 e
            """);
        check("27: letters", """
            letter(0) -> 0
            boring(3, 0, 0) -> 0
            write(0) -> 9
            letter(0) -> 98
            letter(1) -> 32
            letter(2) -> 51
            letter(8) -> 101
            letter(9) -> 0
            letter(-1) -> 0
            letter(2147483647) -> 0
            letter(-2147483648) -> 0
            """);
    }

    private static void badTexts() {
        String[][] texts = {
            {"", "0"}, {" | ", "0"}, {"x", "-1"}, {"B", "-1"}, {"bb", "-1"}, {"e", "-1"}, {"1", "-1"},
            {"b", "-2"}, {"b b", "-2"}, {"b 1001", "-2"}, {"b -1001 5", "-2"}, {"b 1", "-3"},
            {"b 1 1001 0 e", "-3"}, {"b 1 -", "-3"}, {"b 1 --1", "-3"}, {"b 1 1-", "-3"}, {"b 1 +1", "-3"},
            {"b 50 60", "-3"}, {"b 50 60 0 e", "-3"}, {"b 50 61 0", "-5"}, {"b 1 2 100001", "-4"},
            {"b 1 2 0100000 e", "-4"}, {"b 1 2 -0100000 e", "-4"}, {"b 1 2 -100000 e", "1"}, {"b 1 2 100000 e", "1"},
            {"b 1 2 3 8", "-5"}, {"b 1 2 3 -1", "-5"}, {"b 1 2 3 b", "-5"}, {"b 1 2 3 ee", "-5"}, {"b 1 2 3 4", "-6"},
            {"b 1 2 3 4 e", "-6"}, {"b 1 2 3 4 0 e", "-6"}, {"b 1 2 3 4 10001", "-6"}, {"b 1 2 3 4 5", "-7"},
            {"b 1 2 3 e e", "-6"}, {"b 1 2 3 e b 1 2 4 e", "-8"}, {"b 1 2 3 e b 1 3 4 e", "2"},
            {"b 000001 2 3 e", "1"}, {"b 0000001 2 3 e", "-2"}, {"b -000001 -0 -000003 -0 000001 e", "1"},
            {"b 1 2 3 0 1 0 1 0 1 0 1 0 1 0 1 0 1 0 1 0 1 0 1 0 1 0 1 e", "1"},
            {"b 1 2 3 0 1 0 1 0 1 0 1 0 1 0 1 0 1 0 1 0 1 0 1 0 1 0 1", "-29"},
            {"b 1 2 3 0 1 0 1 0 1 0 1 0 1 0 1 0 1 0 1 0 1 0 1 0 1 0 1 0 1 e", "-29"},
        };
        for (String[] pair : texts) {
            int told = Math.max(0, Integer.parseInt(pair[1]));
            check("25", "boring(50, 60, 0) -> 0\nrun() -> 0\ntext \"" + pair[0] + "\" -> true\nread() -> " + pair[1]
                    + "\ncount(0) -> " + (1 + told) + "\ncount(3) -> "
                    + (told > 0 ? "throws.IllegalStateException" : "0") + "\nread() -> 0\n");
        }
    }
}
