/** The boundary cases that the document's head and its terms name, each by the words that name it. */
public final class TermsTest {
    // Three around a corner, as far from one another as three can be.
    private static final String FARTHEST = """
        boring(-1000, -1000, 100000) -> 0
        boring(1000, -1000, 100000) -> 1
        boring(-1000, 1000, -100000) -> 2
        """;

    public static void main(String[] args) {
        calls();
        borings();
        layers();
        agesAndFaults();
        edgesOfFew();
        edges();
        mostEdges();
        broken();
        triangles();
        matchings();
        costs();
        bestOfSeveral();
        beds();
        levels();
        levelsOnTriangles();
        volumes();
        stateOfRun();
        nothingChanges();
        Script.end("TermsTest");
    }

    private static void check(String words, String... scripts) {
        Script.check("terms: " + words, scripts);
    }

    private static void calls() {
        check("An object is used for at most 512 calls", """
            boring(0, 0, 0) -> 0
            509 * unit(32) -> true
            count(0) -> 1
            read() -> 0
            """);
        check("at most 512 calls after it has been made", """
            510 * doubt(0, 0) -> -1
            boring(5, 5, 5) -> 0
            doubt(0, 0) -> 0
            """);
    }

    private static void borings() {
        check("BORINGS are numbered from 0 on, at most 16", """
            16 * boring(#, 0, 0) -> #
            count(0) -> 16
            boring(16, 0, 0) -> throws.UnsupportedOperationException
            count(0) -> 16
            layer(15, 0, 1) -> 0
            layer(16, 0, 1) -> throws.IndexOutOfBoundsException
            write(15) -> 14
            write(16) -> throws.IndexOutOfBoundsException
            run() -> 1
            """);
        check("each at a PLACE x, y (whole numbers, -1000 .. 1000", """
            boring(-1001, 0, 0) -> throws.IllegalArgumentException
            boring(1001, 0, 0) -> throws.IllegalArgumentException
            boring(0, -1001, 0) -> throws.IllegalArgumentException
            boring(0, 1001, 0) -> throws.IllegalArgumentException
            boring(-2147483648, 0, 0) -> throws.IllegalArgumentException
            boring(0, 2147483647, 0) -> throws.IllegalArgumentException
            count(0) -> 0
            boring(-1000, 0, 0) -> 0
            boring(1000, 0, 0) -> 1
            boring(0, -1000, 0) -> 2
            boring(0, 1000, 0) -> 3
            boring(-1000, -1000, 0) -> 4
            boring(1000, 1000, 0) -> 5
            """);
        check("no two at one place", """
            boring(3, -4, 0) -> 0
            boring(3, -4, 0) -> throws.IllegalArgumentException
            boring(3, -4, 1) -> throws.IllegalArgumentException
            boring(-4, 3, 0) -> 1
            boring(3, 4, 0) -> 2
            boring(-3, -4, 0) -> 3
            boring(3, -5, 0) -> 4
            boring(2, -4, 0) -> 5
            boring(-4, 3, 7) -> throws.IllegalArgumentException
            count(0) -> 6
            """);
        check("with a TOP, -100000 .. 100000", """
            boring(1, 1, -100000) -> 0
            boring(2, 2, 100000) -> 1
            boring(3, 3, -100001) -> throws.IllegalArgumentException
            boring(3, 3, 100001) -> throws.IllegalArgumentException
            boring(3, 3, -2147483648) -> throws.IllegalArgumentException
            boring(3, 3, 2147483647) -> throws.IllegalArgumentException
            count(0) -> 2
            write(0) -> 15
            written -> b 1 1 -100000 e
            write(1) -> 14
            written -> b 2 2 100000 e
            """);
    }

    private static void layers() {
        check("Its LAYERS, at most 12, are numbered from 0 on, from the top down", """
            boring(0, 0, 0) -> 0
            boring(5, 0, 0) -> 1
            12 * layer(0, 1, 10) -> #
            layer(0, 1, 10) -> throws.UnsupportedOperationException
            layer(1, 1, 10) -> 0
            layer(0, 1, 10) -> throws.UnsupportedOperationException
            layer(1, 1, 11) -> 1
            run() -> 12
            bedOf(0, 11) -> 11
            bedOf(0, 12) -> throws.IndexOutOfBoundsException
            at(0, 0, 0, 0) -> 0
            at(1, 0, 0, 0) -> -10
            """);
        check("each of a KIND 0 .. 7", """
            boring(0, 0, 0) -> 0
            layer(0, -1, 1) -> throws.IllegalArgumentException
            layer(0, 8, 1) -> throws.IllegalArgumentException
            layer(0, 0, 1) -> 0
            layer(0, 7, 1) -> 1
            write(0) -> 17
            written -> b 0 0 0 0 1 7 1 e
            """);
        check("a THICKNESS 1 .. 10000", """
            boring(0, 0, 0) -> 0
            layer(0, 0, 0) -> throws.IllegalArgumentException
            layer(0, 0, -1) -> throws.IllegalArgumentException
            layer(0, 0, 10001) -> throws.IllegalArgumentException
            layer(0, 0, 1) -> 0
            layer(0, 0, 10000) -> 1
            write(0) -> 21
            written -> b 0 0 0 0 1 0 10000 e
            """);
        check("THE LEVEL of a layer is the top less the thicknesses of all layers above it", """
            boring(0, 0, -100000) -> 0
            12 * layer(0, 0, 10000) -> #
            run() -> 12
            at(0, 0, 0, 0) -> -100000
            at(1, 0, 0, 0) -> -110000
            at(11, 0, 0, 0) -> -210000
            at(11, 0, 0, 1) -> 1
            """);
    }

    private static void agesAndFaults() {
        // The sum shows the difference of the ages: 100 and 50 times that.
        String two = """
            boring(0, 0, 0) -> 0
            layer(0, 0, 9000) -> 0
            boring(1, 0, 0) -> 1
            layer(1, 7, 9000) -> 0
            """;
        check("Kinds have an AGE 0 .. 99", two, """
            age(0, 99) -> true
            age(7, 0) -> true
            age(0, 100) -> false
            age(7, -1) -> false
            run() -> 1
            sum(0, 1) -> 5050
            age(7, 99) -> true
            run() -> 1
            sum(0, 1) -> 100
            """);
        check("an AGE 0 .. 99, at first 0", two, """
            run() -> 1
            sum(0, 1) -> 100
            age(7, 1) -> true
            run() -> 1
            sum(0, 1) -> 150
            """);
        check("FAULTS are straight ways between two different places", """
            fault(0, 0, 0, 0) -> false
            fault(-1000, 1000, -1000, 1000) -> false
            fault(0, 0, 1, 0) -> true
            fault(0, 0, 0, 1) -> true
            fault(1000, -1000, -1000, 1000) -> true
            fault(1001, 0, 0, 0) -> false
            fault(0, 1001, 0, 0) -> false
            fault(0, 0, 1001, 0) -> false
            fault(0, 0, 0, 1001) -> false
            fault(-1001, 0, 0, 0) -> false
            fault(0, -1001, 0, 0) -> false
            fault(0, 0, -1001, 0) -> false
            fault(0, 0, 0, -1001) -> false
            count(1) -> 3
            """);
        // The last fault that is taken breaks the edge, the first that is refused does not.
        check("FAULTS are straight ways between two different places, at most 8", """
            boring(0, 0, 0) -> 0
            boring(10, 0, 0) -> 1
            boring(0, 100, 0) -> 2
            7 * fault(500, #, 600, #) -> true
            run() -> 0
            count(4) -> 0
            fault(5, -1, 5, 1) -> true
            fault(-1, 50, 1, 50) -> false
            count(1) -> 8
            run() -> 0
            count(4) -> 1
            edge(0, 2) -> 1
            """);
    }

    private static void edgesOfFew() {
        check("THE NET of no boring", """
            run() -> 0
            count(3) -> 0
            count(4) -> 0
            count(5) -> 0
            edge(0, 0) -> throws.IndexOutOfBoundsException
            triangle(0, 0) -> throws.IndexOutOfBoundsException
            """);
        check("THE NET of one boring", """
            boring(0, 0, 0) -> 0
            run() -> 0
            count(3) -> 0
            edge(0, 0) -> throws.IndexOutOfBoundsException
            sum(0, 0) -> throws.IllegalArgumentException
            sum(0, 1) -> throws.IndexOutOfBoundsException
            """);
        check("THE NET of two borings, as far apart as can be", """
            boring(1000, 1000, 0) -> 0
            boring(-1000, -1000, 0) -> 1
            run() -> 0
            count(3) -> 1
            count(5) -> 0
            edge(0, 0) -> 0
            edge(0, 1) -> 1
            edge(0, 2) -> 0
            edge(1, 0) -> throws.IndexOutOfBoundsException
            """);
        check("pairs of borings a, b (a less than b)", """
            boring(9, 0, 0) -> 0
            boring(0, 0, 0) -> 1
            boring(5, 0, 0) -> 2
            run() -> 0
            edge(0, 0) -> 0
            edge(0, 1) -> 2
            edge(1, 0) -> 1
            edge(1, 1) -> 2
            """);
    }

    private static void edges() {
        check("gone through by the squares of their distances, the least first", """
            boring(0, 0, 0) -> 0
            boring(10, 0, 0) -> 1
            boring(1, 10, 0) -> 2
            boring(2, 11, 0) -> 3
            run() -> 0
            edge(0, 0) -> 2
            edge(0, 1) -> 3
            edge(1, 0) -> 0
            edge(1, 1) -> 1
            edge(2, 0) -> 0
            edge(2, 1) -> 2
            edge(3, 0) -> 0
            edge(3, 1) -> 3
            edge(4, 0) -> 1
            edge(4, 1) -> 3
            count(3) -> 5
            """);
        check("of the same the one with the lesser a, then the lesser b", """
            boring(0, 0, 0) -> 0
            boring(7, 7, 0) -> 1
            boring(7, 0, 0) -> 2
            boring(0, 7, 0) -> 3
            run() -> 0
            count(3) -> 5
            edge(0, 0) -> 0
            edge(0, 1) -> 2
            edge(1, 0) -> 0
            edge(1, 1) -> 3
            edge(2, 0) -> 1
            edge(2, 1) -> 2
            edge(3, 0) -> 1
            edge(3, 1) -> 3
            edge(4, 0) -> 0
            edge(4, 1) -> 1
            """);
        check("if no other boring lies on the straight way between them", """
            boring(0, 0, 0) -> 0
            boring(6, 4, 0) -> 1
            boring(3, 2, 0) -> 2
            run() -> 0
            count(3) -> 2
            sum(0, 1) -> throws.IllegalArgumentException
            sum(0, 2) -> 0
            sum(1, 2) -> 0
            """);
        check("no other boring lies on the straight way between them: not the first one either", """
            boring(3, 2, 0) -> 0
            boring(6, 4, 0) -> 1
            boring(0, 0, 0) -> 2
            run() -> 0
            count(3) -> 2
            sum(1, 2) -> throws.IllegalArgumentException
            """);
        check("a boring on the same line, but beside the way, or one beside the line", """
            boring(0, 0, 0) -> 0
            boring(3, 2, 0) -> 1
            boring(6, 5, 0) -> 2
            boring(9, 6, 0) -> 3
            run() -> 0
            sum(0, 1) -> 0
            sum(1, 3) -> 0
            sum(0, 2) -> 0
            sum(0, 3) -> throws.IllegalArgumentException
            count(3) -> 5
            """);
        check("this has no point in common with an edge taken before", """
            boring(0, 0, 0) -> 0
            boring(10, 0, 0) -> 1
            boring(5, 3, 0) -> 2
            boring(5, -3, 0) -> 3
            run() -> 0
            edge(0, 0) -> 0
            edge(0, 1) -> 2
            count(3) -> 5
            sum(2, 3) -> 0
            sum(0, 1) -> throws.IllegalArgumentException
            """);
        check("no point in common with an edge taken before: with the first one alone", """
            boring(0, 0, 0) -> 0
            boring(1, 0, 0) -> 1
            boring(0, 10, 0) -> 2
            boring(1, -10, 0) -> 3
            run() -> 0
            edge(0, 0) -> 0
            edge(0, 1) -> 1
            count(3) -> 5
            sum(0, 1) -> 0
            sum(2, 3) -> throws.IllegalArgumentException
            """);
        check("no point in common with an edge taken before: with the last one alone", """
            boring(0, 0, 0) -> 0
            boring(10, 0, 0) -> 1
            boring(10, 10, 0) -> 2
            boring(0, 10, 0) -> 3
            run() -> 0
            count(3) -> 5
            edge(4, 0) -> 0
            edge(4, 1) -> 2
            sum(1, 3) -> throws.IllegalArgumentException
            """);
        check("no point in common with an edge taken before but for a boring of both", """
            boring(0, 0, 0) -> 0
            boring(10, 0, 0) -> 1
            boring(0, 10, 0) -> 2
            boring(-10, 0, 0) -> 3
            boring(0, -10, 0) -> 4
            run() -> 0
            count(3) -> 8
            4 * edge(#, 0) -> 0
            edge(3, 1) -> 4
            edge(7, 0) -> 3
            edge(7, 1) -> 4
            """);
        check("Edges are numbered from 0 on as they are taken: all on one line", """
            16 * boring(#, #, 0) -> #
            run() -> 0
            count(3) -> 15
            15 * edge(#, 0) -> #
            edge(14, 1) -> 15
            edge(15, 0) -> throws.IndexOutOfBoundsException
            count(5) -> 0
            """);
    }

    /** Three around all others: more edges or triangles than here there cannot be. */
    private static void mostEdges() {
        String most = """
            boring(-1000, -1000, 0) -> 0
            boring(1000, -1000, 0) -> 1
            boring(0, 1000, 0) -> 2
            boring(-300, -400, 0) -> 3
            boring(-250, 120, 0) -> 4
            boring(-200, -710, 0) -> 5
            boring(-130, 330, 0) -> 6
            boring(-90, -220, 0) -> 7
            boring(-10, 510, 0) -> 8
            boring(40, -900, 0) -> 9
            boring(70, 60, 0) -> 10
            boring(110, -450, 0) -> 11
            boring(180, 250, 0) -> 12
            boring(230, -130, 0) -> 13
            boring(320, -620, 0) -> 14
            boring(400, -310, 0) -> 15
            """;
        check("Edges are numbered from 0 on as they are taken: the most there can be", most, """
            run() -> 0
            count(3) -> 42
            edge(40, 0) -> 0
            edge(40, 1) -> 2
            edge(41, 0) -> 1
            edge(41, 1) -> 2
            edge(42, 0) -> throws.IndexOutOfBoundsException
            count(4) -> 0
            """);
        check("triangles are numbered from 0 on: the most there can be", most, """
            run() -> 0
            count(5) -> 27
            triangle(0, 0) -> 0
            triangle(26, 0) -> 12
            triangle(26, 1) -> 13
            triangle(26, 2) -> 15
            triangle(27, 0) -> throws.IndexOutOfBoundsException
            """);
        StringBuilder deep = new StringBuilder(most);
        for (int b = 0; b < 16; b++) {
            deep.append("12 * layer(" + b + ", 3, 10) -> #\n");
        }
        check("the most borings, edges and layers at once", deep.toString(), """
            run() -> 12
            count(3) -> 42
            count(5) -> 27
            12 * match(1, 2, #) -> #
            12 * match(2, 1, #) -> #
            12 * section(2, 1, #, 0) -> #
            section(2, 1, 12, 0) -> throws.IndexOutOfBoundsException
            12 * bedOf(15, #) -> #
            12 * bed(#, 2) -> 16
            crosses() -> false
            at(11, 1000, -1000, 0) -> -110
            at(11, 0, 999, 0) -> -110
            """);
        check("levels and volumes over the most triangles", most, """
            16 * layer(#, 3, 10000) -> 0
            16 * water(#, 0, 100000) -> true
            run() -> 1
            bed(0, 1) -> 16
            bed(0, 2) -> 16
            at(0, 900, -990, 0) -> 0
            at(0, 900, -990, 1) -> 1
            wet(0, 900, -990, 0) -> 100000
            wet(0, 390, -320, 0) -> 100000
            volume(3, -1000, -1000, 1000, 1000) -> 2400000000000000
            """);
    }

    private static void broken() {
        String[][] faults = {
            {"crosses the way", "5, -9, 5, 9", "1"},
            {"crosses it between whole places", "4, -1, 5, 2", "1"},
            {"ends on it", "5, 0, 5, 9", "1"},
            {"ends just above it", "5, 1, 5, 9", "0"},
            {"ends just below it", "5, -9, 5, -1", "0"},
            {"has the first boring as its end", "0, 0, -9, 3", "1"},
            {"has the second boring as its end", "19, 3, 10, 0", "1"},
            {"goes through the first boring", "0, -5, 0, 5", "1"},
            {"goes through the second boring", "9, 1, 11, -1", "1"},
            {"goes past the first boring", "-1, -5, -1, 5", "0"},
            {"goes past the second boring", "11, -5, 11, 5", "0"},
            {"is the way itself", "0, 0, 10, 0", "1"},
            {"is the way turned round", "10, 0, 0, 0", "1"},
            {"lies within it", "3, 0, 4, 0", "1"},
            {"has it within", "-3, 0, 13, 0", "1"},
            {"goes on from its end", "10, 0, 12, 0", "1"},
            {"comes up to its begin", "-7, 0, 0, 0", "1"},
            {"begins just behind it on the same line", "11, 0, 19, 0", "0"},
            {"ends just before it on the same line", "-9, 0, -1, 0", "0"},
            {"lies beside it", "0, 1, 10, 1", "0"},
        };
        for (String[] fault : faults) {
            String neighbours = fault[2].equals("1") ? "throws.IllegalArgumentException" : "0";
            check("An edge is BROKEN, if some fault has a point in common with it: one that " + fault[0], """
                boring(0, 0, 0) -> 0
                boring(10, 0, 0) -> 1
                """, "fault(" + fault[1] + ") -> true", "run() -> 0", "count(3) -> 1", "edge(0, 2) -> " + fault[2],
                "count(4) -> " + fault[2], "sum(0, 1) -> " + neighbours);
        }
        check("Borings of an edge that is not broken are NEIGHBOURS", """
            boring(0, 0, 0) -> 0
            boring(10, 0, 0) -> 1
            boring(0, 10, 0) -> 2
            layer(0, 0, 5) -> 0
            layer(1, 0, 5) -> 0
            layer(2, 0, 5) -> 0
            fault(5, -1, 5, 1) -> true
            run() -> 1
            match(0, 1, 0) -> throws.IllegalArgumentException
            match(1, 0, 0) -> throws.IllegalArgumentException
            section(1, 0, 0, 0) -> throws.IllegalArgumentException
            match(0, 2, 0) -> 0
            match(1, 2, 0) -> 0
            count(5) -> 0
            """);
        check("all edges broken by the most faults", """
            boring(0, 0, 0) -> 0
            boring(10, 0, 0) -> 1
            boring(0, 10, 0) -> 2
            3 * layer(#, 0, 5) -> 0
            6 * fault(-#, -1, -#, -2) -> true
            fault(-1, 0, 11, 0) -> true
            fault(-1, 11, 1, 9) -> true
            run() -> 3
            count(3) -> 3
            count(4) -> 3
            count(5) -> 0
            at(0, 1, 1, 1) -> 0
            at(2, 0, 10, 1) -> 1
            volume(0, -1000, -1000, 1000, 1000) -> 0
            crosses() -> false
            """);
        check("a fault does not take the edge out of the net: what it crosses is no edge still", """
            boring(0, 0, 0) -> 0
            boring(10, 0, 0) -> 1
            boring(5, 3, 0) -> 2
            boring(5, -3, 0) -> 3
            fault(4, 0, 6, 0) -> true
            run() -> 0
            count(3) -> 5
            count(4) -> 1
            sum(2, 3) -> throws.IllegalArgumentException
            sum(0, 1) -> throws.IllegalArgumentException
            """);
    }

    private static void triangles() {
        check("all neighbours of one another", """
            boring(0, 0, 0) -> 0
            boring(10, 0, 0) -> 1
            boring(0, 10, 0) -> 2
            run() -> 0
            count(5) -> 1
            fault(6, 6, 5, 5) -> true
            run() -> 0
            count(3) -> 3
            count(4) -> 1
            count(5) -> 0
            triangle(0, 0) -> throws.IndexOutOfBoundsException
            """);
        check("not on one straight line", """
            boring(0, 0, 0) -> 0
            boring(10, 10, 0) -> 1
            boring(5, 5, 0) -> 2
            run() -> 0
            count(5) -> 0
            boring(5, 6, 0) -> 3
            run() -> 0
            count(5) -> 2
            triangle(0, 0) -> 0
            triangle(0, 1) -> 2
            triangle(0, 2) -> 3
            triangle(1, 0) -> 1
            triangle(1, 1) -> 2
            triangle(1, 2) -> 3
            """);
        check("with no other boring in it", """
            boring(0, 0, 0) -> 0
            boring(30, 0, 0) -> 1
            boring(0, 30, 0) -> 2
            run() -> 0
            count(5) -> 1
            boring(1, 1, 0) -> 3
            run() -> 0
            count(5) -> 3
            2 * triangle(#, 0) -> 0
            triangle(2, 0) -> 1
            3 * triangle(#, 2) -> 3
            """);
        check("no other boring in it or on its sides", """
            boring(0, 0, 0) -> 0
            boring(30, 0, 0) -> 1
            boring(0, 30, 0) -> 2
            boring(15, 15, 0) -> 3
            run() -> 0
            count(5) -> 2
            triangle(0, 1) -> 1
            triangle(0, 2) -> 3
            triangle(1, 1) -> 2
            triangle(1, 2) -> 3
            """);
        check("no other boring in it: not the first one either", """
            boring(1, 1, 0) -> 0
            boring(30, 0, 0) -> 1
            boring(0, 30, 0) -> 2
            boring(0, 0, 0) -> 3
            run() -> 0
            count(3) -> 6
            count(5) -> 3
            3 * triangle(#, 0) -> 0
            """);
        check("three borings: the least triangles there can be, to the left and to the right", """
            boring(0, 0, 0) -> 0
            boring(1, 0, 0) -> 1
            boring(0, 1, 0) -> 2
            boring(1, 1, 0) -> 3
            run() -> 0
            count(3) -> 5
            count(5) -> 2
            triangle(0, 0) -> 0
            triangle(0, 1) -> 1
            triangle(0, 2) -> 3
            triangle(1, 0) -> 0
            triangle(1, 1) -> 2
            triangle(1, 2) -> 3
            """);
        check("triangles are numbered from 0 on by a, then b, then c", """
            boring(0, 0, 0) -> 0
            boring(10, 0, 0) -> 1
            boring(-10, 0, 0) -> 2
            boring(0, 10, 0) -> 3
            boring(0, -10, 0) -> 4
            run() -> 0
            count(5) -> 4
            4 * triangle(#, 0) -> 0
            triangle(0, 1) -> 1
            triangle(0, 2) -> 3
            triangle(1, 1) -> 1
            triangle(1, 2) -> 4
            triangle(2, 1) -> 2
            triangle(2, 2) -> 3
            triangle(3, 1) -> 2
            triangle(3, 2) -> 4
            triangle(4, 0) -> throws.IndexOutOfBoundsException
            """);
    }

    private static void matchings() {
        check("A MATCHING of neighbours without layers", """
            boring(0, 0, 0) -> 0
            boring(1, 0, 0) -> 1
            run() -> 0
            sum(0, 1) -> 0
            match(0, 1, 0) -> throws.IndexOutOfBoundsException
            """);
        check("each layer in one pair at most", """
            boring(0, 0, 0) -> 0
            layer(0, 0, 10) -> 0
            layer(0, 0, 10) -> 1
            boring(1, 0, 0) -> 1
            layer(1, 0, 20) -> 0
            run() -> 2
            sum(0, 1) -> 20
            match(0, 1, 0) -> 0
            match(0, 1, 1) -> -1
            match(1, 0, 0) -> 0
            """);
        // Crossed pairs would cost nothing.
        check("that do not cross", """
            boring(0, 0, 0) -> 0
            layer(0, 0, 500) -> 0
            layer(0, 1, 600) -> 1
            boring(1, 0, 0) -> 1
            layer(1, 1, 600) -> 0
            layer(1, 0, 500) -> 1
            age(1, 99) -> true
            run() -> 3
            sum(0, 1) -> 1000
            match(0, 1, 0) -> -1
            match(0, 1, 1) -> 0
            crosses() -> false
            """);
        check("the most layers on both sides, each with its like", """
            boring(0, 0, 0) -> 0
            boring(1, 0, 0) -> 1
            12 * layer(0, 3, 10000) -> #
            12 * layer(1, 3, 10000) -> #
            run() -> 12
            sum(0, 1) -> 0
            12 * match(0, 1, #) -> #
            12 * match(1, 0, #) -> #
            12 * section(0, 1, #, 0) -> #
            12 * section(0, 1, #, 1) -> #
            section(0, 1, 12, 0) -> throws.IndexOutOfBoundsException
            crosses() -> false
            """);
        // Each pair would cost 100 and more, both ends 2.
        check("the most layers on both sides, all ending", """
            boring(0, 0, 0) -> 0
            boring(1, 0, 0) -> 1
            12 * layer(0, 3, 1) -> #
            12 * layer(1, 4, 1) -> #
            run() -> 24
            sum(0, 1) -> 24
            12 * match(0, 1, #) -> -1
            12 * section(0, 1, #, 0) -> #
            12 * section(0, 1, #, 1) -> -1
            section(0, 1, 23, 0) -> -1
            section(0, 1, 23, 1) -> 11
            section(0, 1, 24, 0) -> throws.IndexOutOfBoundsException
            crosses() -> false
            """);
        check("the greatest sum", """
            boring(0, 0, 0) -> 0
            boring(1, 0, 0) -> 1
            12 * layer(0, 3, 10000) -> #
            run() -> 12
            sum(0, 1) -> 120000
            sum(1, 0) -> 120000
            """);
    }

    private static void costs() {
        check("A pair COSTS the difference of both thicknesses", """
            boring(0, 0, 0) -> 0
            layer(0, 5, 10000) -> 0
            boring(1, 0, 0) -> 1
            layer(1, 5, 1) -> 0
            age(5, 99) -> true
            run() -> 1
            sum(0, 1) -> 9999
            """);
        check("and, if the kinds are not the same, 100", """
            boring(0, 0, 0) -> 0
            layer(0, 5, 51) -> 0
            boring(1, 0, 0) -> 1
            layer(1, 6, 50) -> 0
            age(5, 8) -> true
            age(6, 8) -> true
            run() -> 1
            sum(0, 1) -> 101
            layer(0, 5, 70) -> 1
            layer(1, 6, 70) -> 1
            run() -> 2
            sum(0, 1) -> 201
            match(0, 1, 1) -> 1
            """);
        check("50 times the difference of their ages more", """
            boring(0, 0, 0) -> 0
            layer(0, 5, 10000) -> 0
            boring(1, 0, 0) -> 1
            layer(1, 6, 10000) -> 0
            age(6, 1) -> true
            run() -> 1
            sum(0, 1) -> 150
            age(5, 99) -> true
            run() -> 1
            sum(0, 1) -> 5000
            age(6, 0) -> true
            run() -> 1
            sum(0, 1) -> 5050
            """);
        check("a layer in no pair ENDS, and costs its thickness", """
            boring(0, 0, 0) -> 0
            layer(0, 5, 3) -> 0
            boring(1, 0, 0) -> 1
            layer(1, 6, 96) -> 0
            run() -> 2
            sum(0, 1) -> 99
            match(0, 1, 0) -> -1
            match(1, 0, 0) -> -1
            """);
    }

    private static void bestOfSeveral() {
        check("a layer in a pair is better than one that ends", """
            boring(0, 0, 0) -> 0
            layer(0, 5, 50) -> 0
            boring(1, 0, 0) -> 1
            layer(1, 6, 50) -> 0
            run() -> 1
            sum(0, 1) -> 100
            match(0, 1, 0) -> 0
            match(1, 0, 0) -> 0
            """);
        check("a pair that costs one more than both ends", """
            boring(0, 0, 0) -> 0
            layer(0, 5, 49) -> 0
            boring(1, 0, 0) -> 1
            layer(1, 6, 50) -> 0
            run() -> 2
            sum(0, 1) -> 99
            match(0, 1, 0) -> -1
            """);
        check("and the less deep layer of b is better", """
            boring(0, 0, 0) -> 0
            layer(0, 5, 50) -> 0
            boring(1, 0, 0) -> 1
            12 * layer(1, 5, 50) -> #
            run() -> 12
            match(0, 1, 0) -> 0
            match(1, 0, 11) -> -1
            """);
        // Either layer of a with that of b is as good: the first one is looked at first.
        check("better at the first layer of a (from the top) at which they differ", """
            boring(0, 0, 0) -> 0
            12 * layer(0, 5, 50) -> #
            boring(1, 0, 0) -> 1
            layer(1, 5, 50) -> 0
            run() -> 12
            match(0, 1, 0) -> 0
            match(0, 1, 11) -> -1
            """);
        // For a, the lesser boring, 0 with 0 is best; for b, if it went first, 0 with 1 would be as good.
        check("of neighbours a, b (a less than b): it is the same asked the other way round", """
            boring(0, 0, 0) -> 0
            layer(0, 5, 50) -> 0
            layer(0, 5, 50) -> 1
            boring(1, 0, 0) -> 1
            layer(1, 5, 50) -> 0
            run() -> 2
            match(1, 0, 0) -> 0
            match(0, 1, 1) -> -1
            """);
    }

    private static void beds() {
        check("BEDS: of no layer there are none", """
            boring(0, 0, 0) -> 0
            run() -> 0
            count(6) -> 0
            bed(0, 0) -> throws.IndexOutOfBoundsException
            bedOf(0, 0) -> throws.IndexOutOfBoundsException
            at(0, 0, 0, 0) -> throws.IndexOutOfBoundsException
            """);
        check("BEDS: beside a boring without layers", """
            boring(0, 0, 0) -> 0
            boring(1, 0, 0) -> 1
            boring(0, 1, 0) -> 2
            layer(1, 1, 5) -> 0
            layer(2, 2, 5) -> 0
            run() -> 2
            bed(0, 2) -> 1
            bed(0, 3) -> 1
            bed(1, 3) -> 2
            """);
        check("if one is matched with the other, or over others from pair to pair", """
            16 * boring(#, 0, #) -> #
            16 * layer(#, 2, 10) -> 0
            run() -> 1
            bed(0, 1) -> 16
            bed(0, 2) -> 16
            16 * bedOf(#, 0) -> 0
            16 * at(0, #, 0, 0) -> #
            """);
        check("over a broken edge there is no pair", """
            16 * boring(#, 0, #) -> #
            16 * layer(#, 2, 10) -> 0
            fault(7, 1, 8, -1) -> true
            run() -> 2
            bed(0, 1) -> 8
            bed(1, 3) -> 8
            bedOf(7, 0) -> 0
            bedOf(8, 0) -> 1
            """);
        check("Beds are numbered from 0 on by their FIRST layers (that of the least boring, there the uppermost)", """
            boring(0, 0, 0) -> 0
            boring(1, 0, 0) -> 1
            layer(1, 1, 40) -> 0
            layer(1, 2, 500) -> 1
            layer(0, 2, 500) -> 0
            layer(0, 3, 30) -> 1
            run() -> 3
            bedOf(0, 0) -> 0
            bedOf(0, 1) -> 1
            bedOf(1, 0) -> 2
            bedOf(1, 1) -> 0
            bed(0, 3) -> 0
            bed(0, 4) -> 0
            bed(1, 4) -> 1
            bed(2, 3) -> 1
            bed(2, 4) -> 0
            """);
        check("The bed's KIND is that of its first layer", """
            boring(0, 0, 0) -> 0
            layer(0, 7, 500) -> 0
            boring(1, 0, 0) -> 1
            layer(1, 0, 500) -> 0
            boring(2, 0, 0) -> 2
            layer(2, 0, 500) -> 0
            run() -> 1
            bed(0, 0) -> 7
            later(2, 0, 0, 0) -> 2
            later(2, 0, 7, 0) -> 0
            """);
        twoLayersInABoring();
    }

    private static void twoLayersInABoring() {
        // 1 is matched with the upper layer of 2, and 0 with the lower one.
        String twice = """
            boring(0, 0, 100) -> 0
            layer(0, 0, 30) -> 0
            boring(4, 0, 90) -> 1
            layer(1, 0, 10) -> 0
            boring(0, 4, 80) -> 2
            layer(2, 0, 10) -> 0
            layer(2, 0, 20) -> 1
            run() -> 1
            """;
        // 1 is matched with the upper layer of 0, 2 with the lower one.
        check("or over others from pair to pair: back into the first boring", """
            boring(0, 4, 80) -> 0
            layer(0, 0, 10) -> 0
            layer(0, 0, 20) -> 1
            boring(4, 0, 90) -> 1
            layer(1, 0, 10) -> 0
            boring(0, 0, 100) -> 2
            layer(2, 0, 30) -> 0
            run() -> 1
            match(0, 1, 0) -> 0
            match(0, 1, 1) -> -1
            match(0, 2, 0) -> -1
            match(0, 2, 1) -> 0
            match(1, 2, 0) -> 0
            bedOf(0, 1) -> 0
            bed(0, 1) -> 3
            bed(0, 2) -> 4
            bed(0, 4) -> 0
            at(0, 0, 4, 0) -> 80
            """);
        check("its LEVEL in a boring is that of its uppermost layer there", twice, """
            match(0, 2, 0) -> 1
            match(1, 2, 0) -> 0
            at(0, 0, 4, 0) -> 80
            at(0, 0, 4, 1) -> 1
            at(0, 0, 2, 0) -> 90
            """);
        check("its THICKNESS there that of all its layers there together", twice, """
            volume(0, 0, 0, 4, 4) -> 22400000
            """);
        check("in how many borings and layers, when there are two layers in one", twice, """
            bed(0, 1) -> 3
            bed(0, 2) -> 4
            bed(0, 3) -> 0
            """);
    }

    private static void levels() {
        check("where there is just one boring in all, and it has one, that everywhere", """
            boring(-1000, 1000, 7) -> 0
            layer(0, 0, 3) -> 0
            layer(0, 1, 3) -> 1
            water(0, 8, -5) -> true
            run() -> 2
            at(1, 1000, -1000, 0) -> 4
            at(1, 1000, -1000, 1) -> 1
            at(1, -1000, 1000, 0) -> 4
            wet(8, 1000, -1000, 0) -> -5
            wet(8, 1000, -1000, 1) -> 1
            wet(7, 1000, -1000, 0) -> 0
            wet(7, 1000, -1000, 1) -> 0
            wet(7, -1000, 1000, 1) -> 0
            later(1000, 1000, 1, 4) -> 0
            """);
        check("just one boring in all: no longer with a second one", """
            boring(0, 0, 7) -> 0
            layer(0, 0, 3) -> 0
            water(0, 8, -5) -> true
            boring(2, 0, 7) -> 1
            run() -> 1
            at(0, 1, 0, 1) -> 0
            at(0, 2, 0, 1) -> 0
            at(0, 0, 0, 0) -> 7
            wet(8, 1, 0, 1) -> 0
            wet(8, 0, 0, 0) -> -5
            later(1, 0, 0, 7) -> 2
            """);
        check("of water where there is no boring", """
            run() -> 0
            wet(0, 0, 0, 0) -> 0
            wet(0, 0, 0, 1) -> 0
            later(0, 0, 0, 0) -> 2
            """);
        check("at a boring that has one, that", """
            boring(0, 0, 7) -> 0
            boring(5, 0, 8) -> 1
            boring(5, 5, 9) -> 2
            layer(0, 0, 3) -> 0
            layer(2, 0, 3) -> 0
            water(1, 0, 4) -> true
            run() -> 1
            at(0, 0, 0, 0) -> 7
            at(0, 5, 5, 0) -> 9
            at(0, 5, 0, 0) -> 0
            at(0, 5, 0, 1) -> 0
            wet(0, 5, 0, 0) -> 4
            wet(0, 5, 0, 1) -> 1
            wet(0, 5, 5, 1) -> 0
            """);
    }

    private static void levelsOnTriangles() {
        String slope = FARTHEST + """
            layer(0, 0, 5) -> 0
            layer(1, 0, 5) -> 0
            layer(2, 0, 5) -> 0
            run() -> 1
            """;
        check("in the first triangle which has the place in it or on its sides", slope, """
            at(0, 0, 0, 0) -> 0
            at(0, 0, 0, 1) -> 1
            at(0, 0, 1, 0) -> 0
            at(0, 0, 1, 1) -> 0
            at(0, 1, 0, 1) -> 0
            at(0, 0, -1000, 0) -> 100000
            at(0, 999, -1000, 0) -> 100000
            at(0, -1000, 999, 0) -> -99900
            at(0, -1000, 1000, 0) -> -100000
            at(0, 1000, 1000, 1) -> 0
            """);
        check("Told as a fraction in least terms: part 0 upper (with the sign), 1 lower (above 0)", """
            boring(0, 0, -1) -> 0
            boring(7, 0, -1) -> 1
            boring(0, 7, 1) -> 2
            3 * layer(#, 0, 5) -> 0
            run() -> 1
            at(0, 1, 1, 0) -> -5
            at(0, 1, 1, 1) -> 7
            at(0, 1, 6, 0) -> 5
            at(0, 1, 6, 1) -> 7
            at(0, 0, 3, 0) -> -1
            at(0, 0, 3, 1) -> 7
            """);
        check("a fraction in least terms: nothing above, and whole numbers", """
            boring(0, 0, -4) -> 0
            boring(8, 0, -4) -> 1
            boring(0, 8, 4) -> 2
            3 * layer(#, 0, 5) -> 0
            run() -> 1
            at(0, 0, 4, 0) -> 0
            at(0, 0, 4, 1) -> 1
            at(0, 0, 5, 0) -> 1
            at(0, 0, 5, 1) -> 1
            at(0, 0, 3, 0) -> -1
            at(0, 0, 3, 1) -> 1
            """);
        check("a fraction in least terms: where nothing can be cut", """
            boring(0, 0, 0) -> 0
            boring(7, 2, 0) -> 1
            boring(2, 9, 1) -> 2
            3 * layer(#, 0, 5) -> 0
            3 * water(#, 0, 0) -> true
            water(2, 0, -1) -> true
            run() -> 1
            at(0, 3, 1, 0) -> 1
            at(0, 3, 1, 1) -> 59
            wet(0, 3, 1, 0) -> -1
            wet(0, 3, 1, 1) -> 59
            """);
        check("0 and 0 for none", slope, """
            at(0, 1000, 1000, 0) -> 0
            at(0, 1000, 1000, 1) -> 0
            wet(0, 0, 0, 0) -> 0
            wet(0, 0, 0, 1) -> 0
            """);
        // The place 0, 0 is on a side of both triangles, 0 1 2 and 1 2 3.
        check("and whose three borings have one", """
            boring(-11, 0, 0) -> 0
            boring(0, 10, 0) -> 1
            boring(0, -10, 0) -> 2
            boring(11, 0, 0) -> 3
            run() -> 0
            count(5) -> 2
            water(1, 5, 10) -> true
            water(2, 5, 20) -> true
            wet(5, 0, 0, 1) -> 0
            water(3, 5, 70) -> true
            wet(5, 0, 0, 0) -> 15
            wet(5, 1, 0, 0) -> 20
            wet(5, -1, 0, 1) -> 0
            water(0, 5, 70) -> true
            wet(5, -1, 0, 0) -> 20
            wet(5, 0, 0, 0) -> 15
            """);
        // The same with 0 and 3 as the ends of the common side: 0 1 3 comes first, 0 2 3 has levels.
        check("in the first triangle whose three borings have one: the second one there", """
            boring(0, 10, 0) -> 0
            boring(-11, 0, 0) -> 1
            boring(11, 0, 0) -> 2
            boring(0, -10, 0) -> 3
            run() -> 0
            count(5) -> 2
            water(0, 5, 10) -> true
            water(2, 5, 70) -> true
            water(3, 5, 20) -> true
            wet(5, 0, 0, 0) -> 15
            wet(5, 0, 0, 1) -> 1
            wet(5, 0, -5, 0) -> 35
            wet(5, 0, -5, 1) -> 2
            """);
        placesBesideSides("0, 0", "7, 2", "2, 9");
        placesBesideSides("0, 0", "2, 9", "7, 2");
        placesOnSides("10, 0", "0, 10");
        placesOnSides("0, 10", "10, 0");
        StringBuilder line = new StringBuilder("boring(0, 1000, 0) -> 0\n");
        for (int k = 1; k <= 15; k++) {
            line.append("boring(" + (k - 1) + ", 0, 0) -> " + k + "\n");
        }
        check("a place in the most triangles: over fifteen on one line", line.toString(), """
            run() -> 0
            count(3) -> 29
            count(5) -> 14
            14 * triangle(#, 0) -> 0
            water(14, 0, 30) -> true
            water(15, 0, 30) -> true
            wet(0, 0, 1000, 1) -> 0
            water(0, 0, 30) -> true
            wet(0, 0, 1000, 0) -> 30
            wet(0, 0, 999, 1) -> 0
            wet(0, 14, 0, 0) -> 30
            wet(0, 13, 1, 1) -> 1
            """);
        check("the lowest levels there can be", """
            boring(-1000, -1000, -100000) -> 0
            boring(1000, -1000, -100000) -> 1
            boring(-1000, 1000, -100000) -> 2
            12 * layer(0, 1, 10000) -> #
            12 * layer(1, 1, 10000) -> #
            12 * layer(2, 1, 10000) -> #
            run() -> 12
            at(11, 0, 0, 0) -> -210000
            at(11, -333, -333, 0) -> -210000
            at(11, -333, -333, 1) -> 1
            """);
    }

    /** Twice the area of the place and the ends of a side is 1, once in the triangle, once outside of it. */
    private static void placesBesideSides(String a, String b, String c) {
        check("in it or on its sides: places just in it and just outside", "boring(" + a + ", 0) -> 0",
            "boring(" + b + ", 0) -> 1", "boring(" + c + ", 0) -> 2", """
            run() -> 0
            3 * water(#, 0, 5) -> true
            wet(0, 3, 1, 0) -> 5
            wet(0, 4, 1, 0) -> 0
            wet(0, 4, 6, 0) -> 5
            wet(0, 5, 5, 0) -> 0
            wet(0, 1, 4, 0) -> 5
            wet(0, 1, 5, 0) -> 0
            """);
    }

    private static void placesOnSides(String b, String c) {
        check("in it or on its sides: places on each side and just beside", "boring(0, 0, 0) -> 0",
            "boring(" + b + ", 0) -> 1", "boring(" + c + ", 0) -> 2", """
            run() -> 0
            3 * water(#, 0, 5) -> true
            wet(0, 1, 0, 0) -> 5
            wet(0, 9, 0, 0) -> 5
            wet(0, 5, 5, 0) -> 5
            wet(0, 0, 1, 0) -> 5
            wet(0, 5, -1, 0) -> 0
            wet(0, -1, 5, 0) -> 0
            wet(0, 5, 6, 0) -> 0
            wet(0, 11, 0, 0) -> 0
            wet(0, -1, 0, 0) -> 0
            wet(0, 0, 11, 0) -> 0
            """);
    }

    private static void volumes() {
        String three = """
            boring(0, 0, 0) -> 0
            boring(10, 0, 0) -> 1
            boring(0, 10, 0) -> 2
            layer(0, 1, 3) -> 0
            layer(0, 2, 2000) -> 1
            layer(1, 2, 2000) -> 0
            layer(1, 3, 5) -> 1
            layer(2, 2, 2000) -> 0
            layer(2, 3, 7) -> 1
            run() -> 3
            """;
        check("all three: A (t + u + v) / 6", three, """
            volume(2, 0, 0, 10, 10) -> 12000000000
            lens(1) -> true
            volume(2, 0, 0, 10, 10) -> 12000000000
            lens(100) -> true
            volume(2, 0, 0, 10, 10) -> 12000000000
            """);
        check("two: A (t + u) (300 e - e e) / 120000", three, """
            volume(3, 0, 0, 10, 10) -> 15000000
            lens(1) -> true
            volume(3, 0, 0, 10, 10) -> 358800
            lens(100) -> true
            volume(3, 0, 0, 10, 10) -> 24000000
            """);
        check("one: A t e e / 60000", three, """
            volume(1, 0, 0, 10, 10) -> 1500000
            lens(1) -> true
            volume(1, 0, 0, 10, 10) -> 600
            lens(100) -> true
            volume(1, 0, 0, 10, 10) -> 6000000
            """);
        check("none: 0", three, """
            volume(0, 0, 0, 10, 10) -> 0
            volume(7, 0, 0, 10, 10) -> 0
            """);
        check("e the LENS, 1 .. 100 hundredths", three, """
            lens(100) -> true
            lens(0) -> false
            lens(101) -> false
            lens(-1) -> false
            lens(2147483647) -> false
            lens(-2147483648) -> false
            volume(1, 0, 0, 10, 10) -> 6000000
            lens(1) -> true
            volume(1, 0, 0, 10, 10) -> 600
            """);
        check("hundredths (50 at first)", three, """
            volume(1, 0, 0, 10, 10) -> 1500000
            lens(50) -> true
            volume(1, 0, 0, 10, 10) -> 1500000
            lens(49) -> true
            volume(1, 0, 0, 10, 10) -> 1440600
            """);
        // Twelve layers of one kind in one boring, each a bed of its own or with one of the others.
        check("with A twice its area: the greatest volume", FARTHEST, """
            12 * layer(0, 6, 10000) -> #
            12 * layer(1, 6, 10000) -> #
            12 * layer(2, 6, 10000) -> #
            run() -> 12
            volume(6, -1000, -1000, 1000, 1000) -> 28800000000000000
            """);
    }

    private static void stateOfRun() {
        check("when there was no run() since a boring was told", """
            run() -> 0
            count(3) -> 0
            boring(0, 0, 0) -> 0
            count(3) -> throws.IllegalStateException
            run() -> 0
            count(3) -> 0
            """);
        check("since a layer was told", """
            boring(0, 0, 0) -> 0
            run() -> 0
            layer(0, 0, 1) -> 0
            count(6) -> throws.IllegalStateException
            run() -> 1
            count(6) -> 1
            """);
        check("since an age was told", """
            run() -> 0
            age(3, 4) -> true
            crosses() -> throws.IllegalStateException
            run() -> 0
            crosses() -> false
            """);
        check("since a fault was told", """
            run() -> 0
            fault(0, 0, 1, 1) -> true
            count(4) -> throws.IllegalStateException
            run() -> 0
            count(4) -> 0
            """);
        check("(also such as was so before)", """
            age(3, 4) -> true
            fault(0, 0, 1, 1) -> true
            run() -> 0
            age(3, 4) -> true
            count(5) -> throws.IllegalStateException
            run() -> 0
            fault(0, 0, 1, 1) -> true
            count(5) -> throws.IllegalStateException
            run() -> 0
            age(0, 0) -> true
            count(5) -> throws.IllegalStateException
            """);
        check("what is told of the lens, of water, of what is within and of texts needs no run()", """
            boring(0, 0, 0) -> 0
            run() -> 0
            lens(3) -> true
            water(0, 0, 5) -> true
            within(3) -> true
            unit(98) -> true
            write(0) -> 9
            read() -> -2
            count(3) -> 0
            wet(0, 0, 0, 0) -> 5
            """);
    }

    private static void nothingChanges() {
        check("What throws, or answers false, changes nothing: the last run() is good still", """
            16 * boring(#, 0, 0) -> #
            12 * layer(0, 0, 1) -> #
            8 * fault(900, #, 901, #) -> true
            run() -> 12
            boring(0, 1, 0) -> throws.UnsupportedOperationException
            boring(0, 0, 0) -> throws.IllegalArgumentException
            boring(1001, 0, 0) -> throws.IllegalArgumentException
            layer(16, 0, 1) -> throws.IndexOutOfBoundsException
            layer(1, 8, 1) -> throws.IllegalArgumentException
            layer(0, 0, 1) -> throws.UnsupportedOperationException
            age(8, 0) -> false
            age(0, 100) -> false
            fault(0, 0, 0, 0) -> false
            fault(0, 0, 1, 1) -> false
            count(0) -> 16
            count(1) -> 8
            count(3) -> 15
            count(6) -> 12
            crosses() -> false
            """);
    }
}
