import java.io.IOException;
import java.lang.reflect.Constructor;
import java.lang.reflect.Field;
import java.lang.reflect.Member;
import java.lang.reflect.Method;
import java.lang.reflect.Modifier;
import java.nio.file.Files;
import java.nio.file.Path;
import java.util.Arrays;
import java.util.List;
import java.util.Set;
import java.util.TreeSet;
import java.util.regex.Matcher;
import java.util.regex.Pattern;
import java.util.stream.Collectors;

/** The public face of the document, the rules of the language that a look at the class can tell, and the room. */
public final class FaceTest {
    private static final String STATE = "IllegalStateException";
    private static final String INDEX = "IndexOutOfBoundsException";
    private static final String ARGUMENT = "IllegalArgumentException";
    private static final String FULL = "UnsupportedOperationException";

    private static final Set<String> FACE = Set.of(
        "int boring(int,int,int) " + List.of(ARGUMENT, FULL),
        "int layer(int,int,int) " + List.of(INDEX, ARGUMENT, FULL),
        "boolean age(int,int) []",
        "boolean fault(int,int,int,int) []",
        "boolean lens(int) []",
        "boolean water(int,int,int) []",
        "boolean within(int) []",
        "int run() []",
        "int count(int) " + List.of(STATE),
        "int edge(int,int) " + List.of(STATE, INDEX, ARGUMENT),
        "int triangle(int,int) " + List.of(STATE, INDEX, ARGUMENT),
        "int match(int,int,int) " + List.of(STATE, INDEX, ARGUMENT),
        "int sum(int,int) " + List.of(STATE, INDEX, ARGUMENT),
        "int section(int,int,int,int) " + List.of(STATE, INDEX, ARGUMENT),
        "boolean crosses() " + List.of(STATE),
        "int bed(int,int) " + List.of(STATE, INDEX, ARGUMENT),
        "int bedOf(int,int) " + List.of(STATE, INDEX),
        "long at(int,int,int,int) " + List.of(STATE, INDEX, ARGUMENT),
        "long wet(int,int,int,int) " + List.of(STATE, ARGUMENT),
        "long volume(int,int,int,int,int) " + List.of(STATE, ARGUMENT),
        "int later(int,int,int,int) " + List.of(STATE, ARGUMENT),
        "int doubt(int,int) []",
        "boolean unit(int) []",
        "int read() []",
        "int write(int) " + List.of(INDEX),
        "char letter(int) []");

    private static final int CALLS = 512;
    private static final long ROOM_ELEMENTS = 7_300_000;
    private static final int ELEMENTS_OF_AN_OBJECT = 10_000;

    private static int wrong = 0;

    public static void main(String[] args) throws Exception {
        face();
        membersInside();
        source();
        room();
        System.out.println("FaceTest: " + wrong + " wrong");
        if (wrong != 0) {
            System.exit(1);
        }
    }

    private static void check(boolean good, String what) {
        if (!good) {
            wrong++;
            System.out.println("wrong: " + what);
        }
    }

    private static void face() throws ReflectiveOperationException {
        check(Modifier.isPublic(LayerJoins.class.getModifiers()), "the class is public");
        check(Modifier.isFinal(LayerJoins.class.getModifiers()), "the class is final");
        check(LayerJoins.NONE == -1, "NONE is -1");
        Constructor<?>[] constructors = LayerJoins.class.getDeclaredConstructors();
        check(constructors.length == 1 && Modifier.isPublic(constructors[0].getModifiers())
            && constructors[0].getParameterCount() == 0, "one public constructor without numbers");
        Set<String> found = new TreeSet<>();
        for (Method method : LayerJoins.class.getDeclaredMethods()) {
            if (!Modifier.isPrivate(method.getModifiers())) {
                found.add(method.getReturnType() + " " + method.getName() + names(method.getParameterTypes(), "(", ",", ")")
                    + " " + names(method.getExceptionTypes(), "[", ", ", "]"));
            }
        }
        check(found.equals(FACE), "the methods are " + found);
        for (Field field : LayerJoins.class.getDeclaredFields()) {
            check(Modifier.isPrivate(field.getModifiers()) || field.getName().equals("NONE"),
                "the field " + field.getName() + " is not private");
            checkStatic(field);
        }
    }

    private static String names(Class<?>[] types, String open, String between, String close) {
        return Arrays.stream(types).map(Class::getSimpleName).collect(Collectors.joining(between, open, close));
    }

    private static void checkStatic(Field field) {
        check(!Modifier.isStatic(field.getModifiers()) || Modifier.isFinal(field.getModifiers()),
            "the static field " + field + " is not final");
    }

    private static void membersInside() {
        Set<String> faceNames = Arrays.stream(LayerJoins.class.getDeclaredMethods())
            .filter(m -> Modifier.isPublic(m.getModifiers())).map(Member::getName).collect(Collectors.toSet());
        checkMethods(LayerJoins.class, faceNames);
        Class<?>[] inside = LayerJoins.class.getDeclaredClasses();
        check(inside.length + 1 <= 12, "too many classes: " + inside.length);
        for (Class<?> one : inside) {
            check(Modifier.isStatic(one.getModifiers()), one + " is not static");
            check(one.getDeclaredFields().length <= 20, one + " has too many fields");
            Arrays.stream(one.getDeclaredFields()).forEach(FaceTest::checkStatic);
            checkMethods(one, faceNames);
        }
    }

    private static void checkMethods(Class<?> owner, Set<String> faceNames) {
        for (Method method : owner.getDeclaredMethods()) {
            boolean isFace = owner == LayerJoins.class && Modifier.isPublic(method.getModifiers());
            check(isFace || !faceNames.contains(method.getName()), method + " bears the name of a public one");
            check(method.getParameterCount() <= 7, method + " has too many parameters");
        }
    }

    private static void source() throws IOException {
        String named = System.getProperty("layerjoins.source", "src/main/java/LayerJoins.java");
        String text = Files.readString(Path.of(named));
        String code = text.replaceAll("(?s)/\\*.*?\\*/", "").replaceAll("//[^\n]*", "");
        for (String banned : new String[] {"->", "::", "\\bfinally\\b", "\\bsynchronized\\b", "\\bassert\\b", "\\btry\\b",
            "\\bpackage\\b", "\\bdouble\\b", "\\bfloat\\b", "Exact\\b", "\\bThread\\b", "\\bRandom\\b", "\\bnull\\b",
            "System\\.(?!arraycopy)", "\\bhashCode\\b", "\\btoString\\b", "\\bInteger\\.(?!bitCount)"}) {
            check(!Pattern.compile(banned).matcher(code).find(), "the source has " + banned);
        }
        Matcher imports = Pattern.compile("import (.*?);").matcher(code);
        while (imports.find()) {
            check(imports.group(1).equals("java.util.Arrays"), "the import of " + imports.group(1));
        }
        check(text.chars().allMatch(c -> c < 128), "the source has other characters");
        checkLengths(code.split("\n"));
    }

    /** From a row that opens a method, at one of the two depths where they stand, to the row that closes it. */
    private static void checkLengths(String[] rows) {
        int start = 0;
        for (int k = 0; k < rows.length; k++) {
            if (rows[k].matches("( {4}| {8})\\w[^=]*\\(.*")) {
                start = k;
            }
            if (rows[k].matches("( {4}| {8})\\}") && depth(rows[start]) == depth(rows[k])) {
                check(k - start < 60, "a long method at " + rows[start]);
            }
        }
    }

    private static int depth(String row) {
        return row.length() - row.stripLeading().length();
    }

    /** Objects and what their calls make must fit in one room, even if each call made an object of the class. */
    private static void room() {
        long before = allocated();
        LayerJoins[] kept = new LayerJoins[CALLS];
        for (int k = 0; k < CALLS; k++) {
            kept[k] = new LayerJoins();
        }
        long perObject = (allocated() - before) / CALLS;
        // At least one byte is taken by an element, four by most: bytes are a bound that is safe.
        check(perObject / 4 <= ELEMENTS_OF_AN_OBJECT, "an object takes " + perObject + " bytes");
        check(perObject / 4 * CALLS <= ROOM_ELEMENTS, CALLS + " objects do not fit in the room");
        LayerJoins full = kept[0];
        for (int b = 0; b < 16; b++) {
            full.boring(b * 7 % 16, b * b % 13, b);
            for (int k = 0; k < 12; k++) {
                full.layer(b, (b + k) % 8, 1 + b * k);
            }
        }
        callAll(full);
        before = allocated();
        for (int k = 0; k < CALLS; k++) {
            callAll(full);
        }
        check((allocated() - before) / CALLS < 200, "calls take " + (allocated() - before) / CALLS + " bytes");
    }

    private static long callAll(LayerJoins full) {
        long got = full.run() + full.count(3) + full.section(full.edge(0, 0), full.edge(0, 1), 0, 0);
        got += full.at(0, 3, 3, 0) + full.wet(0, 3, 3, 1) + full.volume(1, -99, -99, 99, 99);
        got += full.later(3, 3, 1, 7) + full.doubt(1, 1) + full.write(3) + full.letter(0);
        full.unit('b');
        return got + full.read() + (full.crosses() ? 1 : 0);
    }

    private static long allocated() {
        return ((com.sun.management.ThreadMXBean) java.lang.management.ManagementFactory.getThreadMXBean())
            .getCurrentThreadAllocatedBytes();
    }
}
