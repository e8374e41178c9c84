import java.lang.reflect.InvocationTargetException;
import java.lang.reflect.Method;
import java.util.HashMap;
import java.util.Map;

/** Calls by name on a LayerJoins or on the plain model, answers as texts: true, 7, throws.IllegalStateException. */
final class Calls {
    private final Object target;
    private final Map<String, Method> methods = new HashMap<>();
    private int made = 0;

    Calls(Object target) {
        this.target = target;
        for (Method method : target.getClass().getDeclaredMethods()) {
            if (java.lang.reflect.Modifier.isPublic(method.getModifiers())) {
                methods.put(method.getName(), method);
            }
        }
    }

    String answer(String name, int... numbers) {
        Method method = methods.get(name);
        if (method == null) {
            return "no method " + name;
        }
        Object[] given = new Object[numbers.length];
        for (int k = 0; k < numbers.length; k++) {
            given[k] = numbers[k];
        }
        try {
            made++;
            method.setAccessible(true);
            Object got = method.invoke(target, given);
            return got instanceof Character c ? String.valueOf((int) c) : String.valueOf(got);
        } catch (InvocationTargetException e) {
            return "throws." + e.getCause().getClass().getSimpleName();
        } catch (ReflectiveOperationException e) {
            return "no call: " + e;
        }
    }

    /** How many calls were made. */
    int made() {
        return made;
    }

    /** All of a text as units; true if each was taken. */
    String tell(String text) {
        boolean all = true;
        for (int k = 0; k < text.length(); k++) {
            all &= answer("unit", text.charAt(k)).equals("true");
        }
        return String.valueOf(all);
    }

    /** What was written, up to the first letter that is none. */
    String written() {
        StringBuilder text = new StringBuilder();
        for (int k = 0; k < 1000; k++) {
            int letter = Integer.parseInt(answer("letter", k));
            if (letter == 0) {
                break;
            }
            text.append((char) letter);
        }
        return text.toString();
    }
}
