import java.lang.reflect.InvocationTargetException;
import java.lang.reflect.Method;
import java.util.ArrayList;
import java.util.Arrays;
import java.util.HashMap;
import java.util.List;
import java.util.Map;

/** Calls by their names, so that the class and PlainTown can be asked the same things; counts them. */
final class Calls {
    /** Behind so many calls the document promises nothing more. */
    private static final int LIMIT = 512;
    private static final Map<String, Method> METHODS = new HashMap<>();

    private final Object on;
    private int made = 0;

    Calls(Object on) {
        this.on = on;
    }

    int call(String name, Object... values) {
        made++;
        if (made > LIMIT) throw new IllegalStateException("more than " + LIMIT + " calls");
        try {
            return (int) method(name).invoke(on, values);
        } catch (IllegalAccessException | InvocationTargetException wrong) {
            throw new IllegalStateException(name + Arrays.toString(values), wrong);
        }
    }

    private Method method(String name) {
        return METHODS.computeIfAbsent(on.getClass().getName() + "." + name, key -> findMethod(name));
    }

    private Method findMethod(String name) {
        for (Method method : on.getClass().getDeclaredMethods()) {
            if (method.getName().equals(name)) return method;
        }
        throw new IllegalArgumentException("no " + name);
    }

    void put(String text) {
        for (int at = 0; at < text.length(); at += 8) {
            String piece = text.substring(at, Math.min(text.length(), at + 8));
            call("write", piece.length(), Texts.asLong(piece));
        }
    }

    /**
     * All that can be seen: what is counted and held, THE DAY, THE TEXT's fault, what is seen, then the row of
     * MEETINGS, taken back one by one, and the same of both slots, last the TOWN that THE TEXT tells. It's used up then.
     */
    List<Integer> whole() {
        List<Integer> all = new ArrayList<>();
        for (int i = 0; i <= call("count", 2); i++) all.addAll(List.of(call("daily", i, 0), call("daily", i, 1)));
        all.add(call("fault"));
        addHolding(all);
        for (int slot = 0; slot < 2; slot++) {
            all.add(call("again", slot));
            addHolding(all);
        }
        all.add(call("town"));
        addHolding(all);
        return all;
    }

    private void addHolding(List<Integer> all) {
        for (int what = 0; what < 7; what++) all.add(call("count", what));
        for (int what = 0; what < 3; what++) all.add(call("mayHold", 200, what));
        int people = call("count", 1);
        int rows = call("count", 3);
        addPurses(all, people);
        for (int row = 0; row <= rows; row++) {
            all.add(call("back"));
            // Of a long row not all can be looked at: the calls would be too many.
            addPurses(all, rows > 4 ? 2 : people);
        }
    }

    private void addPurses(List<Integer> all, int people) {
        for (int person = 0; person < people; person++) all.add(call("purse", person));
    }
}
