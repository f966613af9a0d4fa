import java.lang.reflect.InvocationTargetException;
import java.lang.reflect.Method;
import java.util.ArrayList;
import java.util.HashMap;
import java.util.List;
import java.util.Map;

/** Calls as they are written, such as "type(0, 115)", and all questions that an object can be asked. */
final class Ask {
    private static final Map<String, Method> METHODS = new HashMap<>();

    static {
        for (Method m : FoolVotes.class.getMethods()) {
            if (m.getDeclaringClass() == FoolVotes.class) {
                METHODS.put(m.getName(), m);
            }
        }
    }

    private Ask() { }

    static long of(FoolVotes x, String call) {
        int open = call.indexOf('(');
        String inside = call.substring(open + 1, call.length() - 1).trim();
        String[] parts = inside.isEmpty() ? new String[0] : inside.split(",");
        Object[] numbers = new Object[parts.length];
        for (int i = 0; i < parts.length; i++) {
            numbers[i] = Integer.parseInt(parts[i].trim());
        }
        return invoke(x, METHODS.get(call.substring(0, open)), numbers);
    }

    private static long invoke(FoolVotes x, Method m, Object[] numbers) {
        try {
            return ((Number) m.invoke(x, numbers)).longValue();
        } catch (InvocationTargetException e) {
            throw new IllegalStateException(m.getName() + " threw", e.getCause());
        } catch (IllegalAccessException e) {
            throw new IllegalStateException(e);
        }
    }

    /** Every question that changes nothing but count(8); of the calls that are left out no answers are listed. */
    static List<String> questions(FoolVotes x, String... leftOut) {
        Listing all = new Listing(x, List.of(leftOut));
        askQuestions(all);
        return all.rows;
    }

    /** Every answer that tells something of what x holds; x is taken apart by it. */
    static List<String> everything(FoolVotes x) {
        Listing all = new Listing(x, List.of());
        askQuestions(all);
        takeApart(all);
        return all.rows;
    }

    private static void askQuestions(Listing all) {
        votes(all);
        plans(all);
        for (int s = 0; s < 4; s++) {
            for (int form = 0; form < 3; form++) {
                for (int i = 0; i <= 60; i++) {
                    all.ask("get", s, form, i);
                }
            }
        }
    }

    private static void takeApart(Listing all) {
        all.ask("fool", 0, 1);
        all.ask("fool", 1, 3);
        // EVENTS show by what they do, the last of them first
        while (all.ask("back") >= 0) {
            all.ask("digest");
        }
        all.ask("forget");
        // wipe() would tell but the length: byte by byte more of a text comes to light
        for (int text = 0; text < 2; text++) {
            while (all.ask("undo", text) >= 0) {
                all.ask("fault", text);
                all.ask("voter", 0, 1);
                all.ask("measure", 0, 1);
            }
        }
        for (int s = 0; s < 4; s++) {
            all.ask("lose", s);
        }
    }

    private static void votes(Listing all) {
        for (int what = 0; what <= 7; what++) {
            all.ask("count", what);
        }
        all.ask("fault", 0);
        all.ask("fault", 1);
        for (int m = 0; m < 12; m++) {
            for (int what = 0; what < 5; what++) {
                all.ask("tally", m, what);
            }
            all.ask("measure", m, 0);
            all.ask("measure", m, 1);
            for (int v = 0; v < 8; v++) {
                all.ask("said", m, v);
            }
        }
        for (int v = 0; v < 8; v++) {
            for (int what = 0; what < 4; what++) {
                all.ask("voter", v, what);
                all.ask("at", v, what);
            }
        }
        all.ask("sum", 0);
        all.ask("sum", 1);
        all.ask("level");
        all.ask("loyal");
        all.ask("bitter");
    }

    private static void plans(Listing all) {
        for (int what = 0; what < 3; what++) {
            all.ask("swap", what);
            all.ask("wish", what);
            all.ask("spare", what - 1);
            all.ask("might", what);
        }
        for (int m = 0; m < 12; m++) {
            for (int what = 0; what < 2; what++) {
                all.ask("put", m, what);
                all.ask("chance", 0, m, what);
                all.ask("chance", 5, m, what);
                all.ask("chance", 16, m, what);
                all.ask("ages", 77 * m, m, what);
            }
        }
        for (int v = 0; v < 8; v++) {
            all.ask("was", v, 0);
            all.ask("was", v, 1);
        }
        all.ask("ask");
        all.ask("digest");
    }

    private static final class Listing {
        final FoolVotes x;
        final List<String> leftOut;
        final List<String> rows = new ArrayList<>();

        Listing(FoolVotes x, List<String> leftOut) {
            this.x = x;
            this.leftOut = leftOut;
        }

        long ask(String name, Integer... numbers) {
            long answer = invoke(x, METHODS.get(name), numbers);
            StringBuilder call = new StringBuilder(name).append('(');
            for (int i = 0; i < numbers.length; i++) {
                call.append(i > 0 ? ", " : "").append(numbers[i]);
            }
            String written = call.append(')').toString();
            if (!leftOut.contains(name) && !leftOut.contains(written)) {
                rows.add(written + " answered " + answer);
            }
            return answer;
        }
    }
}
