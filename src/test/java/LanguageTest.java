import java.lang.reflect.Constructor;
import java.lang.reflect.Field;
import java.lang.reflect.Method;
import java.lang.reflect.Modifier;
import java.nio.file.Files;
import java.nio.file.Path;
import java.util.Arrays;
import java.util.Map;
import java.util.Set;
import java.util.TreeMap;
import java.util.TreeSet;
import java.util.regex.Matcher;
import java.util.regex.Pattern;

/** The rules of LANGUAGE.md that can be looked at: the face, the words, and that no call ever throws. */
public final class LanguageTest {
    private static final Check check = new Check();
    private static final String[] FACE = {
        "int type(int,int)", "int wipe(int)", "int undo(int)", "int fault(int)", "int voter(int,int)",
        "int measure(int,int)", "int fool(int,int)", "int event(int,int,int)", "int back()", "int read(int)",
        "int said(int,int)", "int tally(int,int)", "int at(int,int)", "int sum(int)", "int level()", "int loyal()",
        "int bitter()", "int put(int,int)", "int swap(int)", "int wish(int)", "int spare(int)", "int seen(int,int)",
        "int forget()", "int might(int)", "int was(int,int)", "int ask()", "long chance(int,int,int)",
        "int ages(int,int,int)", "int sheet(int,int,int)", "int lose(int)", "int lay(int,int,int,int)",
        "int get(int,int,int)", "int copy(int,int,int,int,int)", "int write(int)", "int count(int)", "long digest()",
    };
    private static final int[] EDGES = {
        Integer.MIN_VALUE, -2, -1, 0, 1, 2, 3, 4, 7, 8, 11, 12, 16, 17, 23, 24, 59, 60, 61, 255, 256, Integer.MAX_VALUE,
    };

    public static void main(String[] args) throws Exception {
        constants();
        methods();
        nothingElseIsSeen();
        words();
        depthOfCalls();
        neverThrows();
        check.end("LanguageTest");
    }

    private static void constants() {
        check.due("NONE", FoolVotes.NONE, -1);
        check.due("BAD", FoolVotes.BAD, -2);
        check.due("NOT", FoolVotes.NOT, -3);
        check.due("FULL", FoolVotes.FULL, -4);
    }

    private static String told(Method m) {
        String[] parts = Arrays.stream(m.getParameterTypes()).map(Class::getName).toArray(String[]::new);
        return m.getReturnType().getName() + " " + m.getName() + "(" + String.join(",", parts) + ")";
    }

    private static void methods() {
        Set<String> seen = new TreeSet<>();
        Set<String> hidden = new TreeSet<>();
        Set<String> names = new TreeSet<>();
        for (Method m : FoolVotes.class.getDeclaredMethods()) {
            if (Modifier.isPrivate(m.getModifiers())) {
                hidden.add(m.getName());
            } else {
                check.isTrue(m + " is public and no static one",
                    Modifier.isPublic(m.getModifiers()) && !Modifier.isStatic(m.getModifiers()));
                seen.add(told(m));
                names.add(m.getName());
            }
        }
        check.isTrue("the face is the document's: " + seen, seen.equals(new TreeSet<>(Arrays.asList(FACE))));
        hidden.retainAll(names);
        check.isTrue("private methods with public names: " + hidden, hidden.isEmpty());
    }

    private static void nothingElseIsSeen() {
        check.isTrue("final", Modifier.isFinal(FoolVotes.class.getModifiers()));
        Constructor<?>[] makers = FoolVotes.class.getDeclaredConstructors();
        check.due("constructors", makers.length, 1);
        check.due("parameters of it", makers[0].getParameterCount(), 0);
        check.isTrue("it is public", Modifier.isPublic(makers[0].getModifiers()));
        Set<String> constants = new TreeSet<>();
        for (Field f : FoolVotes.class.getDeclaredFields()) {
            check.isTrue("no static state: " + f, !Modifier.isStatic(f.getModifiers()) || Modifier.isFinal(f.getModifiers()));
            if (!Modifier.isPrivate(f.getModifiers())) {
                constants.add(f.getName());
            }
        }
        check.isTrue("constants " + constants, constants.equals(Set.of("NONE", "BAD", "NOT", "FULL")));
        for (Class<?> c : FoolVotes.class.getDeclaredClasses()) {
            check.isTrue(c + " is static", Modifier.isStatic(c.getModifiers()));
            check.isTrue(c + " is not public", !Modifier.isPublic(c.getModifiers()));
        }
        check.isTrue("twelve classes at most", FoolVotes.class.getDeclaredClasses().length < 12);
    }

    private static String source() throws Exception {
        return Files.readString(Path.of("src/main/java/FoolVotes.java"));
    }

    private static String withoutComments(String source) {
        return source.replaceAll("(?s)/\\*.*?\\*/", "").replaceAll("//[^\n]*", "");
    }

    private static void words() throws Exception {
        String source = source();
        String code = withoutComments(source);
        String[] none = {
            "\\bthrow\\b", "\\bthrows\\b", "\\btry\\b", "\\bcatch\\b", "\\bsynchronized\\b", "\\bassert\\b", "->", "::",
            "Exact\\(", "\\bpackage\\b", "\"", "\\bThread\\b", "\\bSystem\\.(?!arraycopy)", "\\bRandom\\b", "\\bvar\\b",
            "MIN_VALUE", "MAX_VALUE", "\\bObject\\b", "\\bprotected\\b",
        };
        for (String word : none) {
            check.isTrue("not in the code: " + word, !Pattern.compile(word).matcher(code).find());
        }
        check.isTrue("imports", code.replace("import java.util.Arrays;", "").indexOf("import") < 0);
        // all rows are made with the object, so that no run of calls can fill the room
        for (String l : code.split("\n")) {
            check.isTrue("made but once: " + l.trim(), !l.contains("new ") || l.contains(" final ") && l.contains(" = new "));
        }
        int start = -1;
        int line = 0;
        for (String l : source.split("\n")) {
            line++;
            check.isTrue("line " + line + " is no longer than 120", l.length() <= 120);
            if (l.matches(" {4,8}\\S.*\\) \\{")) {
                start = line;
            } else if (l.matches(" {4,8}\\}") && start > 0) {
                check.isTrue("method at line " + start + " is short", line - start <= 60);
                start = -1;
            }
        }
    }

    /** Each method's body by its name; names are told apart by no class, so none may be there twice. */
    private static Map<String, String> bodies() throws Exception {
        Pattern head = Pattern.compile("( {4,8})(?:[a-z]+ )*[\\w\\[\\]]+ (\\w+)\\([^)]*\\) \\{");
        Map<String, String> bodies = new TreeMap<>();
        String name = "";
        String indent = "";
        for (String l : withoutComments(source()).split("\n")) {
            Matcher m = head.matcher(l);
            if (name.isEmpty() && m.matches()) {
                indent = m.group(1);
                name = m.group(2);
                check.isTrue("one method alone is named " + name, bodies.put(name, "") == null);
            } else if (l.equals(indent + "}")) {
                name = "";
            } else if (!name.isEmpty()) {
                bodies.put(name, bodies.get(name) + l + "\n");
            }
        }
        return bodies;
    }

    private static void depthOfCalls() throws Exception {
        Map<String, String> bodies = bodies();
        for (Method m : FoolVotes.class.getDeclaredMethods()) {
            check.isTrue(m.getName() + " is found in the source", bodies.containsKey(m.getName()));
        }
        int deepest = 0;
        for (String name : bodies.keySet()) {
            int depth = depthOf(name, bodies, 1);
            deepest = Math.max(deepest, depth);
            check.isTrue(name + " goes " + depth + " deep, eight at most", depth <= 8);
        }
        check.isTrue("some calls go deeper than two: " + deepest, deepest > 2);
    }

    /** A call that comes back to where it was would go past eight as well. */
    private static int depthOf(String name, Map<String, String> bodies, int above) {
        int deepest = 0;
        for (String other : bodies.keySet()) {
            boolean calls = Pattern.compile("\\b" + other + "\\(").matcher(bodies.get(name)).find();
            if (calls && above <= 8) {
                deepest = Math.max(deepest, depthOf(other, bodies, above + 1));
            } else if (calls) {
                deepest = Math.max(deepest, 1);
            }
        }
        return 1 + deepest;
    }

    private static FoolVotes full() {
        FoolVotes x = Check.canton("s12;w20;m61;s71;w02;m11;s32;m72", "a1;b4;c0;a7;x3;b2;b3;c5;d6;x1;e7;w3");
        for (int e = 0; e < 8; e++) {
            x.event(e % 3, e / 2, e);
            x.seen(e, e % 2);
        }
        for (int s = 0; s < 4; s++) {
            x.sheet(s, s % 3, 20 * s);
        }
        return x;
    }

    private static void neverThrows() throws Exception {
        for (Method m : FoolVotes.class.getDeclaredMethods()) {
            if (Modifier.isPublic(m.getModifiers())) {
                callWithEdges(m, new FoolVotes(), full());
            }
        }
    }

    private static void callWithEdges(Method m, FoolVotes empty, FoolVotes full) {
        int n = m.getParameterCount();
        // with three and more numbers, lots choose: all edges of five would be millions
        int calls = n == 0 ? 1 : n == 1 ? EDGES.length : n == 2 ? EDGES.length * EDGES.length : 4000;
        java.util.Random lots = new java.util.Random(n);
        for (int k = 0; k < calls; k++) {
            Object[] with = new Object[n];
            for (int i = 0; i < n; i++) {
                with[i] = n > 2 ? EDGES[lots.nextInt(EDGES.length)] : EDGES[(i == 0 ? k : k / EDGES.length) % EDGES.length];
            }
            try {
                m.invoke(empty, with);
                m.invoke(full, with);
            } catch (ReflectiveOperationException e) {
                check.isTrue(m.getName() + Arrays.toString(with) + " threw " + e.getCause(), false);
            }
        }
        check.isTrue(m.getName() + " was called", calls > 0);
    }
}
