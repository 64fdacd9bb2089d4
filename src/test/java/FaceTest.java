import java.io.IOException;
import java.lang.reflect.Array;
import java.lang.reflect.Field;
import java.lang.reflect.Method;
import java.lang.reflect.Modifier;
import java.nio.file.Files;
import java.nio.file.Path;
import java.util.ArrayDeque;
import java.util.ArrayList;
import java.util.Collections;
import java.util.Deque;
import java.util.IdentityHashMap;
import java.util.List;
import java.util.Map;
import java.util.regex.Matcher;
import java.util.regex.Pattern;

/** The face of the document, the rules of the language as far as a text tells them, and the room it takes. */
public final class FaceTest {
    private static final String[] FACE = {"int name(long,int)", "int of(int,int)", "int alike(int,int)",
        "int born(int,int,int,int,int,int)", "boolean life(int)", "boolean cradles(int,int,int,int)",
        "int list(int,int)", "int film(int,int,int)", "int feed(int,int,int,int,int)", "int end(int)", "int taste()",
        "int fault(int)", "boolean by(int,int)", "int years(int)", "int given(int,int,int,int,int)",
        "int unnamed(int)", "int now(int,int,int,int)", "int shape(int,int)", "int shapes(int)", "int lag(int)",
        "int together(int,int)", "int took(int,int,int)", "int sound(int,int)", "int crossed(int,int)",
        "int returned(int,int,int)", "int room(int,int,int,boolean)", "int best(int,int,int,int)",
        "int age(int,int,int)", "int guess(int)", "int chance(int,int,int)", "int turnover(int,int)",
        "int print(int,int,int,int,int)", "int let(int,int)", "int span(int,int,int,int,boolean)",
        "int parts(int,int)", "int image()", "int back()", "int about(int)"};
    private static final Due due = new Due();

    private static String signature(Method m) {
        List<String> types = new ArrayList<>();
        for (Class<?> type : m.getParameterTypes()) {
            types.add(type.getName());
        }
        return m.getReturnType().getName() + " " + m.getName() + "(" + String.join(",", types) + ")";
    }

    private static void face() {
        List<String> want = new ArrayList<>(List.of(FACE));
        List<String> names = new ArrayList<>();
        for (Method m : CradleNames.class.getDeclaredMethods()) {
            if (Modifier.isPublic(m.getModifiers())) {
                due.is("of the document: " + signature(m), want.remove(signature(m)), true);
                names.add(m.getName());
            }
        }
        due.is("missing: " + want, want.size(), 0);
        for (Method m : CradleNames.class.getDeclaredMethods()) {
            boolean open = Modifier.isPublic(m.getModifiers());
            due.is("private: " + m.getName(), open || Modifier.isPrivate(m.getModifiers()), true);
            due.is("private with a public name: " + m.getName(), !open && names.contains(m.getName()), false);
        }
        for (Field f : CradleNames.class.getDeclaredFields()) {
            due.is("private: " + f.getName(), Modifier.isPrivate(f.getModifiers()) || f.getName().equals("NONE"), true);
        }
        due.is("NONE", CradleNames.NONE, -1);
        due.is("final", Modifier.isFinal(CradleNames.class.getModifiers()), true);
        due.is("at most twelve classes", CradleNames.class.getDeclaredClasses().length < 12, true);
        for (Class<?> inside : CradleNames.class.getDeclaredClasses()) {
            due.is("static: " + inside, Modifier.isStatic(inside.getModifiers()), true);
            due.is("public: " + inside, Modifier.isPublic(inside.getModifiers()), false);
            for (Method m : inside.getDeclaredMethods()) {
                due.is("at most seven parameters: " + m, m.getParameterCount() <= 7, true);
                due.is("a public name: " + m, names.contains(m.getName()), false);
            }
            for (Field f : inside.getDeclaredFields()) {
                boolean state = Modifier.isStatic(f.getModifiers()) && !Modifier.isFinal(f.getModifiers());
                due.is("static state: " + f, state, false);
            }
        }
    }

    private static void source() throws IOException {
        String path = System.getenv("CRADLE_SOURCE");
        String text = Files.readString(Path.of(path == null ? "src/main/java/CradleNames.java" : path));
        due.is("signs 1 to 127", text.chars().allMatch(c -> c > 0 && c < 128), true);
        String code = text.replaceAll("(?s)/\\*.*?\\*/", " ").replaceAll("//[^\n]*", " ")
                .replaceAll("\"[^\"]*\"", "\"\"");
        String[] banned = {"\\bthrow\\b", "\\btry\\b", "\\bcatch\\b", "\\bsynchronized\\b", "\\bassert\\b",
            "\\bpackage\\b", "->", "::", "\\bhashCode\\b", "\\btoString\\b", "Exact\\b", "\\bObject\\b", "\\bThread\\b",
            "\"\"\\s*\\+", "\\+\\s*\"\"", "\\bnew\\s+\\w+\\s*\\([^)]*\\)\\s*\\{", "\\bdo\\b", "\\bwhile\\s*\\(true"};
        for (String word : banned) {
            Matcher m = Pattern.compile(word).matcher(code);
            due.is("banned: " + word, m.find(), false);
        }
        Matcher imports = Pattern.compile("import ([^;]*);").matcher(code);
        while (imports.find()) {
            due.is("import " + imports.group(1), imports.group(1).equals("java.util.Arrays"), true);
        }
        Matcher calls = Pattern.compile("\\b(System|Arrays|Math|Integer|Long)\\.(\\w+)").matcher(code);
        List<String> fine = List.of("arraycopy", "fill", "copyOf", "min", "max", "abs", "compare", "bitCount");
        while (calls.find()) {
            due.is("library: " + calls.group(), fine.contains(calls.group(2)), true);
        }
    }

    private static long[] room(Object from) throws IllegalAccessException {
        Map<Object, Boolean> seen = new IdentityHashMap<>();
        Deque<Object> open = new ArrayDeque<>(Collections.singleton(from));
        long elements = 0;
        while (!open.isEmpty()) {
            Object next = open.pop();
            if (seen.put(next, true) != null) {
                continue;
            }
            if (next.getClass().isArray()) {
                elements += Array.getLength(next);
                for (int i = 0; next instanceof Object[] && i < Array.getLength(next); i++) {
                    open.push(Array.get(next, i));
                }
                continue;
            }
            for (Field f : next.getClass().getDeclaredFields()) {
                if (!Modifier.isStatic(f.getModifiers())) {
                    elements++;
                    f.setAccessible(true);
                    Object value = f.get(next);
                    if (value != null && !f.getType().isPrimitive()) {
                        open.push(value);
                    }
                }
            }
        }
        return new long[] {seen.size(), elements};
    }

    /** All calls of one run live in one room, so an object takes all that it needs when it is made. */
    private static void room() throws IllegalAccessException {
        CradleNames x = new CradleNames();
        long[] first = room(x);
        due.is("objects: " + first[0], first[0] < 200, true);
        due.is("elements: " + first[1], first[1] < 70000, true);
        for (int i = 0; i < 16; i++) {
            x.name(Due.letters("b" + (char) ('a' + i)), 3);
        }
        for (int i = 0; i < 6; i++) {
            Due.taste(x, "worth " + i + "*near-far;");
        }
        x.by(0, 0);
        x.cradles(0, 0, 0, 6);
        x.years(20);
        x.image();
        for (int i = 0; i < 150; i++) {
            x.print(i % 61, 0, 0, 0, 0);
        }
        x.parts(3, 0);
        x.sound(0, 4);
        x.chance(-1, 5, 9);
        x.room(0, 5, 3, true);
        x.back();
        long[] then = room(x);
        due.is("objects stay", then[0], first[0]);
        due.is("elements stay", then[1], first[1]);
    }

    public static void main(String[] args) throws IOException, IllegalAccessException {
        face();
        source();
        room();
        due.end();
    }
}
