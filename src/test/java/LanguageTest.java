import java.lang.reflect.Constructor;
import java.lang.reflect.Field;
import java.lang.reflect.Method;
import java.lang.reflect.Modifier;
import java.nio.file.Files;
import java.nio.file.Path;
import java.util.HashMap;
import java.util.HashSet;
import java.util.List;
import java.util.Map;
import java.util.Set;
import java.util.TreeSet;
import java.util.regex.Matcher;
import java.util.regex.Pattern;

/** The face, and those rules of LANGUAGE.md that reflection or a search through the text can see. */
public final class LanguageTest {
    private static final String[] FACE = {
        "int write(int, long)", "int wipe()", "int fault()", "int plait()", "int make(int, int, long, int, int)",
        "int point(int)", "int set(int, int)", "int about(int)", "int loop(int)", "int along(int, int)",
        "int step(int, int)", "int end(int, int)", "int between(int, int)", "int which(int, boolean)", "int sign(int)",
        "int writhe()", "int linked(int, int)", "int colours(int)", "int by(int, int)", "int most(int)", "int one()",
        "int oneAt(int)", "int same(int)", "int keep(int)", "int again(int)"};
    private static final String[] FORBIDDEN = {
        "\\bthrow\\b", "\\bthrows\\b", "\\btry\\b", "\\bcatch\\b", "\\bfinally\\b", "\\bsynchronized\\b", "\\bassert\\b",
        "->", "::", "\\binstanceof\\b", "\\bpackage\\b", "Exact\\b", "\\bhashCode\\b", "\\btoString\\b", "\\bequals\\b",
        "System\\.(?!arraycopy)", "\\bThread\\b", "\\bRandom\\b", "\\bMath\\.random\\b", "static\\s*\\{", "\\bprotected\\b",
        "\"", "\\bvolatile\\b", "\\btransient\\b", "\\bnative\\b", "\\bfloat\\b", "\\bdouble\\b", "\\bObject\\b", "@"};
    private static final Due due = new Due();

    public static void main(String[] args) throws Exception {
        face();
        String code = withoutComments(Files.readString(Path.of(System.getProperty("program"))));
        for (String word : FORBIDDEN) {
            due.isTrue("no " + word, !Pattern.compile(word).matcher(code).find());
        }
        imports(code);
        library(code);
        methods(code);
        due.end();
    }

    private static void face() {
        Class<?> program = PlaitAndBreak.class;
        Set<String> want = new TreeSet<>(Set.of(FACE));
        Set<String> got = new TreeSet<>();
        for (Method method : program.getDeclaredMethods()) {
            if (!Modifier.isPrivate(method.getModifiers()) && !method.isSynthetic()) {
                String name = method.toString().replaceAll("^public ", "").replace("PlaitAndBreak.", "").replace(",", ", ");
                got.add(name);
            }
        }
        due.isTrue("methods of the face " + got, got.equals(want));
        Set<String> fields = new TreeSet<>();
        for (Field field : program.getDeclaredFields()) {
            boolean isStatic = Modifier.isStatic(field.getModifiers());
            due.isTrue(field + " is final", Modifier.isFinal(field.getModifiers()));
            due.isTrue(field + " is a number, if static", !isStatic || field.getType().isPrimitive());
            if (!Modifier.isPrivate(field.getModifiers())) {
                fields.add(field.getName());
            }
        }
        due.isTrue("constants of the face " + fields, fields.equals(Set.of("UNKNOWN", "OUTSIDE", "STATE", "FULL", "NONE")));
        Constructor<?>[] constructors = program.getConstructors();
        due.is("constructors", constructors.length, 1);
        due.is("its arguments", constructors[0].getParameterCount(), 0);
        due.isTrue("final", Modifier.isFinal(program.getModifiers()));
        Class<?>[] inside = program.getDeclaredClasses();
        due.isTrue("some twelve classes", inside.length <= 12);
        for (Class<?> one : inside) {
            due.isTrue(one + " is static", Modifier.isStatic(one.getModifiers()));
            due.isTrue(one + " is not public", !Modifier.isPublic(one.getModifiers()));
            due.isTrue(one + " has few fields", one.getDeclaredFields().length <= 20);
        }
        names(program, inside);
    }

    private static void names(Class<?> program, Class<?>[] inside) {
        Set<String> open = new HashSet<>();
        for (Method method : program.getDeclaredMethods()) {
            if (Modifier.isPublic(method.getModifiers())) {
                open.add(method.getName());
            }
        }
        for (Method method : program.getDeclaredMethods()) {
            due.isTrue(method + " has its own name", Modifier.isPublic(method.getModifiers()) || !open.contains(method.getName()));
        }
        for (Class<?> one : inside) {
            for (Method method : one.getDeclaredMethods()) {
                due.isTrue(method + " has its own name", !open.contains(method.getName()));
                due.isTrue(method + " takes seven at most", method.getParameterCount() <= 7);
            }
        }
    }

    private static void imports(String code) {
        Matcher found = Pattern.compile("import\\s+([\\w.*]+);").matcher(code);
        while (found.find()) {
            due.isTrue(found.group(1), Set.of("java.util.Arrays", "java.util.ArrayList", "java.util.List").contains(found.group(1)));
        }
    }

    private static void library(String code) {
        Matcher found = Pattern.compile("\\b(Arrays|System|Math|Integer|Long|String)\\.\\w+").matcher(code);
        while (found.find()) {
            due.isTrue(found.group(), Set.of("Arrays.fill", "System.arraycopy", "Math.min", "Math.max").contains(found.group()));
        }
    }

    // Methods are told by how far they stand in: their end stands in as their beginning does.
    private static void methods(String code) {
        Map<String, String> bodies = new HashMap<>();
        String[] lines = code.split("\n", -1);
        Pattern head = Pattern.compile("^( {4}| {8})(public|private)[^=;(]*\\b(\\w+)\\(.*\\) \\{$");
        for (int i = 0; i < lines.length; i++) {
            Matcher found = head.matcher(lines[i]);
            if (found.find()) {
                int end = i;
                while (end < lines.length && !lines[end].equals(found.group(1) + "}")) {
                    end++;
                }
                due.isTrue(lines[i].trim() + " is short", end - i <= 60);
                String body = String.join("\n", List.of(lines).subList(i + 1, end));
                due.isTrue(found.group(3) + " is one method alone", bodies.put(found.group(3), body) == null);
            }
        }
        due.isTrue("methods are found", bodies.size() > 25);
        for (String name : bodies.keySet()) {
            // What the library does is one call deeper.
            due.isTrue("calls from " + name + " go eight deep at most", depth(bodies, name, 0) < 8);
        }
    }

    // A method that calls itself, by others too, is deeper than any bound.
    private static int depth(Map<String, String> bodies, String name, int above) {
        if (above > 20) {
            return above;
        }
        int below = 0;
        Matcher called = Pattern.compile("\\b(\\w+)\\(").matcher(bodies.get(name));
        while (called.find()) {
            if (bodies.containsKey(called.group(1))) {
                below = Math.max(below, depth(bodies, called.group(1), above + 1));
            }
        }
        return below + 1;
    }

    private static String withoutComments(String code) {
        return code.replaceAll("(?s)/\\*.*?\\*/", "").replaceAll("//[^\n]*", "");
    }
}
