import java.io.PrintWriter;
import java.io.StringWriter;
import java.lang.reflect.Field;
import java.lang.reflect.Method;
import java.lang.reflect.Modifier;
import java.nio.charset.StandardCharsets;
import java.nio.file.Files;
import java.nio.file.Path;
import java.util.ArrayList;
import java.util.HashMap;
import java.util.HashSet;
import java.util.List;
import java.util.Map;
import java.util.Set;
import java.util.TreeSet;
import java.util.regex.Matcher;
import java.util.regex.Pattern;
import java.util.spi.ToolProvider;

/** What of LANGUAGE.md can be seen from the source and the compiled class. */
public final class LanguageTest {
    private static final String FACE = "back(int) brick(int,int) clear() count(int) draw(int,int) guess(int) hearth(int,int) "
            + "judge(int) keep(int) many(int) mark(int,int) mend(int) more(int,int,int) moved(int,int) one(int,int) "
            + "plan(int,int) rate(int,int) share(int) smokes(int,int,int) take(int) together(int,int) trace() tune(int,int) "
            + "turn(int,int,int) type(long,int) wall() way(int,int) wind(int,int,int)";
    private static final Set<String> LONGS = Set.of("many", "guess", "trace");

    private LanguageTest() {
    }

    public static void main(String[] args) throws Exception {
        face();
        classes();
        String source = Files.readString(Path.of("src/main/java/FlueStack.java"), StandardCharsets.UTF_8);
        words(source);
        lengths(source);
        depths();
        Due.finish("LanguageTest");
    }

    private static String sign(Method method) {
        List<String> types = new ArrayList<>();
        for (Class<?> type : method.getParameterTypes()) {
            types.add(type.getName());
        }
        return method.getName() + "(" + String.join(",", types) + ")";
    }

    private static void face() {
        Set<String> open = new TreeSet<>(), names = new TreeSet<>();
        for (Method method : FlueStack.class.getDeclaredMethods()) {
            if (!Modifier.isPrivate(method.getModifiers())) {
                open.add(sign(method));
                names.add(method.getName());
                Due.due("public " + sign(method), Modifier.isPublic(method.getModifiers()) ? 1 : 0, 1);
                String due = LONGS.contains(method.getName()) ? "long" : "int";
                Due.due("type of " + sign(method), method.getReturnType().getName(), due);
            }
        }
        Due.due("the face", String.join(" ", open), FACE);
        for (Method method : FlueStack.class.getDeclaredMethods()) {
            boolean hidden = Modifier.isPrivate(method.getModifiers());
            Due.due("private with a public name: " + method, hidden && names.contains(method.getName()) ? 1 : 0, 0);
        }
        Due.due("final", Modifier.isFinal(FlueStack.class.getModifiers()) ? 1 : 0, 1);
        Set<String> constants = new TreeSet<>();
        for (Field field : FlueStack.class.getDeclaredFields()) {
            if (!Modifier.isPrivate(field.getModifiers())) {
                constants.add(field.getName());
            }
        }
        Due.due("constants", String.join(" ", constants), "BAD FULL NO NONE STATE");
    }

    private static void classes() {
        Class<?>[] inside = FlueStack.class.getDeclaredClasses();
        Due.due("not too many classes", inside.length < 12 ? 1 : 0, 1);
        List<Class<?>> all = new ArrayList<>(List.of(inside));
        for (Class<?> type : inside) {
            Due.due("static " + type, Modifier.isStatic(type.getModifiers()) ? 1 : 0, 1);
            Due.due("not public " + type, Modifier.isPublic(type.getModifiers()) ? 1 : 0, 0);
        }
        all.add(FlueStack.class);
        for (Class<?> type : all) {
            int fields = 0;
            for (Field field : type.getDeclaredFields()) {
                if (Modifier.isStatic(field.getModifiers())) {
                    Due.due("final " + field, Modifier.isFinal(field.getModifiers()) ? 1 : 0, 1);
                } else {
                    fields++;
                }
            }
            Due.due("not too many fields in " + type, fields <= 20 ? 1 : 0, 1);
            for (Method method : type.getDeclaredMethods()) {
                Due.due("not too many parameters of " + method, method.getParameterCount() <= 7 ? 1 : 0, 1);
                Due.due("no lambda or bridge " + method, method.isSynthetic() ? 1 : 0, 0);
            }
        }
    }

    private static String withoutComments(String source) {
        return source.replaceAll("(?s)/\\*.*?\\*/", "").replaceAll("//[^\n]*", "");
    }

    private static void words(String source) {
        for (int i = 0; i < source.length(); i++) {
            char sign = source.charAt(i);
            if (sign > 126 || (sign < 32 && sign != '\n')) {
                Due.due("a sign of the source", sign, ' ');
            }
        }
        String code = withoutComments(source);
        String barred = "\\b(throw|throws|try|catch|synchronized|assert|package|var|Object|Math\\.\\w+Exact|System\\.(?!arraycopy)"
                + "\\w+|transient|volatile|native|strictfp|equals|hashCode|toString|instanceof|double|float)\\b|->|::|\"\\s*\\+|\\+\\s*\"";
        Matcher m = Pattern.compile(barred).matcher(code);
        while (m.find()) {
            Due.due("in the source: " + m.group(), 1, 0);
        }
        m = Pattern.compile("(?m)^import (.*);$").matcher(code);
        while (m.find()) {
            Due.due("import", m.group(1), "java.util.Arrays");
        }
        // all calls of a run live in one room: objects are made with the stack, and by no call
        for (String line : code.split("\n")) {
            if (line.contains("new ")) {
                boolean field = line.matches("\\s+(private )?(final )?[A-Za-z]+(\\[\\])* \\w+ = new .*;");
                Due.due("made outside a field: " + line.strip(), field ? 1 : 0, 1);
            }
        }
    }

    private static void lengths(String source) {
        int begin = -1, indent = 0, at = 0;
        for (String line : source.split("\n")) {
            at++;
            Due.due("a line of " + line.length(), line.length() <= 120 ? 1 : 0, 1);
            if (begin < 0 && line.matches("\\s+.*\\) \\{") && line.matches("\\s{4,8}[a-zA-Z].*")
                    && !line.matches("\\s+(if|for|while|switch|else|do|return)\\b.*")) {
                begin = at;
                indent = line.length() - line.stripLeading().length();
            } else if (begin >= 0 && line.equals(" ".repeat(indent) + "}")) {
                Due.due("a method of lines from " + begin, at - begin < 60 ? 1 : 0, 1);
                begin = -1;
            }
        }
    }

    /** Rule 11: calls that are no recursion go at most eight deep, a call of the library counted, too. */
    private static void depths() {
        Map<String, Set<String>> calls = calls();
        Due.due("all calls of the face are seen", calls.keySet().stream().filter(m -> m.startsWith("FlueStack.")).count() > 27
                ? 1 : 0, 1);
        Due.due("calls inside are seen", calls.get("FlueStack.wall").contains("FlueStack$Reader.read") ? 1 : 0, 1);
        for (Method method : FlueStack.class.getDeclaredMethods()) {
            String name = "FlueStack." + method.getName();
            List<String> chain = longest(name, calls, new HashSet<>(Set.of(name)));
            Due.due("not too deep " + String.join(" > ", chain), chain.size() <= 8 ? 1 : 0, 1);
        }
    }

    /** The longest chain of calls in which none comes twice. */
    private static List<String> longest(String name, Map<String, Set<String>> calls, Set<String> open) {
        List<String> best = new ArrayList<>();
        for (String next : calls.getOrDefault(name, Set.of())) {
            if (open.add(next)) {
                List<String> chain = longest(next, calls, open);
                open.remove(next);
                best = chain.size() > best.size() ? chain : best;
            }
        }
        List<String> all = new ArrayList<>(List.of(name));
        all.addAll(best);
        return all;
    }

    /** Which methods each method of the compiled classes calls, as javap tells it. */
    private static Map<String, Set<String>> calls() {
        Map<String, Set<String>> calls = new HashMap<>();
        List<Class<?>> all = new ArrayList<>(List.of(FlueStack.class.getDeclaredClasses()));
        all.add(FlueStack.class);
        Pattern head = Pattern.compile("^  (?! )[^(]*?([\\w$]+)\\(.*\\);$");
        Pattern call = Pattern.compile("invoke\\w+ .*// (?:Interface)?Method (?:([\\w/$]+)\\.)?\"?([\\w<>$]+)\"?:");
        for (Class<?> type : all) {
            StringWriter told = new StringWriter();
            PrintWriter to = new PrintWriter(told);
            ToolProvider.findFirst("javap").orElseThrow().run(to, to, "-c", "-p", "-cp",
                    System.getProperty("java.class.path"), type.getName());
            String method = "";
            for (String line : told.toString().split("\\R")) {
                Matcher m = head.matcher(line);
                if (m.find()) {
                    method = type.getName() + "." + m.group(1);
                    calls.putIfAbsent(method, new HashSet<>());
                }
                m = call.matcher(line);
                if (m.find()) {
                    String owner = m.group(1) == null ? type.getName() : m.group(1).replace('/', '.');
                    calls.get(method).add(owner + "." + m.group(2));
                }
            }
        }
        return calls;
    }
}
