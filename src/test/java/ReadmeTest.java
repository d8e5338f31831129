import java.io.IOException;
import java.lang.reflect.InvocationTargetException;
import java.lang.reflect.Method;
import java.lang.reflect.Modifier;
import java.nio.file.Files;
import java.nio.file.Path;
import java.util.ArrayList;
import java.util.HashMap;
import java.util.List;
import java.util.Map;
import java.util.TreeSet;
import java.util.regex.Matcher;
import java.util.regex.Pattern;
import java.util.stream.Collectors;
import java.util.stream.Stream;

/** Makes the calls that README.md shows, in their order, and compares each answer with the one shown there. */
public final class ReadmeTest {
    private static final Pattern MAKING = Pattern.compile("DrawnTold (\\w+) = new DrawnTold\\(\\);");
    private static final Pattern CALL =
        Pattern.compile("(?:(?:int|long) (\\w+) = )?(\\w+)\\.(\\w+)\\(([^()]*)\\);\\s+// (-?\\d+)(?:[: ,].*)?");
    private static int wrong = 0;
    private static int calls = 0;
    private static final Map<String, DrawnTold> drawings = new HashMap<>();
    private static final Map<String, Integer> values = new HashMap<>();
    private static final TreeSet<String> shown = new TreeSet<>();

    private static void say(String what) {
        wrong++;
        System.out.println(what);
    }

    public static void main(String[] args) throws Exception {
        List<String> page = Files.readAllLines(Path.of("README.md"));
        for (String name : new String[] {"NONE", "BAD", "NO", "FULL"}) {
            values.put("DrawnTold." + name, DrawnTold.class.getField(name).getInt(null));
        }
        for (String line : codeOf(page)) {
            follow(line);
        }
        everyCallIsShown();
        everyTestIsNamed(String.join("\n", page));
        System.out.println(calls + " calls of README.md, " + wrong + " faults");
        if (wrong != 0) {
            System.exit(1);
        }
    }

    private static List<String> codeOf(List<String> page) {
        List<String> code = new ArrayList<>();
        boolean inside = false;
        for (String line : page) {
            if (line.startsWith("```")) {
                inside = line.equals("```java");
            } else if (inside && !line.isBlank()) {
                code.add(line);
            }
        }
        return code;
    }

    /** A line that is of no known form is a fault: it would be shown without being tested. */
    private static void follow(String line) throws ReflectiveOperationException {
        Matcher making = MAKING.matcher(line);
        Matcher call = CALL.matcher(line);
        if (making.matches()) {
            drawings.put(making.group(1), new DrawnTold());
        } else if (call.matches() && drawings.containsKey(call.group(2))) {
            long answer = make(drawings.get(call.group(2)), call.group(3), call.group(4));
            if (answer != Long.parseLong(call.group(5))) {
                say("README.md shows: " + line + "   but the answer is " + answer);
            }
            if (call.group(1) != null) {
                values.put(call.group(1), (int) answer);
            }
        } else {
            say("README.md has a line that is no call with its answer: " + line);
        }
    }

    private static long make(DrawnTold drawing, String name, String inBrackets)
        throws IllegalAccessException, InvocationTargetException {
        String[] words = inBrackets.isBlank() ? new String[0] : inBrackets.split(", ");
        for (Method method : DrawnTold.class.getMethods()) {
            if (method.getName().equals(name) && method.getParameterCount() == words.length) {
                Object[] given = new Object[words.length];
                for (int i = 0; i < words.length; i++) {
                    given[i] = valueOf(words[i], method.getParameterTypes()[i]);
                }
                calls++;
                shown.add(name);
                return ((Number) method.invoke(drawing, given)).longValue();
            }
        }
        throw new IllegalArgumentException("README.md shows " + name + " with " + words.length + " arguments");
    }

    private static Object valueOf(String word, Class<?> type) {
        if (type == boolean.class) {
            return word.equals("true");
        }
        return values.containsKey(word) ? values.get(word) : Integer.valueOf(word);
    }

    private static void everyCallIsShown() {
        for (Method method : DrawnTold.class.getDeclaredMethods()) {
            if (Modifier.isPublic(method.getModifiers()) && !shown.contains(method.getName())) {
                say("README.md does not show " + method.getName());
            }
        }
    }

    private static void everyTestIsNamed(String page) throws IOException {
        if (!page.contains("`bash .ci/run`")) {
            say("README.md does not say how to run the tests");
        }
        try (Stream<Path> files = Files.list(Path.of("src/test/java"))) {
            for (String file : files.map(f -> f.getFileName().toString()).collect(Collectors.toList())) {
                String name = file.replace(".java", "");
                if (name.endsWith("Test") && !page.contains("`" + name + "`")) {
                    say("README.md does not name " + name);
                }
            }
        }
    }
}
