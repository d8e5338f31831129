import java.lang.reflect.Constructor;
import java.lang.reflect.Field;
import java.lang.reflect.Member;
import java.lang.reflect.Method;
import java.lang.reflect.Modifier;
import java.nio.file.Files;
import java.nio.file.Path;
import java.util.Arrays;
import java.util.Set;
import java.util.TreeSet;
import java.util.stream.Collectors;

/** The public face, and those rules of LANGUAGE.md that can be read off the class or its text. */
public final class FaceTest {
    private static final String[] FACE = {"point(int,int)int", "rough(int,int,int)int", "telling(int)int",
        "term(int,int,int)int", "takeOff(int,boolean)int", "sort(int)int", "madeOf(int)int", "tellings(int)int",
        "fixed(int)int", "question(int)int", "ask(int,int)int", "holds()int", "nearest(int)int", "strain()int",
        "drag(int,int,int,int)int", "sign(int)int", "limb(int,int)int", "bar(int,int)int", "sortOf(int)int",
        "bars(int)int", "round(int)int", "kept(int,int)int", "piece(int,int)int", "fixes(int)int", "order(int)int",
        "whole()int", "count(int)int", "digest()long"};
    private static final String[] RULED_OUT = {"throw", "try", "catch", "synchronized", "assert", "import", "package",
        "java", "native", "volatile", "transient", "Exact"};
    private static int wrong = 0;

    private static void due(String what, Object got, Object want) {
        if (!got.equals(want)) {
            wrong++;
            System.out.println(what + " is " + got + ", due is " + want);
        }
    }

    public static void main(String[] args) throws Exception {
        Class<?> face = DrawnTold.class;
        due("the class", Modifier.toString(face.getModifiers()), "public final");
        constants(face);
        due("the constructors", Arrays.stream(face.getDeclaredConstructors()).map(Constructor::toString)
            .collect(Collectors.joining()), "public DrawnTold()");
        due("the methods", Arrays.stream(face.getDeclaredMethods()).filter(FaceTest::isOpen).map(FaceTest::shape)
            .collect(Collectors.toCollection(TreeSet::new)), new TreeSet<>(Arrays.asList(FACE)));
        privateNames(face);
        inside(face);
        text();
        System.out.println(wrong == 0 ? "the face is as told" : wrong + " faults");
        if (wrong != 0) {
            System.exit(1);
        }
    }

    private static boolean isOpen(Member member) {
        return !Modifier.isPrivate(member.getModifiers());
    }

    private static String shape(Method method) {
        String parameters = Arrays.stream(method.getParameterTypes()).map(Class::getName)
            .collect(Collectors.joining(","));
        return method.getName() + "(" + parameters + ")" + method.getReturnType().getName();
    }

    private static void constants(Class<?> face) throws Exception {
        Set<String> open = new TreeSet<>();
        for (Field field : face.getDeclaredFields()) {
            if (isOpen(field)) {
                due(field.getName(), Modifier.toString(field.getModifiers()) + " " + field.getType(),
                    "public static final int");
                open.add(field.getName() + field.getInt(null));
            }
        }
        due("the constants", open, new TreeSet<>(Arrays.asList("NONE-1", "BAD-2", "NO-3", "FULL-4")));
    }

    private static void privateNames(Class<?> face) {
        Set<String> open = Arrays.stream(FACE).map(f -> f.substring(0, f.indexOf('('))).collect(Collectors.toSet());
        for (Method method : face.getDeclaredMethods()) {
            if (!isOpen(method)) {
                due(method.getName() + " bears a public one's name", open.contains(method.getName()), false);
            }
        }
    }

    private static void inside(Class<?> face) {
        due("at most twelve classes", face.getDeclaredClasses().length < 12, true);
        for (Class<?> c : face.getDeclaredClasses()) {
            due(c + " is static", Modifier.isStatic(c.getModifiers()), true);
            due(c + " has classes inside", c.getDeclaredClasses().length, 0);
            for (Field field : c.getDeclaredFields()) {
                int is = field.getModifiers();
                due(field + " is static and may change", Modifier.isStatic(is) && !Modifier.isFinal(is), false);
            }
        }
    }

    private static void text() throws Exception {
        String text = Files.readString(Path.of("src/main/java/DrawnTold.java"));
        due("plain signs", text.chars().allMatch(c -> c == '\n' || c >= 32 && c < 127), true);
        String code = text.replaceAll("(?s)/\\*.*?\\*/", " ").replaceAll("//[^\n]*", " ");
        for (String word : RULED_OUT) {
            due("the code has " + word, code.matches("(?s).*\\b" + word + "\\b.*"), false);
        }
        due("the code has -> or ::", code.contains("->") || code.contains("::"), false);
    }
}
