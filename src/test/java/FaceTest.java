import java.lang.reflect.Constructor;
import java.lang.reflect.Field;
import java.lang.reflect.Method;
import java.lang.reflect.Modifier;
import java.nio.file.Files;
import java.nio.file.Path;
import java.util.ArrayList;
import java.util.List;
import java.util.Set;
import java.util.TreeSet;
import java.util.regex.Matcher;
import java.util.regex.Pattern;

/** The class has the face that the document tells, and no more (LANGUAGE.md, rules 1, 2, 4, 5, 6 and 11). */
public final class FaceTest {
    private static final String[] FACE = {
        "int letter(int)", "int map()", "int streets(int, int, int)", "int turns(int)", "int length(int, int)",
        "int kind(int, int, int)", "int home(int)", "int street(int, int)", "int corner(int, int)",
        "int distance(int, int)", "int next(int, int)", "int round(int)", "int step(int, int)", "int time(int, int)",
        "int rank(int, int, int, int)", "long mean()", "int odd()", "int matched(int)", "int matching()",
        "int spliced(int)", "int balance(int)", "int flow()", "int loose(int)", "int without(int)", "int turned(int)",
        "int worst()", "int shared(int, int)", "int dealt(int, int)", "long lost(int, int, int)", "int whatIs(int, int)",
        "int row(int)", "int judge()", "int clear()", "int lots(int, int, int)", "int image()", "int on()", "int count(int)"};
    private static final String[] BARRED = {
        "import ", "package ", "synchronized", "assert ", "finally", "catch", "throw ", "->", "::", "Float.", "Double.",
        "System.nano", "System.current", "System.out", "Random", "Thread", "Exact(", "hashCode", "toString", "var "};
    private static int wrong = 0;

    private static void fault(String text) {
        wrong++;
        System.out.println(text);
    }

    public static void main(String[] args) throws Exception {
        members();
        nested();
        source(Files.readString(Path.of("src/main/java/PostmanRounds.java")));
        System.out.println(wrong == 0 ? "the face is as told" : wrong + " faults");
        if (wrong != 0) {
            System.exit(1);
        }
    }

    private static void members() {
        Class<?> face = PostmanRounds.class;
        if (!Modifier.isPublic(face.getModifiers()) || !Modifier.isFinal(face.getModifiers())) {
            fault("the class is not public and final");
        }
        Set<String> want = new TreeSet<>(List.of(FACE));
        Set<String> names = new TreeSet<>();
        Set<String> got = new TreeSet<>();
        for (Method m : face.getDeclaredMethods()) {
            if (Modifier.isPublic(m.getModifiers())) {
                got.add(told(m));
                names.add(m.getName());
            }
        }
        if (!got.equals(want)) {
            fault("the face is " + got + ", due is " + want);
        }
        for (Method m : face.getDeclaredMethods()) {
            boolean isPublic = Modifier.isPublic(m.getModifiers());
            if (!isPublic && (!Modifier.isPrivate(m.getModifiers()) || names.contains(m.getName()))) {
                fault("a method that should not be so: " + m);
            }
            if (isPublic && Modifier.isStatic(m.getModifiers())) {
                fault("a static method of the face: " + m);
            }
        }
        for (Constructor<?> c : face.getDeclaredConstructors()) {
            if (!Modifier.isPublic(c.getModifiers()) || c.getParameterCount() > 0) {
                fault("a constructor that should not be: " + c);
            }
        }
        fields(face);
    }

    private static String told(Method m) {
        List<String> types = new ArrayList<>();
        for (Class<?> type : m.getParameterTypes()) {
            types.add(type.getName());
        }
        return m.getReturnType() + " " + m.getName() + "(" + String.join(", ", types) + ")";
    }

    private static void fields(Class<?> c) {
        int own = 0;
        for (Field f : c.getDeclaredFields()) {
            boolean isStatic = Modifier.isStatic(f.getModifiers());
            own += isStatic ? 0 : 1;
            if (c == PostmanRounds.class && !Modifier.isPrivate(f.getModifiers())) {
                fault("a field that is not private: " + f);
            }
            if (isStatic && !Modifier.isFinal(f.getModifiers())) {
                fault("a static field that is not final: " + f);
            }
        }
        if (own > 20) {
            fault(c + " has " + own + " fields");
        }
    }

    private static void nested() {
        Class<?>[] inside = PostmanRounds.class.getDeclaredClasses();
        if (inside.length > 12) {
            fault(inside.length + " classes inside");
        }
        Set<String> names = new TreeSet<>();
        for (String method : FACE) {
            names.add(method.substring(method.indexOf(' ') + 1, method.indexOf('(')));
        }
        for (Class<?> c : inside) {
            if (!Modifier.isStatic(c.getModifiers()) || Modifier.isPublic(c.getModifiers())) {
                fault("a class inside that should not be so: " + c);
            }
            fields(c);
            for (Method m : c.getDeclaredMethods()) {
                if (m.getParameterCount() > 7) {
                    fault("too many parameters: " + m);
                }
                if (names.contains(m.getName())) {
                    fault("a method inside with a name of the face: " + m);
                }
            }
        }
    }

    private static void source(String text) {
        String code = text.replaceAll("(?s)/\\*.*?\\*/", "").replaceAll("//[^\n]*", "");
        for (String barred : BARRED) {
            if (code.contains(barred)) {
                fault("the class uses " + barred);
            }
        }
        // Objects and rows are made with the object, never in a call.
        Matcher made = Pattern.compile("\n[^\n]*\\bnew \\w+[^\n]*").matcher(code);
        while (made.find()) {
            if (!made.group().contains("final ")) {
                fault("made in a call: " + made.group().trim());
            }
        }
    }
}
