import java.io.IOException;
import java.lang.management.ManagementFactory;
import java.lang.reflect.Constructor;
import java.lang.reflect.Field;
import java.lang.reflect.Method;
import java.lang.reflect.Modifier;
import java.nio.file.Files;
import java.nio.file.Path;
import java.util.Set;
import java.util.TreeSet;
import java.util.regex.Matcher;
import java.util.regex.Pattern;

/** The rules of LANGUAGE.md that can be looked at: the face, the words of the source, the room that calls take. */
public final class LanguageTest {
    private static final Set<String> FACE = new TreeSet<>(Set.of(
        "int letter(int)", "int blank()", "int fault(int)", "int street()", "int about(int,int)", "int as(int,int)",
        "int word(int,int)", "int drop(int,int)", "int rain(int,int)", "int dry()", "int turn(int,int)",
        "int fewTurns(int,int)", "int orders(int)", "int bestDrop(int)", "int found(int)", "int forget()",
        "int kindOf(int)", "int letterOf(int)", "int mornings(int,int,int)", "int image()", "int restore()",
        "int count(int)", "long digest()"));
    private static final Set<String> CONSTANTS = Set.of("NONE", "UNKNOWN", "OUTSIDE", "STATE", "FULL");
    private static final Set<String> LIBRARY = Set.of(
        "String", "StringBuilder", "ArrayList", "List", "Integer", "Long", "Math", "System", "Arrays");
    private static final Set<String> TEXT_AND_LIST_CALLS = Set.of(
        "length", "charAt", "isEmpty", "equals", "indexOf", "substring", "toCharArray", "append", "setCharAt",
        "setLength", "deleteCharAt", "reverse", "add", "get", "set", "remove", "size", "clear", "clone");
    private static final Set<String> STATIC_CALLS = Set.of(
        "System.arraycopy", "Arrays.copyOf", "Arrays.copyOfRange", "Arrays.fill", "List.of");
    private static final Path SOURCE = Path.of("src/main/java/RainLetters.java");
    private static final long MOST_BYTES_OF_A_RUN = 1_000_000;

    private static int wrong = 0;

    private static void holds(int rule, String what, boolean so) {
        if (!so) {
            wrong++;
            System.out.println("rule " + rule + ": " + what);
        }
    }

    private static String shape(Method method) {
        StringBuilder text = new StringBuilder();
        for (Class<?> type : method.getParameterTypes()) {
            text.append(text.length() == 0 ? "" : ",").append(type.getName());
        }
        return method.getReturnType().getName() + " " + method.getName() + "(" + text + ")";
    }

    private static void face() {
        Class<?> program = RainLetters.class;
        holds(1, "the class is public and final",
            Modifier.isPublic(program.getModifiers()) && Modifier.isFinal(program.getModifiers()));
        Set<String> seen = new TreeSet<>();
        Set<String> names = new TreeSet<>();
        for (Method method : program.getDeclaredMethods()) {
            if (Modifier.isPublic(method.getModifiers())) {
                seen.add(shape(method));
                names.add(method.getName());
            }
        }
        holds(1, "the methods are " + seen, seen.equals(FACE));
        for (Method method : program.getDeclaredMethods()) {
            boolean hidden = Modifier.isPrivate(method.getModifiers());
            holds(1, shape(method) + " is public or private", hidden || Modifier.isPublic(method.getModifiers()));
            holds(1, shape(method) + " bears a public name", !hidden || !names.contains(method.getName()));
        }
        for (Field field : program.getDeclaredFields()) {
            boolean open = !Modifier.isPrivate(field.getModifiers());
            holds(1, field.getName() + " is of the face if it is open", open == CONSTANTS.contains(field.getName()));
            holds(5, field.getName() + " is final if it is static",
                !Modifier.isStatic(field.getModifiers()) || Modifier.isFinal(field.getModifiers()));
        }
        Constructor<?>[] makers = program.getDeclaredConstructors();
        holds(1, "one constructor without parameters", makers.length == 1 && makers[0].getParameterCount() == 0);
        classesInside(program, names);
    }

    private static void classesInside(Class<?> program, Set<String> names) {
        holds(11, "at most twelve classes", program.getDeclaredClasses().length < 12);
        holds(11, "at most twenty fields", fieldsOf(program) <= 20);
        for (Class<?> inside : program.getDeclaredClasses()) {
            int modifiers = inside.getModifiers();
            holds(1, inside.getName() + " is static and not public",
                Modifier.isStatic(modifiers) && !Modifier.isPublic(modifiers) && !Modifier.isProtected(modifiers));
            holds(11, "at most twenty fields in " + inside.getName(), fieldsOf(inside) <= 20);
            for (Method method : inside.getDeclaredMethods()) {
                holds(1, inside.getName() + " has a method with a public name: " + method.getName(),
                    !names.contains(method.getName()));
                holds(11, method.getName() + " takes at most seven", method.getParameterCount() <= 7);
            }
        }
    }

    private static int fieldsOf(Class<?> of) {
        int fields = 0;
        for (Field field : of.getDeclaredFields()) {
            fields += Modifier.isStatic(field.getModifiers()) ? 0 : 1;
        }
        return fields;
    }

    /** What is named behind a point is a call of the library's list, a call of an own method, or an own field. */
    private static void library(String text) {
        Matcher ofClasses = Pattern.compile("\\b([A-Z]\\w*[a-z]\\w*)\\.(\\w+)(\\s*\\()?").matcher(text);
        while (ofClasses.find()) {
            String owner = ofClasses.group(1);
            String name = owner + "." + ofClasses.group(2);
            boolean counts = owner.equals("Integer") || owner.equals("Long") || owner.equals("Math");
            holds(4, "the source uses " + name, !LIBRARY.contains(owner)
                || ofClasses.group(3) != null && (counts || STATIC_CALLS.contains(name)));
        }
        Set<String> own = new TreeSet<>();
        for (Class<?> inside : RainLetters.class.getDeclaredClasses()) {
            for (Method method : inside.getDeclaredMethods()) {
                own.add(method.getName());
            }
        }
        Matcher calls = Pattern.compile("\\b[a-z]\\w*(?:\\[[^\\]]*\\])*\\.(\\w+)\\s*\\(").matcher(text);
        while (calls.find()) {
            String name = calls.group(1);
            holds(4, "the source calls " + name, own.contains(name) || TEXT_AND_LIST_CALLS.contains(name));
        }
    }

    private static void source() throws IOException {
        String text = Files.readString(SOURCE).replaceAll("(?s)/\\*.*?\\*/", "").replaceAll("//[^\n]*", "");
        library(text.replaceAll("import [^;]+;", ""));
        Matcher words = Pattern.compile("\\b(throw|throws|try|catch|synchronized|assert|package|Object|System\\."
            + "(?!arraycopy)\\w+|Random|Thread|\\w+Exact|hashCode|toString|protected)\\b|->|::").matcher(text);
        while (words.find()) {
            holds(6, "the source holds " + words.group(), false);
        }
        Matcher imports = Pattern.compile("import ([^;]+);").matcher(text);
        while (imports.find()) {
            holds(4, "the source imports " + imports.group(1), imports.group(1).equals("java.util.Arrays"));
        }
        holds(3, "the source is plain ASCII", Files.readString(SOURCE).chars().allMatch(sign -> sign < 128));
    }

    private static long bytesSoFar() {
        com.sun.management.ThreadMXBean bean = (com.sun.management.ThreadMXBean) ManagementFactory.getThreadMXBean();
        return bean.getThreadAllocatedBytes(Thread.currentThread().getId());
    }

    /** The dearest calls, near as many as an object may be asked. */
    private static long dearRun() {
        RainLetters x = new RainLetters();
        for (char sign : "d1,b2,s3,t4,d5,b-".toCharArray()) {
            x.letter(sign);
        }
        x.street();
        for (int drop = 0; drop < 12; drop++) {
            x.drop(drop % 3, drop % 5);
        }
        x.found(5);
        x.letter('b');
        long sum = 0;
        for (int call = 0; call < 20; call++) {
            sum += x.fewTurns(5, 2) + x.orders(5) + x.image() + x.restore() + x.mornings(40, call, 0);
        }
        for (int call = 0; call < 360; call++) {
            sum += x.digest();
        }
        return sum;
    }

    private static void room() {
        dearRun();
        long before = bytesSoFar();
        dearRun();
        long taken = bytesSoFar() - before;
        holds(12, "a run of dear calls takes " + taken + " bytes", taken < MOST_BYTES_OF_A_RUN);
    }

    public static void main(String[] args) throws IOException {
        face();
        source();
        room();
        System.out.println(wrong == 0 ? "the rules hold" : wrong + " rules are broken");
        if (wrong != 0) {
            System.exit(1);
        }
    }
}
