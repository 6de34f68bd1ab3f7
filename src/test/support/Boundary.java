import java.io.IOException;
import java.lang.reflect.InvocationTargetException;
import java.lang.reflect.Method;
import java.nio.file.Files;
import java.nio.file.Path;
import java.util.ArrayList;
import java.util.Arrays;
import java.util.Comparator;
import java.util.List;
import java.util.regex.Matcher;
import java.util.regex.Pattern;

/**
 * What the tests of boundaries share. Each method of such a test whose name begins with p and a promise's number is
 * a test of one sentence; it quotes that sentence, which must stand in the document.
 */
abstract class Boundary {
    static final int NONE = -1, UNKNOWN = -101, OUTSIDE = -102, STATE = -103, FULL = -104;
    static final int LEAST = Integer.MIN_VALUE, MOST = Integer.MAX_VALUE;
    static final String OPEN = "g-,b-,s-,t-,d-,g-";
    static final String PLAIN = "g-,g-,g-,g-,g-,g-";
    static final String CHAIN = "g1,g2,g3,g4,g5,g-";
    static final String TWENTY = "abcdeabcdeabcdeabcde";
    static final String TWELVE = "abcdeabcdeab";

    private static final Path DOCUMENT = Path.of("../shared/DOC.md");
    private static final Pattern TEST_NAME = Pattern.compile("p(\\d+)[A-Z]\\w*");
    private static final Pattern EDGE_WORD = Pattern.compile("\\b(UNKNOWN|OUTSIDE|STATE|FULL|NONE)\\b");

    private static final List<List<String>> QUOTES = new ArrayList<>();
    private static String document;
    private static int promise;
    private static String test;
    private static int tests;
    private static int wrong;

    interface Maker {
        RainLetters make();
    }

    interface Call {
        long on(RainLetters x);
    }

    static void sentence(String words) {
        if (!document.isEmpty() && !document.contains(words)) {
            tell("the document does not say: " + words);
        }
        QUOTES.get(promise).add(words);
    }

    static void due(String call, long got, long want) {
        if (got != want) {
            tell(call + " answered " + got + ", due is " + want);
        }
    }

    static void dueWord(RainLetters x, int gutter, String want) {
        String got = word(x, gutter);
        if (!got.equals(want)) {
            tell("the word of " + gutter + " is " + got + ", due is " + want);
        }
    }

    /** A call that can't be done: it answers so, and changes nothing. */
    static void refuses(String name, Maker maker, Call call, int want) {
        if (want != UNKNOWN && want != OUTSIDE && want != STATE && want != FULL) {
            tell(want + " is no refusal");
        }
        asks(name, maker, call, want);
    }

    /** The answer is due, and all that comes then is as with an object that was never asked. */
    static void asks(String name, Maker maker, Call call, int want) {
        RainLetters dropsNext = maker.make();
        RainLetters restoresNext = maker.make();
        due(name, call.on(dropsNext), want);
        due(name + ", once more", call.on(dropsNext), want);
        due(name, call.on(restoresNext), want);
        dueAll(name, goOn(dropsNext), goOn(maker.make()));
        dueAll(name, goBack(restoresNext), goBack(maker.make()));
    }

    private static void dueAll(String name, List<Long> got, List<Long> due) {
        for (int i = 0; i < due.size(); i++) {
            due(name + " changed something: answer " + i + " behind it", got.get(i), due.get(i));
        }
    }

    /** The answers to calls that tell all there is, and then what is held inside, such as what came ahead. */
    private static List<Long> goOn(RainLetters x) {
        List<Long> told = new ArrayList<>();
        tellAll(x, told);
        dropAll(x, told);
        told.add((long) x.dry());
        dropAll(x, told);
        told.add((long) x.fewTurns(5, 0));
        told.add((long) x.orders(5));
        told.add((long) x.found(0));
        tellAll(x, told);
        told.add((long) x.forget());
        told.add((long) x.blank());
        told.add((long) write(x, OPEN).street());
        tellAll(x, told);
        return told;
    }

    /** The same from the image; no other call stands ahead of it, as one that is refused might undo it, too. */
    private static List<Long> goBack(RainLetters x) {
        List<Long> told = new ArrayList<>();
        told.add(x.digest());
        told.add((long) x.restore());
        tellAll(x, told);
        dropAll(x, told);
        return told;
    }

    private static void tellAll(RainLetters x, List<Long> told) {
        told.add(x.digest());
        told.add((long) x.fault(0));
        told.add((long) x.fault(1));
        told.add((long) x.bestDrop(0));
        told.add((long) x.mornings(3, 5, 0));
    }

    private static void dropAll(RainLetters x, List<Long> told) {
        for (int gutter = 0; gutter < 6; gutter++) {
            told.add((long) x.drop(gutter, gutter % 5));
        }
        told.add(x.digest());
    }

    static RainLetters write(RainLetters x, String text) {
        for (int i = 0; i < text.length(); i++) {
            x.letter(text.charAt(i));
        }
        return x;
    }

    static RainLetters page(String text) {
        return write(new RainLetters(), text);
    }

    static RainLetters lay(String text) {
        RainLetters x = page(text);
        x.street();
        return x;
    }

    static RainLetters fall(RainLetters x, int gutter, String letters) {
        for (int i = 0; i < letters.length(); i++) {
            x.drop(gutter, letters.charAt(i) - 'a');
        }
        return x;
    }

    static RainLetters rewrite(RainLetters x, String text) {
        x.blank();
        return write(x, text);
    }

    static RainLetters find(RainLetters x, int gutter, String text) {
        rewrite(x, text).found(gutter);
        return x;
    }

    static String word(RainLetters x, int gutter) {
        StringBuilder text = new StringBuilder();
        for (int place = 0; x.word(gutter, place) >= 0; place++) {
            text.append((char) ('a' + x.word(gutter, place)));
        }
        return text.toString();
    }

    /** In the midst of all: drops, a word found, an image, turned since, searches done, letters on the page. */
    static RainLetters midst() {
        RainLetters x = lay("d-,b2,s-,t5,g-,b-");
        fall(fall(fall(x, 0, "ab"), 1, "ca"), 5, "d");
        find(x, 0, "a");
        x.image();
        x.turn(4, 5);
        fall(fall(x, 4, "e"), 2, "b");
        x.orders(0);
        write(x, "a").fewTurns(0, 0);
        return x;
    }

    /** In the midst of all, with as many drops as may fall, and an image of when there was one less. */
    static RainLetters soaked() {
        RainLetters x = find(fall(lay("d-,b2,s-,t5,g-,b-"), 0, "abacabacaba"), 0, "abab");
        x.image();
        return write(fall(x, 1, "c"), "ab");
    }

    static long mixed(long... numbers) {
        long h = 821;
        for (long number : numbers) {
            h = 31 * h + number;
        }
        return h;
    }

    private static void tell(String what) {
        wrong++;
        System.out.println("promise " + promise + ", " + test + ": " + what);
    }

    /** Runs the tests of a class, which must be such of each promise from the first to the last. */
    static void run(Class<?> of, int first, int last) throws IOException, ReflectiveOperationException {
        document = Files.exists(DOCUMENT) ? Files.readString(DOCUMENT) : "";
        for (int number = 0; number <= last; number++) {
            QUOTES.add(new ArrayList<>());
        }
        Method[] methods = of.getDeclaredMethods();
        Arrays.sort(methods, Comparator.comparing(Method::getName));
        for (Method method : methods) {
            Matcher name = TEST_NAME.matcher(method.getName());
            if (name.matches()) {
                runOne(method, Integer.parseInt(name.group(1)));
            }
        }
        for (promise = first; promise <= last; promise++) {
            test = "all";
            lookForQuotes();
        }
        System.out.println(wrong == 0 ? tests + " sentences hold" : wrong + " answers are not as due");
        if (wrong != 0) {
            System.exit(1);
        }
    }

    private static void runOne(Method method, int number) throws ReflectiveOperationException {
        promise = number;
        test = method.getName();
        tests++;
        int quotes = QUOTES.get(number).size();
        method.setAccessible(true);
        try {
            method.invoke(null);
        } catch (InvocationTargetException thrown) {
            tell("threw " + thrown.getCause());
        }
        if (QUOTES.get(number).size() == quotes) {
            tell("quotes no sentence");
        }
    }

    /** Each refusal that a promise names, and each NONE, must be quoted by one of its tests. */
    private static void lookForQuotes() {
        List<String> quotes = QUOTES.get(promise);
        if (quotes.isEmpty()) {
            tell("no test");
        }
        int from = document.indexOf("## Promise " + promise + ":");
        int to = document.indexOf("\n## ", from + 1);
        if (from < 0 || to < 0) {
            return;
        }
        Matcher words = EDGE_WORD.matcher(document.substring(from, to));
        while (words.find()) {
            if (quotes.stream().noneMatch(quote -> quote.contains(words.group()))) {
                tell("no test quotes " + words.group());
            }
        }
    }
}
