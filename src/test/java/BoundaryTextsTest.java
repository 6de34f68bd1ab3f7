import java.io.IOException;

/** The boundaries of promises 1 to 8, sentence by sentence: a new object, the page, the street, what is told of it. */
public final class BoundaryTextsTest extends Boundary {
    private static final int LAST_CODE = 126;

    // ---- 1 a new object

    private static void p1WithoutStreet() {
        sentence("No STREET.");
        sentence("At first there is no STREET.");
        Maker fresh = () -> page("abx");
        refuses("street()", fresh, x -> x.street(), STATE);
        refuses("about(0, 0)", fresh, x -> x.about(0, 0), UNKNOWN);
        refuses("as(0, 0)", fresh, x -> x.as(0, 0), UNKNOWN);
        refuses("word(0, 0)", fresh, x -> x.word(0, 0), UNKNOWN);
        refuses("drop(0, 0)", fresh, x -> x.drop(0, 0), UNKNOWN);
        refuses("rain(0, 0)", fresh, x -> x.rain(0, 0), UNKNOWN);
        refuses("dry()", fresh, x -> x.dry(), STATE);
        refuses("turn(0, 1)", fresh, x -> x.turn(0, 1), UNKNOWN);
        refuses("fewTurns(0, 0) of a word", () -> page("a"), x -> x.fewTurns(0, 0), UNKNOWN);
        refuses("orders(0)", fresh, x -> x.orders(0), UNKNOWN);
        refuses("bestDrop(0)", fresh, x -> x.bestDrop(0), STATE);
        refuses("found(0)", fresh, x -> x.found(0), UNKNOWN);
        refuses("found(0) of a word", () -> page("a"), x -> x.found(0), UNKNOWN);
        refuses("kindOf(0)", fresh, x -> x.kindOf(0), UNKNOWN);
        refuses("letterOf(0)", fresh, x -> x.letterOf(0), UNKNOWN);
        refuses("mornings(1, 0, 0)", fresh, x -> x.mornings(1, 0, 0), STATE);
        refuses("image()", fresh, x -> x.image(), STATE);
        refuses("restore()", fresh, x -> x.restore(), STATE);
    }

    private static void p1WhatNeedsNoStreet() {
        sentence("No STREET.");
        RainLetters x = new RainLetters();
        due("blank()", x.blank(), 0);
        due("forget()", x.forget(), 0);
        due("fault(0)", x.fault(0), 0);
        due("fault(1)", x.fault(1), 0);
        for (int what = 0; what <= 10; what++) {
            due("count(" + what + ")", x.count(what), 0);
        }
        due("digest()", x.digest(), mixed(0, 0, 0, 0, 0, 0, 0, 0, 0, 0, 0));
        due("letter('g')", x.letter('g'), 1);
    }

    private static void p1WithStreet() {
        sentence("At first there is no STREET.");
        RainLetters x = page(PLAIN);
        due("about(0, 0) ahead of street()", x.about(0, 0), UNKNOWN);
        due("street()", x.street(), 6);
        due("about(0, 0)", x.about(0, 0), 0);
        due("as(0, 0)", x.as(0, 0), 0);
        due("image()", x.image(), 0);
        due("restore()", x.restore(), 0);
        due("mornings(1, 0, 0)", x.mornings(1, 0, 0), 5);
        due("bestDrop(0)", x.bestDrop(0), 0);
        due("orders(0)", x.orders(0), 1);
        due("kindOf(0)", x.kindOf(0), 31);
        due("turn(0, 1)", x.turn(0, 1), NONE);
        due("dry()", x.dry(), 0);
        due("found(0)", x.found(0), 1);
        due("drop(0, 0)", x.drop(0, 0), 1);
    }

    private static void p1The512thCall() {
        sentence("An object is used for at most 512 calls after it has been made");
        RainLetters x = fall(lay(PLAIN), 0, TWELVE);
        int calls = PLAIN.length() + 1 + TWELVE.length();
        long digest = x.digest();
        calls++;
        while (calls < 511) {
            calls++;
            due("call " + calls + ": digest()", x.digest(), digest);
        }
        due("the 512th: dry()", x.dry(), 12);
    }

    // ---- 2 letter

    private static void p2CodeOf1To126() {
        sentence("OUTSIDE: code (1 to 126)");
        for (int code : new int[] {0, -1, LAST_CODE + 1, 128, 256 + 'a', LEAST, MOST}) {
            refuses("letter(" + code + ")", Boundary::midst, x -> x.letter(code), OUTSIDE);
        }
        RainLetters x = new RainLetters();
        due("letter(1)", x.letter(1), 1);
        due("letter(2)", x.letter(2), 2);
        due("letter(125)", x.letter(125), 3);
        due("letter(126)", x.letter(126), 4);
        due("digest()", x.digest(), mixed(1, 2, 125, 126, 0, 0, 0, 0, 0, 0, 0, 4, 0, 0, 0));
    }

    private static void p2AtMost20() {
        sentence("FULL: above 20");
        RainLetters x = page(TWENTY.substring(0, 18));
        due("the 19th", x.letter('a'), 19);
        due("the 20th", x.letter('b'), 20);
        refuses("the 21st", () -> page(TWENTY), y -> y.letter('a'), FULL);
        refuses("the 21st beside a street", () -> rewrite(midst(), TWENTY), y -> y.letter('a'), FULL);
        due("blank()", x.blank(), 20);
        due("the first anew", x.letter('a'), 1);
    }

    private static void p2OutsideAheadOfFull() {
        sentence("OUTSIDE: code (1 to 126); FULL: above 20.");
        refuses("letter(0) behind 20", () -> page(TWENTY), x -> x.letter(0), OUTSIDE);
        refuses("letter(127) behind 20", () -> page(TWENTY), x -> x.letter(127), OUTSIDE);
        refuses("letter(126) behind 20", () -> page(TWENTY), x -> x.letter(126), FULL);
        refuses("letter(1) behind 20", () -> page(TWENTY), x -> x.letter(1), FULL);
    }

    // ---- 3 blank

    private static void p3EmptyToFull() {
        sentence("THE PAGE is empty: how many letters it had.");
        for (int size : new int[] {0, 1, 2, 19, 20}) {
            RainLetters x = page(TWENTY.substring(0, size));
            due("blank() of " + size, x.blank(), size);
            due("count(7)", x.count(7), 0);
            due("blank() again", x.blank(), 0);
            due("the digest is that of a new object", x.digest(), new RainLetters().digest());
        }
    }

    // ---- 4 fault

    private static void dueFault(String text, int sort, int want) {
        RainLetters x = page(text);
        long digest = x.digest();
        due("fault(" + sort + ") of '" + text + "'", x.fault(sort), want);
        due("the page stays", x.digest(), digest);
    }

    private static void p4Sorts() {
        sentence("how many letters it has, if there is none. OUTSIDE.");
        for (int sort : new int[] {-1, 2, 3, LEAST, MOST}) {
            refuses("fault(" + sort + ")", Boundary::midst, x -> x.fault(sort), OUTSIDE);
            refuses("fault(" + sort + ") of no page", RainLetters::new, x -> x.fault(sort), OUTSIDE);
        }
        dueFault("g", 0, 1);
        dueFault("g", 1, 0);
        dueFault("a", 0, 0);
        dueFault("a", 1, 1);
    }

    private static void p4NoFault() {
        sentence("how many letters it has, if there is none");
        for (String street : new String[] {OPEN, PLAIN, CHAIN, "d5,t5,s5,b5,g5,d-"}) {
            for (int size = 0; size <= street.length(); size++) {
                dueFault(street.substring(0, size), 0, size);
            }
        }
        for (int size = 0; size <= 8; size++) {
            dueFault("eabcdeab".substring(0, size), 1, size);
        }
    }

    private static void p4TheFirstOfMany() {
        sentence("behind those ahead of it");
        dueFault("xx", 0, 0);
        dueFault("g1,b1,zz", 0, 4);
        dueFault("g1;b1;zz", 0, 2);
        dueFault("1g,", 0, 0);
        dueFault("afbf", 1, 1);
        dueFault("-", 1, 0);
        dueFault("b4,b4,b4,b4,b4,b4", 0, 13);
    }

    private static void p4SixGutters() {
        sentence("six GUTTERS (0 to 5) with \",\" between");
        dueFault("g-,g-,g-,g-,g-", 0, 14);
        dueFault("g-,g-,g-,g-,g-,", 0, 15);
        dueFault("g-,g-,g-,g-,g-,g", 0, 16);
        dueFault(PLAIN, 0, 17);
        dueFault(PLAIN + ",", 0, 17);
        dueFault(PLAIN + ",g-", 0, 17);
        dueFault(PLAIN + "\n", 0, 17);
    }

    private static void p4Kinds() {
        sentence("0 GUTTER \"g\", 1 BOWL \"b\", 2 SIEVE \"s\", 3 THIEF \"t\", 4 DAM \"d\"");
        for (int gutter = 0; gutter < 6; gutter++) {
            String ahead = PLAIN.substring(0, 3 * gutter);
            for (int code = 1; code <= LAST_CODE; code++) {
                boolean so = code == 'g' || code == 'b' || code == 's' || code == 't' || code == 'd';
                dueFault(ahead + (char) code, 0, so ? 3 * gutter + 1 : 3 * gutter);
            }
        }
    }

    private static void p4Flows() {
        sentence("a digit greater than its own number (into that GUTTER), or \"-\" (it flows OUT)");
        for (int gutter = 0; gutter < 6; gutter++) {
            String ahead = PLAIN.substring(0, 3 * gutter + 1);
            for (int code = 1; code <= LAST_CODE; code++) {
                boolean so = code == '-' || (code > '0' + gutter && code <= '5');
                dueFault(ahead + (char) code, 0, so ? 3 * gutter + 2 : 3 * gutter + 1);
            }
        }
    }

    private static void p4Commas() {
        sentence("with \",\" between");
        for (int gutter = 0; gutter < 5; gutter++) {
            String ahead = PLAIN.substring(0, 3 * gutter + 2);
            for (int code = 1; code <= LAST_CODE; code++) {
                dueFault(ahead + (char) code, 0, code == ',' ? 3 * gutter + 3 : 3 * gutter + 2);
            }
        }
    }

    private static void p4Letters() {
        sentence("LETTERS are \"a\" to \"e\"");
        for (int place : new int[] {0, 1, 7}) {
            for (int code = 1; code <= LAST_CODE; code++) {
                boolean so = code >= 'a' && code <= 'e';
                dueFault(TWENTY.substring(0, place) + (char) code, 1, so ? place + 1 : place);
            }
        }
    }

    private static void p4EightLetters() {
        sentence("(one to eight LETTERS)");
        dueFault("abcdeab", 1, 7);
        dueFault("abcdeabc", 1, 8);
        dueFault("abcdeabcd", 1, 8);
        dueFault(TWENTY, 1, 8);
        dueFault("abcdeabcx", 1, 8);
        dueFault("abcdeabx", 1, 7);
    }

    // ---- 5 street

    private static void p5NoStreet() {
        sentence("STATE: it is none.");
        String[] none = {"", "a", PLAIN.substring(0, 14), PLAIN.substring(0, 16), PLAIN + ",", PLAIN + "g-,",
            "g-,g-,g-,g-,g-,g5", "g0,g-,g-,g-,g-,g-", "g-,g-,g-,g-,g4,g-", "x-,g-,g-,g-,g-,g-", "g-;g-,g-,g-,g-,g-"};
        for (String text : none) {
            refuses("street() of '" + text + "'", () -> page(text), x -> x.street(), STATE);
            refuses("street() of '" + text + "' beside a street", () -> rewrite(midst(), text), x -> x.street(), STATE);
        }
        due("street() of " + PLAIN, page(PLAIN).street(), 6);
        RainLetters x = page(PLAIN.substring(0, 16));
        due("street() of 16", x.street(), STATE);
        due("the 17th", x.letter('-'), 17);
        due("street() of 17", x.street(), 6);
    }

    private static void p5HowManyFlowOut() {
        sentence("how many GUTTERS flow OUT; THE PAGE is empty then.");
        String[] streets = {CHAIN, "g-,g2,g3,g4,g5,g-", "g-,g-,g3,g4,g5,g-", "g-,g-,g-,g4,g5,g-", "g-,g-,g-,g-,g5,g-",
            PLAIN};
        for (int out = 1; out <= 6; out++) {
            RainLetters x = page(streets[out - 1]);
            due("street() of " + streets[out - 1], x.street(), out);
            due("count(1)", x.count(1), out);
            due("count(7)", x.count(7), 0);
            due("count(8)", x.count(8), 1);
        }
    }

    private static void p5AnotherIsGone() {
        sentence("(another one is gone, with all that was)");
        RainLetters x = rewrite(midst(), PLAIN);
        due("street()", x.street(), 6);
        for (int what = 2; what <= 7; what++) {
            due("count(" + what + ")", x.count(what), 0);
        }
        due("restore(): the image is gone", x.restore(), STATE);
        for (int gutter = 0; gutter < 6; gutter++) {
            int[] like = {0, NONE, 0, NONE, 0, 0};
            for (int what = 0; what < 6; what++) {
                due("about(" + gutter + ", " + what + ")", x.about(gutter, what), like[what]);
            }
            due("word(" + gutter + ", 0)", x.word(gutter, 0), UNKNOWN);
        }
        due("rain(0, 0)", x.rain(0, 0), UNKNOWN);
        due("kindOf(0): nothing is found", x.kindOf(0), 31);
        due("count(8)", x.count(8), 2);
        due("count(9): how often it was done stays", x.count(9), 1);
        due("count(10)", x.count(10), 1);
    }

    private static void p5TheDamCountsAnew() {
        sentence("(another one is gone, with all that was)");
        RainLetters x = fall(lay("d-,s-,b-,g-,g-,g-"), 0, "a");
        fall(fall(x, 1, "a"), 2, "a");
        due("drop(0, 1): the second", x.drop(0, 1), NONE);
        rewrite(x, "d-,s-,b-,g-,g-,g-").street();
        due("drop(0, 1): the first", x.drop(0, 1), 0);
        due("drop(1, 0): nothing came ahead", x.drop(1, 0), 1);
        due("drop(2, 0): it is empty", x.drop(2, 0), NONE);
    }

    // ---- 6 about

    private static void p6GutterAndWhat() {
        sentence("UNKNOWN (also without a STREET); OUTSIDE.");
        for (int bad : new int[] {-1, 6, 7, LEAST, MOST}) {
            refuses("about(" + bad + ", 0)", Boundary::midst, x -> x.about(bad, 0), UNKNOWN);
            refuses("about(" + bad + ", 6)", Boundary::midst, x -> x.about(bad, 6), UNKNOWN);
            refuses("about(0, " + bad + ")", Boundary::midst, x -> x.about(0, bad), OUTSIDE);
            refuses("about(5, " + bad + ")", Boundary::midst, x -> x.about(5, bad), OUTSIDE);
        }
        refuses("about(0, 6) without a street", RainLetters::new, x -> x.about(0, 6), UNKNOWN);
        refuses("about(5, 5) without a street", RainLetters::new, x -> x.about(5, 5), UNKNOWN);
        RainLetters x = lay(OPEN);
        due("about(0, 0)", x.about(0, 0), 0);
        due("about(5, 0)", x.about(5, 0), 0);
        due("about(4, 0)", x.about(4, 0), 4);
        due("about(0, 5)", x.about(0, 5), 0);
        due("about(5, 5)", x.about(5, 5), 0);
    }

    private static void p6WhereItFlows() {
        sentence("1 where it flows (NONE: OUT)");
        RainLetters x = lay("g1,g5,g-,g4,g5,g-");
        int[] to = {1, 5, NONE, 4, 5, NONE};
        for (int gutter = 0; gutter < 6; gutter++) {
            due("about(" + gutter + ", 1)", x.about(gutter, 1), to[gutter]);
        }
    }

    private static void p6HowManyCame() {
        sentence("2 how many LETTERS came to it");
        RainLetters x = lay("t1,b2,g-,g-,g-,g-");
        due("none", x.about(0, 2), 0);
        for (int came = 1; came <= 12; came++) {
            x.drop(0, came % 2);
            due("about(0, 2)", x.about(0, 2), came);
            due("about(1, 2): what the thief lost does not come", x.about(1, 2), (came + 1) / 2);
            due("about(2, 2): what the bowl keeps does not come", x.about(2, 2), Math.max(0, (came + 1) / 2 - 1));
        }
        due("about(3, 2)", x.about(3, 2), 0);
    }

    private static void p6WhatIsKeptOrCameAhead() {
        sentence("3 the LETTER that a BOWL keeps, or that came to a SIEVE, a DAM ahead (NONE)");
        RainLetters x = lay(OPEN);
        for (int gutter = 0; gutter < 6; gutter++) {
            boolean holds = gutter == 1 || gutter == 2 || gutter == 4;
            due("about(" + gutter + ", 3), empty", x.about(gutter, 3), NONE);
            x.drop(gutter, 0);
            due("about(" + gutter + ", 3) of a", x.about(gutter, 3), holds ? 0 : NONE);
            x.drop(gutter, 4);
            due("about(" + gutter + ", 3) of e", x.about(gutter, 3), holds ? 4 : NONE);
        }
        x.dry();
        due("about(4, 3), dried", x.about(4, 3), NONE);
    }

    private static void p6LettersOfItsWord() {
        sentence("4 how many LETTERS its WORD has");
        RainLetters x = lay(PLAIN);
        for (int out = 1; out <= 12; out++) {
            x.drop(3, out % 5);
            due("about(3, 4)", x.about(3, 4), out);
            due("about(2, 4)", x.about(2, 4), 0);
        }
        x.drop(3, 0);
        due("about(3, 4) behind one too many", x.about(3, 4), 12);
    }

    private static void p6HowManyWereLost() {
        sentence("5 how many of those that came to it were lost");
        int[] alike = {0, 0, 11, 12, 11, 0};
        int[] inTurn = {0, 0, 0, 6, 6, 0};
        for (int gutter = 0; gutter < 6; gutter++) {
            due("about(" + gutter + ", 5)", lay(OPEN).about(gutter, 5), 0);
            due("about(" + gutter + ", 5) of a twelve times",
                fall(lay(OPEN), gutter, "aaaaaaaaaaaa").about(gutter, 5), alike[gutter]);
            due("about(" + gutter + ", 5) of ab six times",
                fall(lay(OPEN), gutter, "abababababab").about(gutter, 5), inTurn[gutter]);
        }
    }

    // ---- 7 as

    private static void p7GutterAndKind() {
        sentence("UNKNOWN; OUTSIDE.");
        for (int bad : new int[] {-1, 6, LEAST, MOST}) {
            refuses("as(" + bad + ", 0)", Boundary::midst, x -> x.as(bad, 0), UNKNOWN);
            refuses("as(" + bad + ", 5)", Boundary::midst, x -> x.as(bad, 5), UNKNOWN);
        }
        for (int bad : new int[] {-1, 5, 6, LEAST, MOST}) {
            refuses("as(0, " + bad + ")", Boundary::midst, x -> x.as(0, bad), OUTSIDE);
            refuses("as(5, " + bad + ")", Boundary::midst, x -> x.as(5, bad), OUTSIDE);
        }
        refuses("as(0, 5) without a street", RainLetters::new, x -> x.as(0, 5), UNKNOWN);
        RainLetters x = lay("d-,g-,g-,g-,g-,g-");
        due("as(0, 0)", x.as(0, 0), 0);
        due("as(0, 4)", x.as(0, 4), 0);
        due("as(5, 0)", x.as(5, 0), 5);
        due("as(5, 4)", x.as(5, 4), NONE);
    }

    private static void p7TheCastFails() {
        sentence("NONE: it is none such (the cast fails)");
        sentence("All are GUTTERS; a DAM is a SIEVE, too.");
        String[] such = {"10000", "11000", "10100", "10010", "10101"};
        for (int own = 0; own < 5; own++) {
            for (int gutter = 0; gutter < 6; gutter++) {
                String text = PLAIN.substring(0, 3 * gutter) + "gbstd".charAt(own) + PLAIN.substring(3 * gutter + 1);
                RainLetters x = lay(text);
                for (int kind = 0; kind < 5; kind++) {
                    due("as(" + gutter + ", " + kind + ") of " + text, x.as(gutter, kind),
                        such[own].charAt(kind) == '1' ? gutter : NONE);
                }
            }
        }
    }

    // ---- 8 word

    private static void p8Gutter() {
        sentence("UNKNOWN: gutter, place.");
        for (int bad : new int[] {-1, 6, LEAST, MOST}) {
            refuses("word(" + bad + ", 0)", Boundary::midst, x -> x.word(bad, 0), UNKNOWN);
        }
        refuses("word(5, 0) without a street", RainLetters::new, x -> x.word(5, 0), UNKNOWN);
        due("word(0, 0)", fall(lay(PLAIN), 0, "d").word(0, 0), 3);
        due("word(5, 0)", fall(lay(PLAIN), 5, "e").word(5, 0), 4);
    }

    private static void p8Place() {
        sentence("The LETTER at a place (from 0) of the WORD of a GUTTER.");
        for (int size : new int[] {0, 1, 2, 11, 12}) {
            for (int bad : new int[] {-1, size, size + 1, LEAST, MOST}) {
                refuses("word(2, " + bad + ") of " + size, () -> fall(lay(PLAIN), 2, TWELVE.substring(0, size)),
                    x -> x.word(2, bad), UNKNOWN);
            }
            RainLetters x = fall(lay(PLAIN), 2, TWELVE.substring(0, size));
            for (int place = 0; place < size; place++) {
                due("word(2, " + place + ") of " + size, x.word(2, place), place % 5);
            }
        }
    }

    private static void p8DriedAndShorter() {
        sentence("UNKNOWN: gutter, place.");
        RainLetters x = fall(lay(PLAIN), 2, "abc");
        x.dry();
        refuses("word(2, 0), dried", () -> {
            RainLetters y = fall(lay(PLAIN), 2, "abc");
            y.dry();
            return y;
        }, y -> y.word(2, 0), UNKNOWN);
        x.drop(2, 4);
        due("word(2, 0)", x.word(2, 0), 4);
        due("word(2, 1): what was there is gone", x.word(2, 1), UNKNOWN);
    }

    public static void main(String[] args) throws IOException, ReflectiveOperationException {
        run(BoundaryTextsTest.class, 1, 8);
    }
}
