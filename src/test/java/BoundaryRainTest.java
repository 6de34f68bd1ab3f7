import java.io.IOException;

/** The boundaries of promises 9 to 12, sentence by sentence: drops, the rain, dried and turned. */
public final class BoundaryRainTest extends Boundary {
    /** So many drops, an image of none, a word found, a letter on the page. */
    private static RainLetters fallen(int drops) {
        RainLetters x = find(lay(PLAIN), 5, "");
        x.image();
        return write(fall(x, 0, TWELVE.substring(0, drops)), "a");
    }

    /** Drops into one gutter, with the answer to each: one sign is a gutter, '.' is NONE. */
    private static void dueDrops(String street, int gutter, String letters, String answers) {
        RainLetters x = lay(street);
        for (int i = 0; i < letters.length(); i++) {
            int want = answers.charAt(i) == '.' ? NONE : answers.charAt(i) - '0';
            due("drop " + i + " of " + letters + " into " + gutter + " of " + street,
                x.drop(gutter, letters.charAt(i) - 'a'), want);
        }
    }

    // ---- 9 drop

    private static void p9Gutter() {
        sentence("UNKNOWN: gutter; OUTSIDE: letter (0 to 4); FULL.");
        for (int bad : new int[] {-1, 6, LEAST, MOST}) {
            refuses("drop(" + bad + ", 0)", Boundary::midst, x -> x.drop(bad, 0), UNKNOWN);
        }
        refuses("drop(5, 4) without a street", RainLetters::new, x -> x.drop(5, 4), UNKNOWN);
        due("drop(0, 0)", lay(PLAIN).drop(0, 0), 0);
        due("drop(5, 0)", lay(PLAIN).drop(5, 0), 5);
    }

    private static void p9Letter() {
        sentence("OUTSIDE: letter (0 to 4)");
        for (int bad : new int[] {-1, 5, LEAST, MOST}) {
            refuses("drop(0, " + bad + ")", Boundary::midst, x -> x.drop(0, bad), OUTSIDE);
            refuses("drop(5, " + bad + ")", Boundary::midst, x -> x.drop(5, bad), OUTSIDE);
        }
        RainLetters x = lay(PLAIN);
        for (int letter = 0; letter < 5; letter++) {
            due("drop(0, " + letter + ")", x.drop(0, letter), 0);
            due("word(0, " + letter + ")", x.word(0, letter), letter);
        }
    }

    private static void p9TwelveFallAtMost() {
        sentence("12 DROPS fall at most");
        RainLetters x = fallen(10);
        due("the 11th", x.drop(0, 0), 0);
        due("the 12th", x.drop(0, 1), 0);
        refuses("the 13th", () -> fallen(12), y -> y.drop(0, 0), FULL);
        refuses("the 13th, elsewhere", () -> fallen(12), y -> y.drop(5, 4), FULL);
        refuses("the 13th where all was lost", () -> fall(lay("t-,g-,g-,g-,g-,g-"), 0, "aaaaaaaaaaaa"),
            y -> y.drop(1, 0), FULL);
        refuses("the 13th with an image of eleven", Boundary::soaked, y -> y.drop(1, 1), FULL);
    }

    private static void p9RoomAgain() {
        sentence("12 DROPS fall at most");
        RainLetters dried = fallen(12);
        dried.dry();
        due("the first behind dry()", dried.drop(0, 0), 0);
        RainLetters back = soaked();
        back.restore();
        due("the 12th behind restore()", back.drop(4, 0), 4);
        due("the 13th", back.drop(4, 0), FULL);
        RainLetters other = rewrite(fallen(12), PLAIN);
        other.street();
        due("the first of another street", other.drop(0, 0), 0);
    }

    private static void p9WhichRefusalIsFirst() {
        sentence("Refusals, of several the first as told by each call");
        refuses("gutter and letter", Boundary::midst, x -> x.drop(6, 5), UNKNOWN);
        refuses("gutter and full", Boundary::soaked, x -> x.drop(-1, 0), UNKNOWN);
        refuses("gutter, letter and full", Boundary::soaked, x -> x.drop(-1, -1), UNKNOWN);
        refuses("letter and full", Boundary::soaked, x -> x.drop(0, 5), OUTSIDE);
        refuses("letter without a street", RainLetters::new, x -> x.drop(0, 5), UNKNOWN);
    }

    private static void p9NoneCame() {
        sentence("out of which GUTTER a LETTER came by it (NONE: none did)");
        RainLetters x = lay("b-,s-,t-,d-,g5,g-");
        due("into an empty bowl", x.drop(0, 0), NONE);
        due("into a full one", x.drop(0, 1), 0);
        due("the first to a sieve", x.drop(1, 0), 1);
        due("the same", x.drop(1, 0), NONE);
        due("a vowel to a thief", x.drop(2, 4), NONE);
        due("none such", x.drop(2, 3), 2);
        due("the first to a dam", x.drop(3, 0), 3);
        due("the second", x.drop(3, 1), NONE);
        due("where another flows", x.drop(4, 0), 5);
    }

    private static void p9ABowl() {
        sentence("A BOWL that is empty keeps what comes; one that is full lets the LETTER through that it had, "
            + "and keeps that which comes.");
        dueDrops("b-,g-,g-,g-,g-,g-", 0, TWELVE, ".00000000000");
        RainLetters x = fall(lay("b-,g-,g-,g-,g-,g-"), 0, TWELVE);
        dueWord(x, 0, "abcdeabcdea");
        due("about(0, 3)", x.about(0, 3), 1);
        due("about(0, 5): none is lost", x.about(0, 5), 0);
        dueDrops("b-,g-,g-,g-,g-,g-", 0, "aaa", ".00");
        dueDrops("b1,b2,b3,b4,b5,b-", 0, "abcdeab", "......5");
        RainLetters six = fall(lay("b1,b2,b3,b4,b5,b-"), 0, "abcdeab");
        dueWord(six, 5, "a");
        due("about(5, 3)", six.about(5, 3), 1);
        due("about(0, 3)", six.about(0, 3), 1);
        due("about(1, 3)", six.about(1, 3), 0);
    }

    private static void p9ASieve() {
        sentence("A SIEVE lets through what is not the same as the LETTER that came to it ahead "
            + "(that which is the same is lost).");
        dueDrops("s-,g-,g-,g-,g-,g-", 0, "aaabbaccccaa", "0..0.00...0.");
        dueDrops("s-,g-,g-,g-,g-,g-", 0, "aaaaaaaaaaaa", "0...........");
        dueDrops("s-,g-,g-,g-,g-,g-", 0, TWELVE, "000000000000");
        RainLetters x = lay("g2,g2,s-,g-,g-,g-");
        due("by way of 0", x.drop(0, 3), 2);
        due("the same by way of 1", x.drop(1, 3), NONE);
        due("about(2, 5)", x.about(2, 5), 1);
        due("another by way of 1", x.drop(1, 4), 2);
        dueWord(x, 2, "de");
    }

    private static void p9AThief() {
        sentence("A THIEF loses vowels, and lets all others through.");
        sentence("(0 to 4; 0 and 4, \"a\" and \"e\", are vowels)");
        dueDrops("t-,g-,g-,g-,g-,g-", 0, "abcdeeddaa", ".000..00..");
        RainLetters x = fall(lay("t-,g-,g-,g-,g-,g-"), 0, "abcdeeddaa");
        dueWord(x, 0, "bcddd");
        due("about(0, 5)", x.about(0, 5), 5);
    }

    private static void p9ADam() {
        sentence("A DAM is a SIEVE that loses the second, the fourth, and so on, of those which a SIEVE would "
            + "let through.");
        dueDrops("d-,g-,g-,g-,g-,g-", 0, "abababababab", "0.0.0.0.0.0.");
        dueDrops("d-,g-,g-,g-,g-,g-", 0, "aabbccddee", "0...0...0.");
        dueDrops("d-,g-,g-,g-,g-,g-", 0, "aaaaaaaaaaaa", "0...........");
        RainLetters x = fall(lay("d-,g-,g-,g-,g-,g-"), 0, "aab");
        due("about(0, 3): what it lost came ahead, too", x.about(0, 3), 1);
        due("the same as that", x.drop(0, 1), NONE);
        due("the third of those", x.drop(0, 0), 0);
        due("about(0, 5)", x.about(0, 5), 3);
        dueWord(x, 0, "aa");
    }

    private static void p9ThroughAllSix() {
        sentence("runs through it, then through that into which this flows, and so on, until it is OUT, or stays");
        RainLetters x = lay(CHAIN);
        for (int gutter = 5; gutter >= 0; gutter--) {
            due("drop(" + gutter + ", 1)", x.drop(gutter, 1), 5);
        }
        for (int gutter = 0; gutter < 6; gutter++) {
            due("about(" + gutter + ", 2)", x.about(gutter, 2), gutter + 1);
        }
        due("about(5, 4)", x.about(5, 4), 6);
        due("about(4, 4)", x.about(4, 4), 0);
        RainLetters alone = fall(lay(PLAIN), 0, "a");
        due("about(0, 2)", alone.about(0, 2), 1);
        due("about(1, 2): it is out ahead of it", alone.about(1, 2), 0);
    }

    // ---- 10 rain

    private static void p10Drop() {
        sentence("UNKNOWN; OUTSIDE.");
        for (int size : new int[] {0, 1, 11, 12}) {
            for (int bad : new int[] {-1, size, size + 1, LEAST, MOST}) {
                refuses("rain(" + bad + ", 0) of " + size, () -> fallen(size), x -> x.rain(bad, 0), UNKNOWN);
                refuses("rain(" + bad + ", 2) of " + size, () -> fallen(size), x -> x.rain(bad, 2), UNKNOWN);
            }
            if (size > 0) {
                due("rain(0, 1) of " + size, fallen(size).rain(0, 1), 0);
                due("the last of " + size, fallen(size).rain(size - 1, 1), (size - 1) % 5);
            }
        }
        refuses("rain(0, 1) without a street", RainLetters::new, x -> x.rain(0, 1), UNKNOWN);
        refuses("rain(0, 2) without a street", RainLetters::new, x -> x.rain(0, 2), UNKNOWN);
    }

    private static void p10What() {
        sentence("what = 0 its GUTTER, 1 its LETTER. UNKNOWN; OUTSIDE.");
        for (int bad : new int[] {-1, 2, LEAST, MOST}) {
            refuses("rain(0, " + bad + ")", Boundary::midst, x -> x.rain(0, bad), OUTSIDE);
        }
        RainLetters x = lay(CHAIN);
        x.drop(5, 0);
        x.drop(0, 4);
        due("rain(0, 0)", x.rain(0, 0), 5);
        due("rain(0, 1)", x.rain(0, 1), 0);
        due("rain(1, 0): where it fell, not where it came out", x.rain(1, 0), 0);
        due("rain(1, 1)", x.rain(1, 1), 4);
    }

    private static void p10InItsOrder() {
        sentence("(what falls is kept in its order: THE RAIN)");
        RainLetters x = lay("t1,s2,b3,d4,b5,t-");
        for (int drop = 0; drop < 12; drop++) {
            x.drop(drop % 6, (drop * 2) % 5);
        }
        x.drop(0, 0);
        for (int drop = 0; drop < 12; drop++) {
            due("rain(" + drop + ", 0)", x.rain(drop, 0), drop % 6);
            due("rain(" + drop + ", 1)", x.rain(drop, 1), (drop * 2) % 5);
        }
        x.dry();
        due("rain(0, 0), dried", x.rain(0, 0), UNKNOWN);
    }

    // ---- 11 dry

    private static void p11NoStreet() {
        sentence("STATE: no STREET.");
        refuses("dry()", RainLetters::new, x -> x.dry(), STATE);
        refuses("dry() ahead of street()", () -> page(PLAIN), x -> x.dry(), STATE);
        due("dry()", lay(PLAIN).dry(), 0);
    }

    private static void p11HowManyHadFallen() {
        sentence("DRIED: how many DROPS had fallen.");
        for (int size : new int[] {0, 1, 11, 12}) {
            RainLetters x = fall(lay(PLAIN), 0, TWELVE.substring(0, size));
            due("dry() of " + size, x.dry(), size);
            due("dry() again", x.dry(), 0);
            due("the digest is that of a new street", x.digest(), lay(PLAIN).digest());
        }
    }

    private static void p11AllIsEmpty() {
        sentence("DRIED: all is empty, no DROP has fallen, nothing came ahead, no WORD has LETTERS.");
        RainLetters x = lay(OPEN);
        for (int gutter = 0; gutter < 6; gutter++) {
            fall(x, gutter, "ab");
        }
        due("dry()", x.dry(), 12);
        for (int gutter = 0; gutter < 6; gutter++) {
            due("about(" + gutter + ", 2)", x.about(gutter, 2), 0);
            due("about(" + gutter + ", 3)", x.about(gutter, 3), NONE);
            due("about(" + gutter + ", 4)", x.about(gutter, 4), 0);
            due("about(" + gutter + ", 5)", x.about(gutter, 5), 0);
            due("word(" + gutter + ", 0)", x.word(gutter, 0), UNKNOWN);
        }
        due("rain(0, 0)", x.rain(0, 0), UNKNOWN);
        for (int what = 2; what <= 5; what++) {
            due("count(" + what + ")", x.count(what), 0);
        }
        due("the bowl is empty", x.drop(1, 2), NONE);
        due("b came to the sieve ahead of it no more", x.drop(2, 1), 2);
        due("the dam counts anew", x.drop(4, 1), 4);
        due("and goes on", x.drop(4, 0), NONE);
    }

    private static void p11WhatStays() {
        sentence("DRIED: all is empty, no DROP has fallen, nothing came ahead, no WORD has LETTERS.");
        RainLetters x = midst();
        due("dry()", x.dry(), 7);
        due("about(4, 1): it stays turned", x.about(4, 1), 5);
        due("count(6): what is found stays", x.count(6), 1);
        due("count(7): the page stays", x.count(7), 1);
        due("count(8)", x.count(8), 1);
        due("count(9)", x.count(9), 1);
        due("count(10)", x.count(10), 1);
        due("restore(): the image stays", x.restore(), 5);
        dueWord(x, 0, "a");
    }

    // ---- 12 turn

    private static void p12Gutter() {
        sentence("UNKNOWN: gutter; OUTSIDE: to (NONE, or greater than its number, to 5).");
        for (int bad : new int[] {-1, 6, LEAST, MOST}) {
            refuses("turn(" + bad + ", NONE)", Boundary::midst, x -> x.turn(bad, NONE), UNKNOWN);
            refuses("turn(" + bad + ", 5)", Boundary::midst, x -> x.turn(bad, 5), UNKNOWN);
            refuses("turn(" + bad + ", 6): gutter and to", Boundary::midst, x -> x.turn(bad, 6), UNKNOWN);
        }
        refuses("turn(0, 1) without a street", RainLetters::new, x -> x.turn(0, 1), UNKNOWN);
        refuses("turn(0, 0) without a street", RainLetters::new, x -> x.turn(0, 0), UNKNOWN);
        due("turn(0, 5)", lay(PLAIN).turn(0, 5), NONE);
        due("turn(5, NONE)", lay(PLAIN).turn(5, NONE), NONE);
    }

    private static void p12To() {
        sentence("OUTSIDE: to (NONE, or greater than its number, to 5)");
        for (int at = 0; at < 6; at++) {
            int gutter = at;
            for (int bad : new int[] {-2, -101, 6, 7, LEAST, MOST}) {
                refuses("turn(" + gutter + ", " + bad + ")", Boundary::midst, x -> x.turn(gutter, bad), OUTSIDE);
            }
            for (int to = 0; to < 6; to++) {
                int where = to;
                String call = "turn(" + gutter + ", " + to + ")";
                if (to <= gutter) {
                    refuses(call, Boundary::midst, x -> x.turn(gutter, where), OUTSIDE);
                } else {
                    RainLetters x = lay(PLAIN);
                    due(call, x.turn(gutter, to), NONE);
                    due("about(" + gutter + ", 1)", x.about(gutter, 1), to);
                    due("turn(" + gutter + ", NONE)", x.turn(gutter, NONE), to);
                    due("about(" + gutter + ", 1)", x.about(gutter, 1), NONE);
                }
            }
        }
    }

    private static void p12WhereItFlowed() {
        sentence("where it flowed (NONE: OUT)");
        RainLetters x = lay(CHAIN);
        due("turn(0, 1): to where it flows", x.turn(0, 1), 1);
        due("turn(0, 5)", x.turn(0, 5), 1);
        due("turn(0, NONE)", x.turn(0, NONE), 5);
        due("turn(0, NONE), once more", x.turn(0, NONE), NONE);
        due("turn(0, 1)", x.turn(0, 1), NONE);
        due("turn(4, NONE)", x.turn(4, NONE), 5);
        due("turn(4, 5)", x.turn(4, 5), NONE);
        due("the digest is that of no turn", x.digest(), lay(CHAIN).digest());
    }

    private static void p12WhatHasFallenStays() {
        sentence("TURNED: a GUTTER flows somewhere else (what has fallen stays as it ran).");
        RainLetters x = fall(lay("g1,s-,b-,g-,g-,g-"), 0, "ab");
        due("turn(0, 2)", x.turn(0, 2), 1);
        dueWord(x, 1, "ab");
        due("about(1, 2)", x.about(1, 2), 2);
        due("about(1, 3)", x.about(1, 3), 1);
        due("about(2, 2)", x.about(2, 2), 0);
        due("what falls then runs as it is turned", x.drop(0, 2), NONE);
        due("about(2, 3)", x.about(2, 3), 2);
        due("turn(1, 2): its word stays", x.turn(1, 2), NONE);
        dueWord(x, 1, "ab");
        due("count(3)", x.count(3), 2);
        due("turn(0, 1)", x.turn(0, 1), 2);
        due("what came ahead stays: b is lost", x.drop(0, 1), NONE);
        due("about(1, 5)", x.about(1, 5), 1);
        due("through the sieve to the bowl, and c is out", x.drop(0, 0), 2);
        dueWord(x, 2, "c");
    }

    public static void main(String[] args) throws IOException, ReflectiveOperationException {
        run(BoundaryRainTest.class, 9, 12);
    }
}
