import java.io.IOException;

/** The boundaries of promises 13 to 15, sentence by sentence: few turns, orders, the best drop. */
public final class BoundaryWouldBeTest extends Boundary {
    /** Where the word "ab" comes out of 0 as it is, and so many searches were done. */
    private static RainLetters sought(int fewTurns, int orders) {
        RainLetters x = find(lay(PLAIN), 0, "a");
        x.image();
        write(fall(x, 0, "ab"), "ab");
        for (int done = 0; done < fewTurns; done++) {
            x.fewTurns(0, 0);
        }
        for (int done = 0; done < orders; done++) {
            x.orders(0);
        }
        return x;
    }

    private static void dueTurns(RainLetters x, int gutter, String word, int few, int bits, int ways) {
        rewrite(x, word);
        due("how few for " + word + " at " + gutter, x.fewTurns(gutter, 0), few);
        due("which for " + word + " at " + gutter, x.fewTurns(gutter, 1), bits);
        due("ways for " + word + " at " + gutter, x.fewTurns(gutter, 2), ways);
    }

    private static void dueNoTurns(RainLetters x, int gutter, String word) {
        dueTurns(x, gutter, word, NONE, NONE, NONE);
    }

    // ---- 13 fewTurns

    private static void p13Gutter() {
        sentence("UNKNOWN: gutter; OUTSIDE: what; STATE: THE PAGE is no WORD, or fewTurns() was done 20 times.");
        for (int bad : new int[] {-1, 6, LEAST, MOST}) {
            refuses("fewTurns(" + bad + ", 0)", Boundary::midst, x -> x.fewTurns(bad, 0), UNKNOWN);
        }
        refuses("fewTurns(0, 0) without a street", () -> page("a"), x -> x.fewTurns(0, 0), UNKNOWN);
        due("fewTurns(0, 0)", write(fall(lay(PLAIN), 0, "a"), "a").fewTurns(0, 0), 0);
        due("fewTurns(5, 0)", write(fall(lay(PLAIN), 5, "a"), "a").fewTurns(5, 0), 0);
    }

    private static void p13What() {
        sentence("what = 0 how few, 1 which, as bits, 2 in how many ways");
        sentence("OUTSIDE: what");
        for (int bad : new int[] {-1, 3, LEAST, MOST}) {
            refuses("fewTurns(0, " + bad + ")", Boundary::midst, x -> x.fewTurns(0, bad), OUTSIDE);
        }
        dueTurns(fall(lay(PLAIN), 2, "a"), 4, "a", 1, 4, 1);
    }

    private static void p13NoWord() {
        sentence("STATE: THE PAGE is no WORD");
        sentence("FEW TURNS for the WORD on THE PAGE (one to eight LETTERS) at a GUTTER");
        for (String text : new String[] {"", "f", "`", "A", "abx", "abcdeabcd", TWENTY, PLAIN}) {
            refuses("of '" + text + "'", () -> rewrite(midst(), text), x -> x.fewTurns(0, 0), STATE);
        }
        String eight = "abcdeabc";
        dueTurns(fall(lay(PLAIN), 0, "e"), 0, "e", 0, 0, 1);
        dueTurns(fall(lay(PLAIN), 0, eight.substring(0, 7)), 0, eight.substring(0, 7), 0, 0, 1);
        dueTurns(fall(lay(PLAIN), 0, eight), 0, eight, 0, 0, 1);
        dueTurns(fall(lay(PLAIN), 0, eight), 5, eight, 1, 1, 1);
        refuses("nine of nine", () -> write(fall(lay(PLAIN), 0, "abcdeabcd"), "abcdeabcd"),
            x -> x.fewTurns(0, 0), STATE);
    }

    private static void p13Done20Times() {
        sentence("or fewTurns() was done 20 times");
        RainLetters x = sought(18, 0);
        due("the 19th", x.fewTurns(0, 0), 0);
        due("the 20th", x.fewTurns(0, 2), 1);
        due("count(9)", x.count(9), 20);
        for (int what = 0; what < 3; what++) {
            int asked = what;
            refuses("the 21st", () -> sought(20, 0), y -> y.fewTurns(0, asked), STATE);
        }
        refuses("the 21st, at 5", () -> sought(20, 3), y -> y.fewTurns(5, 0), STATE);
        due("orders() is counted by itself", x.orders(0), 2);
        rewrite(x, PLAIN).street();
        due("another street does not help", write(fall(x, 0, "a"), "a").fewTurns(0, 0), STATE);
    }

    private static void p13WhatIsDone() {
        sentence("or fewTurns() was done 20 times");
        sentence("they change nothing");
        RainLetters x = sought(19, 0);
        due("UNKNOWN", x.fewTurns(6, 0), UNKNOWN);
        due("OUTSIDE", x.fewTurns(0, 3), OUTSIDE);
        due("STATE", rewrite(x, "").fewTurns(0, 0), STATE);
        due("count(9): a refusal is not done", x.count(9), 19);
        due("the 20th: none", write(x, "c").fewTurns(0, 0), NONE);
        due("count(9): one without a way is done", x.count(9), 20);
        due("the 21st", rewrite(x, "ab").fewTurns(0, 0), STATE);
    }

    private static void p13AnImageDoesNotUndoIt() {
        sentence("or fewTurns() was done 20 times");
        RainLetters x = sought(19, 19);
        x.image();
        due("the 20th", x.fewTurns(0, 0), 0);
        due("the 20th", x.orders(0), 2);
        due("restore()", x.restore(), 2);
        due("the 21st", x.fewTurns(0, 0), STATE);
        due("the 21st", x.orders(0), STATE);
    }

    private static void p13WhichRefusalIsFirst() {
        sentence("Refusals, of several the first as told by each call");
        refuses("gutter and what", Boundary::midst, x -> x.fewTurns(6, 3), UNKNOWN);
        refuses("gutter and page", () -> rewrite(midst(), ""), x -> x.fewTurns(6, 0), UNKNOWN);
        refuses("what and page", () -> rewrite(midst(), ""), x -> x.fewTurns(0, 3), OUTSIDE);
        refuses("gutter and the 21st", () -> sought(20, 0), x -> x.fewTurns(-1, 0), UNKNOWN);
        refuses("what and the 21st", () -> sought(20, 0), x -> x.fewTurns(0, -1), OUTSIDE);
        refuses("page and the 21st", () -> rewrite(sought(20, 0), "x"), x -> x.fewTurns(0, 0), STATE);
        refuses("what without a street", () -> page("a"), x -> x.fewTurns(0, 3), UNKNOWN);
    }

    private static void p13NoneOrAllTurned() {
        sentence("how few GUTTERS must be TURNED, so that it flows OUT, and its WORD is this one: of all ways to flow");
        dueTurns(fall(lay(PLAIN), 3, "cd"), 3, "cd", 0, 0, 1);
        RainLetters six = lay(PLAIN);
        for (int gutter = 0; gutter < 6; gutter++) {
            six.drop(gutter, gutter % 5);
        }
        // Each of 0 to 4 must flow on, wherever to: 5 * 4 * 3 * 2 * 1 ways.
        dueTurns(six, 5, "abcdea", 5, 31, 120);
        RainLetters five = lay(PLAIN);
        for (int gutter = 1; gutter < 6; gutter++) {
            five.drop(gutter, gutter % 5);
        }
        dueTurns(five, 5, "bcdea", 4, 30, 24);
        due("about(0, 1): nothing is turned by it", six.about(0, 1), NONE);
        due("count(2)", six.count(2), 6);
    }

    private static void p13ItMustFlowOut() {
        sentence("so that it flows OUT, and its WORD is this one");
        RainLetters x = fall(lay(CHAIN), 0, "ab");
        dueTurns(x, 5, "ab", 0, 0, 1);
        dueTurns(x, 4, "ab", 1, 16, 1);
        dueTurns(x, 0, "ab", 1, 1, 1);
        due("count(9)", x.count(9), 9);
    }

    private static void p13ThereIsNone() {
        sentence("NONE: there is none.");
        dueNoTurns(lay(PLAIN), 0, "a");
        dueNoTurns(fall(lay(PLAIN), 0, "ab"), 0, "a");
        dueNoTurns(fall(lay(PLAIN), 0, "ab"), 0, "abc");
        dueNoTurns(fall(lay(PLAIN), 0, "ab"), 0, "ba");
        dueNoTurns(fall(lay(PLAIN), 1, "a"), 0, "a");
        dueNoTurns(fall(lay(PLAIN), 0, TWELVE), 0, TWELVE.substring(0, 8));
        dueNoTurns(fall(lay("b-,g-,g-,g-,g-,g-"), 0, "a"), 0, "a");
    }

    private static void p13TwelveDrops() {
        sentence("all THE RAIN falling again in its order");
        // Of twelve, the thief loses four vowels: just eight letters are left.
        dueTurns(fall(lay("t-,g-,g-,g-,g-,g-"), 0, "abcdabcdabce"), 0, "bcdbcdbc", 0, 0, 1);
        dueNoTurns(fall(lay("t-,g-,g-,g-,g-,g-"), 0, "abcdabcdabcb"), 0, "bcdbcdbc");
    }

    private static void p13TheLeastBits() {
        sentence("which GUTTERS: of like ones the least bits; in how many ways, by just so few");
        // "b" alone at 5: "a" is led past by 0, or by 1, each to 3, to 4 or OUT.
        RainLetters x = fall(fall(lay("g1,g5,g5,g-,g-,g-"), 0, "a"), 2, "b");
        dueTurns(x, 5, "b", 1, 1, 6);
        // "a" alone at 5: only 2 can be turned for "b", to 3, to 4 or OUT.
        dueTurns(x, 5, "a", 1, 4, 3);
        // Both past 5 but "c": 2 to 3, to 4 or OUT, and 0, or 1, to one of these or to 2: bits 5 and 6, 12 ways each.
        RainLetters y = fall(fall(fall(lay("g1,g5,g5,g-,g-,g-"), 0, "a"), 2, "b"), 5, "c");
        dueTurns(y, 5, "c", 2, 5, 24);
    }

    private static void p13FromADriedStreet() {
        sentence("(As it would be, from a DRIED STREET, all THE RAIN falling again in its order:)");
        RainLetters x = fall(lay("s-,g-,g-,g-,g-,g-"), 0, "a");
        dueTurns(x, 0, "a", 0, 0, 1);
        RainLetters y = fall(lay(PLAIN), 0, "a");
        y.turn(0, 5);
        dueTurns(y, 5, "a", 0, 0, 1);
        dueTurns(y, 0, "a", 1, 1, 1);
        dueWord(y, 0, "a");
    }

    // ---- 14 orders

    private static void p14Gutter() {
        sentence("UNKNOWN: gutter; STATE: it does not flow OUT, or orders() was done 20 times.");
        for (int bad : new int[] {-1, 6, LEAST, MOST}) {
            refuses("orders(" + bad + ")", Boundary::midst, x -> x.orders(bad), UNKNOWN);
            refuses("orders(" + bad + "), the 21st", () -> sought(0, 20), x -> x.orders(bad), UNKNOWN);
        }
        refuses("orders(5) without a street", RainLetters::new, x -> x.orders(5), UNKNOWN);
        due("orders(0)", fall(lay(PLAIN), 0, "ab").orders(0), 2);
        due("orders(5)", fall(lay(PLAIN), 5, "ab").orders(5), 2);
    }

    private static RainLetters chained() {
        RainLetters x = find(lay(CHAIN), 5, "a");
        x.image();
        return write(fall(x, 0, "ab"), "ab");
    }

    private static void p14ItDoesNotFlowOut() {
        sentence("STATE: it does not flow OUT");
        for (int at = 0; at < 5; at++) {
            int gutter = at;
            refuses("orders(" + gutter + ") of a chain", () -> chained(), x -> x.orders(gutter), STATE);
        }
        RainLetters x = fall(lay(CHAIN), 0, "ab");
        due("orders(5) of a chain", x.orders(5), 2);
        x.turn(0, NONE);
        due("orders(0), turned OUT", x.orders(0), 2);
        due("orders(5): by how it flows now", x.orders(5), 1);
        x.turn(0, 5);
        due("orders(0), turned into 5", x.orders(0), STATE);
        due("count(10)", x.count(10), 3);
    }

    private static void p14Done20Times() {
        sentence("or orders() was done 20 times");
        RainLetters x = sought(0, 18);
        due("the 19th", x.orders(0), 2);
        due("UNKNOWN", x.orders(6), UNKNOWN);
        x.turn(1, 2);
        due("STATE", x.orders(1), STATE);
        due("count(10): a refusal is not done", x.count(10), 19);
        due("the 20th", x.orders(0), 2);
        due("count(10)", x.count(10), 20);
        refuses("the 21st", () -> sought(0, 20), y -> y.orders(0), STATE);
        refuses("the 21st, at 5", () -> sought(3, 20), y -> y.orders(5), STATE);
        due("fewTurns() is counted by itself", x.fewTurns(0, 0), 0);
        rewrite(x, PLAIN).street();
        due("another street does not help", x.orders(0), STATE);
    }

    private static void dueOrders(String street, int gutter, String letters, int want) {
        RainLetters x = fall(lay(street), gutter, letters);
        due("orders(" + gutter + ") of " + letters + " on " + street, x.orders(gutter), want);
        due("count(2)", x.count(2), letters.length());
    }

    private static void p14NoDropToSix() {
        sentence("if the first six DROPS of it (or as many as there are, nothing behind them) fall in any order");
        dueOrders(PLAIN, 0, "", 1);
        dueOrders(PLAIN, 0, "a", 1);
        dueOrders(PLAIN, 0, "ab", 2);
        dueOrders(PLAIN, 0, "abc", 6);
        dueOrders(PLAIN, 0, "abcd", 24);
        dueOrders(PLAIN, 0, "abcde", 120);
        dueOrders(PLAIN, 0, "abcdea", 360);
    }

    private static void p14NothingBehindSix() {
        sentence("(or as many as there are, nothing behind them)");
        String sieve = "s-,g-,g-,g-,g-,g-";
        // ba, aba, ab: a seventh "a" behind them would make the last two alike.
        dueOrders(sieve, 0, "aaaab", 3);
        dueOrders(sieve, 0, "aaaaab", 3);
        dueOrders(sieve, 0, "aaaaaba", 3);
        dueOrders(sieve, 0, "aaaaabababab", 3);
        // The seventh is none of those that fall in any order.
        dueOrders(sieve, 0, "aaaaaab", 1);
        dueOrders(PLAIN, 0, "aaaaaabcdeab", 1);
    }

    private static void p14UnlikeWords() {
        sentence("in how many unlike WORDS of a GUTTER, that flows OUT, THE RAIN can end");
        dueOrders(PLAIN, 0, "aaaaaa", 1);
        dueOrders(PLAIN, 0, "aaabbb", 20);
        dueOrders("b-,g-,g-,g-,g-,g-", 0, "a", 1);
        dueOrders("b-,g-,g-,g-,g-,g-", 0, "ab", 2);
        dueOrders("t-,g-,g-,g-,g-,g-", 0, "aeaeae", 1);
        dueOrders("d-,g-,g-,g-,g-,g-", 0, "ab", 2);
        dueOrders(PLAIN, 0, "eeeeee", 1);
        dueOrders(PLAIN, 0, "eeeeed", 6);
        for (String two : new String[] {"ab", "bc", "cd", "de", "ae"}) {
            dueOrders("b-,g-,g-,g-,g-,g-", 0, two, 2);
        }
        // The dam lets e, ee or b through, and the bowl nothing, e or nothing.
        due("words of unlike lengths", fall(lay("d1,b-,g-,g-,g-,g-"), 0, "eeb").orders(1), 2);
        RainLetters x = fall(fall(lay(PLAIN), 0, "abc"), 1, "de");
        due("orders(0): the others don't matter", x.orders(0), 6);
        due("orders(1)", x.orders(1), 2);
        due("orders(2): none but the empty word", x.orders(2), 1);
    }

    // ---- 15 bestDrop

    private static void p15Letter() {
        sentence("OUTSIDE: letter; STATE: no STREET; FULL: 12 have fallen.");
        for (int bad : new int[] {-1, 5, LEAST, MOST}) {
            refuses("bestDrop(" + bad + ")", Boundary::midst, x -> x.bestDrop(bad), OUTSIDE);
            refuses("bestDrop(" + bad + ") without a street", RainLetters::new, x -> x.bestDrop(bad), OUTSIDE);
            refuses("bestDrop(" + bad + ") behind 12", Boundary::soaked, x -> x.bestDrop(bad), OUTSIDE);
        }
        int[] best = {2, 1, 1, 1, 2};
        for (int letter = 0; letter < 5; letter++) {
            due("bestDrop(" + letter + ")", lay("b-,t-,g-,g-,g-,g-").bestDrop(letter), best[letter]);
        }
    }

    private static void p15NoStreet() {
        sentence("STATE: no STREET");
        for (int at = 0; at < 5; at++) {
            int letter = at;
            refuses("bestDrop(" + letter + ")", () -> page("ab"), x -> x.bestDrop(letter), STATE);
            due("bestDrop(" + letter + ")", lay(PLAIN).bestDrop(letter), 0);
        }
    }

    private static void p15TwelveHaveFallen() {
        sentence("FULL: 12 have fallen");
        RainLetters x = fall(lay(PLAIN), 0, TWELVE.substring(0, 10));
        due("behind 10", x.bestDrop(0), 0);
        x.drop(0, 0);
        due("behind 11", x.bestDrop(0), 0);
        due("count(2)", x.count(2), 11);
        refuses("behind 12", () -> fall(lay(PLAIN), 0, TWELVE), y -> y.bestDrop(0), FULL);
        refuses("behind 12", Boundary::soaked, y -> y.bestDrop(4), FULL);
        x.drop(0, 0);
        x.dry();
        due("dried", x.bestDrop(0), 0);
    }

    private static void p15TheLeast() {
        sentence("so that most LETTERS are OUT of all together: the least");
        due("all let it out", lay(PLAIN).bestDrop(0), 0);
        due("none does", lay("b-,b-,b-,b-,b-,b-").bestDrop(0), 0);
        String text = PLAIN;
        for (int best = 1; best < 6; best++) {
            text = text.substring(0, 3 * best - 3) + "b" + text.substring(3 * best - 2);
            due(text, lay(text).bestDrop(0), best);
        }
        due("the last alone lets a vowel out", lay("t-,t-,t-,t-,t-,g-").bestDrop(4), 5);
        due("all let this one out", lay("t-,t-,t-,t-,t-,g-").bestDrop(3), 0);
    }

    private static void p15BehindTheRain() {
        sentence("into which GUTTER one more DROP had best fall (behind THE RAIN)");
        RainLetters x = fall(lay("s-,b-,d-,g-,g-,g-"), 0, "a");
        due("the same came to the sieve ahead", x.bestDrop(0), 2);
        due("another", x.bestDrop(1), 0);
        x.drop(1, 0);
        due("the bowl is full now", x.bestDrop(0), 1);
        RainLetters y = fall(lay("d-,b-,t-,s-,g-,g-"), 0, "a");
        due("the dam loses the second", y.bestDrop(0), 3);
        y.drop(0, 1);
        due("not the third", y.bestDrop(0), 0);
        due("but what is the same", y.bestDrop(1), 2);
    }

    private static void p15FromADriedStreet() {
        sentence("(As it would be, from a DRIED STREET, all THE RAIN falling again in its order:)");
        RainLetters x = fall(lay("g-,s-,g-,g-,g-,g-"), 0, "a");
        due("it ran OUT", x.bestDrop(0), 0);
        x.turn(0, 1);
        due("it would have come to the sieve", x.bestDrop(0), 2);
        due("another", x.bestDrop(1), 0);
        dueWord(x, 0, "a");
        due("about(1, 2): nothing runs by it", x.about(1, 2), 0);
    }

    public static void main(String[] args) throws IOException, ReflectiveOperationException {
        run(BoundaryWouldBeTest.class, 13, 15);
    }
}
