/** What the document asks of each call, worked out by hand, promise by promise. */
public final class PromiseTest {
    private static final int NONE = -1, UNKNOWN = -101, OUTSIDE = -102, STATE = -103, FULL = -104;
    private static final int LEAST = Integer.MIN_VALUE, MOST = Integer.MAX_VALUE;
    private static final String OPEN = "g-,b-,s-,t-,d-,g-";
    private static final String CHAIN = "g1,g2,g3,g4,g5,g-";

    private static int wrong = 0;

    private static void due(int promise, String call, long got, long want) {
        if (got != want) {
            wrong++;
            System.out.println("promise " + promise + ": " + call + " answered " + got + ", due is " + want);
        }
    }

    private static RainLetters write(RainLetters x, String text) {
        for (int i = 0; i < text.length(); i++) {
            x.letter(text.charAt(i));
        }
        return x;
    }

    private static RainLetters page(String text) {
        return write(new RainLetters(), text);
    }

    private static RainLetters lay(String text) {
        RainLetters x = page(text);
        x.street();
        return x;
    }

    private static RainLetters fall(RainLetters x, int gutter, String letters) {
        for (int i = 0; i < letters.length(); i++) {
            x.drop(gutter, letters.charAt(i) - 'a');
        }
        return x;
    }

    private static String word(RainLetters x, int gutter) {
        StringBuilder text = new StringBuilder();
        for (int place = 0; x.word(gutter, place) >= 0; place++) {
            text.append((char) ('a' + x.word(gutter, place)));
        }
        return text.toString();
    }

    private static void dueWord(int promise, RainLetters x, int gutter, String want) {
        due(promise, "word of " + gutter + " is " + word(x, gutter) + ", due is " + want + ": alike",
            word(x, gutter).equals(want) ? 1 : 0, 1);
    }

    private static void found(RainLetters x, int gutter, String text) {
        x.blank();
        write(x, text).found(gutter);
    }

    private static int few(RainLetters x, int gutter, String text, int what) {
        x.blank();
        return write(x, text).fewTurns(gutter, what);
    }

    private static long mixAll(long... numbers) {
        long h = 821;
        for (long number : numbers) {
            h = 31 * h + number;
        }
        return h;
    }

    private static void p1NewObject() {
        RainLetters x = new RainLetters();
        for (int what = 0; what <= 10; what++) {
            due(1, "count(" + what + ")", x.count(what), 0);
        }
        due(1, "about(0, 0)", x.about(0, 0), UNKNOWN);
        due(1, "as(0, 0)", x.as(0, 0), UNKNOWN);
        due(1, "word(0, 0)", x.word(0, 0), UNKNOWN);
        due(1, "drop(0, 0)", x.drop(0, 0), UNKNOWN);
        due(1, "rain(0, 0)", x.rain(0, 0), UNKNOWN);
        due(1, "turn(0, 1)", x.turn(0, 1), UNKNOWN);
        due(1, "found(0)", x.found(0), UNKNOWN);
        due(1, "kindOf(0)", x.kindOf(0), UNKNOWN);
        due(1, "letterOf(0)", x.letterOf(0), UNKNOWN);
        due(1, "fewTurns(0, 0)", x.fewTurns(0, 0), UNKNOWN);
        due(1, "orders(0)", x.orders(0), UNKNOWN);
        due(1, "forget()", x.forget(), 0);
        due(1, "blank()", x.blank(), 0);
        due(1, "digest()", x.digest(), mixAll(0, 0, 0, 0, 0, 0, 0, 0, 0, 0, 0));
    }

    private static void p2Letter() {
        RainLetters x = new RainLetters();
        for (int code : new int[] {0, 127, -1, LEAST, MOST}) {
            due(2, "letter(" + code + ")", x.letter(code), OUTSIDE);
        }
        due(2, "letter(1)", x.letter(1), 1);
        due(2, "letter(126)", x.letter(126), 2);
        for (int size = 3; size <= 20; size++) {
            due(2, "letter(97)", x.letter(97), size);
        }
        due(2, "letter(97) on a full page", x.letter(97), FULL);
        due(2, "letter(0) on a full page", x.letter(0), OUTSIDE);
        due(2, "count(7)", x.count(7), 20);
    }

    private static void p3Blank() {
        RainLetters x = page("abc");
        due(3, "blank()", x.blank(), 3);
        due(3, "count(7)", x.count(7), 0);
        due(3, "blank()", x.blank(), 0);
        due(3, "letter(98)", x.letter(98), 1);
    }

    private static void dueFault(String text, int sort, int want) {
        RainLetters x = page(text);
        due(4, "fault(" + sort + ") of " + text, x.fault(sort), want);
        due(4, "count(7) behind it", x.count(7), text.length());
    }

    private static void p4Fault() {
        dueFault("", 0, 0);
        dueFault("g1,b2", 0, 5);
        dueFault(OPEN, 0, 17);
        dueFault(CHAIN, 0, 17);
        dueFault(OPEN + ",", 0, 17);
        dueFault(OPEN + "ggg", 0, 17);
        dueFault("x", 0, 0);
        dueFault("G", 0, 0);
        dueFault("g0", 0, 1);
        dueFault("g6", 0, 1);
        dueFault("g,", 0, 1);
        dueFault("g1;", 0, 2);
        dueFault("g1,b1", 0, 4);
        dueFault("g1,b0", 0, 4);
        dueFault("g1,b5", 0, 5);
        dueFault("g-,g-,g-,g-,g4", 0, 13);
        dueFault("g-,g-,g-,g-,g-,g5", 0, 16);
        dueFault("", 1, 0);
        dueFault("abcde", 1, 5);
        dueFault("abcdef", 1, 5);
        dueFault("a`", 1, 1);
        dueFault("abcdeabc", 1, 8);
        dueFault("abcdeabcd", 1, 8);
        dueFault(OPEN, 1, 0);
        for (int sort : new int[] {-1, 2, LEAST, MOST}) {
            due(4, "fault(" + sort + ")", page("g").fault(sort), OUTSIDE);
        }
    }

    private static void p5Street() {
        due(5, "street() of nothing", new RainLetters().street(), STATE);
        RainLetters x = page("g-,b-,s-,t-,d-,g");
        due(5, "street() cut short", x.street(), STATE);
        due(5, "count(7): the page stays", x.count(7), 16);
        due(5, "letter", x.letter('-'), 17);
        due(5, "street()", x.street(), 6);
        due(5, "count(7)", x.count(7), 0);
        due(5, "street() too long", page(CHAIN + ",").street(), STATE);
        due(5, "street() of a chain", page(CHAIN).street(), 1);
        due(5, "street() of two out", page("b2,g2,s-,t5,d5,g-").street(), 2);
        fall(x, 0, "abc");
        found(x, 0, "ab");
        x.image();
        write(x, "sss").street();
        due(5, "count(2): a refused street changes nothing", x.count(2), 3);
        x.blank();
        due(5, "street() anew", write(x, CHAIN).street(), 1);
        for (int what : new int[] {2, 3, 4, 5, 6}) {
            due(5, "count(" + what + ") of a new street", x.count(what), 0);
        }
        due(5, "count(8)", x.count(8), 2);
        due(5, "about(0, 2)", x.about(0, 2), 0);
        due(5, "restore()", x.restore(), STATE);
    }

    private static void p6About() {
        RainLetters x = lay(OPEN);
        String kinds = "gbstdg";
        for (int gutter = 0; gutter < 6; gutter++) {
            due(6, "about(" + gutter + ", 0)", x.about(gutter, 0), "gbstd".indexOf(kinds.charAt(gutter)));
            due(6, "about(" + gutter + ", 1)", x.about(gutter, 1), NONE);
            due(6, "about(" + gutter + ", 3)", x.about(gutter, 3), NONE);
            fall(x, gutter, gutter == 3 ? "ea" : "bb");
            due(6, "about(" + gutter + ", 2)", x.about(gutter, 2), 2);
        }
        int[] ahead = {NONE, 1, 1, NONE, 1, NONE};
        int[] length = {2, 1, 1, 0, 1, 2};
        int[] lost = {0, 0, 1, 2, 1, 0};
        for (int gutter = 0; gutter < 6; gutter++) {
            due(6, "about(" + gutter + ", 3)", x.about(gutter, 3), ahead[gutter]);
            due(6, "about(" + gutter + ", 4)", x.about(gutter, 4), length[gutter]);
            due(6, "about(" + gutter + ", 5)", x.about(gutter, 5), lost[gutter]);
        }
        due(6, "about(0, 1) of a chain", lay(CHAIN).about(0, 1), 1);
        for (int bad : new int[] {-1, 6, LEAST, MOST}) {
            due(6, "about(" + bad + ", 0)", x.about(bad, 0), UNKNOWN);
            due(6, "about(" + bad + ", 6)", x.about(bad, 6), UNKNOWN);
            due(6, "about(0, " + bad + ")", x.about(0, bad), OUTSIDE);
        }
        due(6, "about(0, 6) without a street", new RainLetters().about(0, 6), UNKNOWN);
    }

    private static void p7As() {
        RainLetters x = lay(OPEN);
        int[][] such = {{1, 0, 0, 0, 0}, {1, 1, 0, 0, 0}, {1, 0, 1, 0, 0}, {1, 0, 0, 1, 0}, {1, 0, 1, 0, 1}};
        for (int gutter = 0; gutter < 5; gutter++) {
            for (int kind = 0; kind < 5; kind++) {
                due(7, "as(" + gutter + ", " + kind + ")", x.as(gutter, kind), such[gutter][kind] == 1 ? gutter : NONE);
            }
        }
        for (int bad : new int[] {-1, 6, LEAST, MOST}) {
            due(7, "as(" + bad + ", 9)", x.as(bad, 9), UNKNOWN);
            due(7, "as(0, " + bad + ")", x.as(0, bad), OUTSIDE);
        }
        due(7, "as(0, 5)", x.as(0, 5), OUTSIDE);
    }

    private static void p8Word() {
        RainLetters x = fall(lay(OPEN), 0, "bed");
        due(8, "word(0, 0)", x.word(0, 0), 1);
        due(8, "word(0, 1)", x.word(0, 1), 4);
        due(8, "word(0, 2)", x.word(0, 2), 3);
        for (int bad : new int[] {-1, 3, LEAST, MOST}) {
            due(8, "word(0, " + bad + ")", x.word(0, bad), UNKNOWN);
        }
        for (int bad : new int[] {-1, 6, LEAST, MOST}) {
            due(8, "word(" + bad + ", 0)", x.word(bad, 0), UNKNOWN);
        }
        due(8, "word(1, 0)", x.word(1, 0), UNKNOWN);
    }

    private static void p9Drop() {
        RainLetters x = lay(OPEN);
        due(9, "drop(0, 4)", x.drop(0, 4), 0);
        due(9, "drop into an empty bowl", x.drop(1, 0), NONE);
        due(9, "drop into a full bowl", x.drop(1, 3), 1);
        dueWord(9, x, 1, "a");
        dueWord(9, fall(lay(OPEN), 2, "aabbabbb"), 2, "abab");
        dueWord(9, fall(lay(OPEN), 3, "abcde"), 3, "bcd");
        dueWord(9, fall(lay(OPEN), 4, "aabbcda"), 4, "aca");
        dueWord(9, fall(lay(OPEN), 4, "abba"), 4, "aa");
        dueWord(9, fall(lay(CHAIN), 0, "abcdeabcdeab"), 5, "abcdeabcdeab");
        RainLetters y = lay("b1,d2,t5,s5,g-,b-");
        due(9, "drop(0, 0): the bowl keeps it", y.drop(0, 0), NONE);
        due(9, "drop(0, 1): the thief loses a", y.drop(0, 1), NONE);
        due(9, "drop(0, 2): the dam loses b", y.drop(0, 2), NONE);
        due(9, "drop(0, 3): c comes to the last bowl", y.drop(0, 3), NONE);
        due(9, "drop(3, 4): it pushes c out", y.drop(3, 4), 5);
        dueWord(9, y, 5, "c");
        due(9, "about(2, 5)", y.about(2, 5), 1);
        due(9, "about(1, 5)", y.about(1, 5), 1);
        due(9, "about(1, 3)", y.about(1, 3), 2);
        RainLetters z = fall(lay(CHAIN), 0, "aaaaaaaaaaa");
        due(9, "count(2)", z.count(2), 11);
        for (int bad : new int[] {-1, 6, LEAST, MOST}) {
            due(9, "drop(" + bad + ", 9)", z.drop(bad, 9), UNKNOWN);
            due(9, "drop(0, " + bad + ")", z.drop(0, bad), OUTSIDE);
        }
        due(9, "drop(0, 5)", z.drop(0, 5), OUTSIDE);
        due(9, "drop, the twelfth", z.drop(0, 0), 5);
        due(9, "drop, the thirteenth", z.drop(0, 0), FULL);
        due(9, "drop(0, 5), the thirteenth", z.drop(0, 5), OUTSIDE);
        due(9, "drop(6, 0), the thirteenth", z.drop(6, 0), UNKNOWN);
        due(9, "about(5, 4)", z.about(5, 4), 12);
    }

    private static void p10Rain() {
        RainLetters x = lay(OPEN);
        x.drop(3, 4);
        x.drop(5, 2);
        due(10, "rain(0, 0)", x.rain(0, 0), 3);
        due(10, "rain(0, 1)", x.rain(0, 1), 4);
        due(10, "rain(1, 0)", x.rain(1, 0), 5);
        due(10, "rain(1, 1)", x.rain(1, 1), 2);
        for (int bad : new int[] {-1, 2, LEAST, MOST}) {
            due(10, "rain(" + bad + ", 2)", x.rain(bad, 2), UNKNOWN);
            due(10, "rain(0, " + bad + ")", x.rain(0, bad), OUTSIDE);
        }
    }

    private static void p11Dry() {
        due(11, "dry() without a street", new RainLetters().dry(), STATE);
        RainLetters x = lay(OPEN);
        fall(fall(fall(fall(x, 1, "ab"), 2, "aa"), 4, "abc"), 3, "a");
        found(x, 0, "a");
        x.turn(0, 4);
        due(11, "dry()", x.dry(), 8);
        for (int what : new int[] {2, 3, 4, 5}) {
            due(11, "count(" + what + ")", x.count(what), 0);
        }
        due(11, "count(6): what is found stays", x.count(6), 1);
        due(11, "about(0, 1): it stays turned", x.about(0, 1), 4);
        for (int gutter = 0; gutter < 6; gutter++) {
            due(11, "about(" + gutter + ", 2)", x.about(gutter, 2), 0);
            due(11, "about(" + gutter + ", 3)", x.about(gutter, 3), NONE);
        }
        due(11, "drop(2, 0): nothing came ahead", x.drop(2, 0), 2);
        due(11, "drop(4, 3): the dam counts anew", x.drop(4, 3), 4);
        due(11, "dry()", x.dry(), 2);
        due(11, "dry()", x.dry(), 0);
    }

    private static void p12Turn() {
        RainLetters x = fall(lay(CHAIN), 0, "ab");
        due(12, "turn(0, NONE)", x.turn(0, NONE), 1);
        due(12, "turn(0, 5)", x.turn(0, 5), NONE);
        due(12, "turn(0, 5)", x.turn(0, 5), 5);
        due(12, "turn(0, NONE)", x.turn(0, NONE), 5);
        due(12, "count(1)", x.count(1), 2);
        dueWord(12, x, 5, "ab");
        due(12, "drop(0, 2)", x.drop(0, 2), 0);
        dueWord(12, x, 0, "c");
        dueWord(12, x, 5, "ab");
        x.turn(0, 1);
        dueWord(12, x, 0, "c");
        due(12, "turn(5, NONE)", x.turn(5, NONE), NONE);
        due(12, "turn(5, 5)", x.turn(5, 5), OUTSIDE);
        due(12, "turn(3, 3)", x.turn(3, 3), OUTSIDE);
        due(12, "turn(3, 2)", x.turn(3, 2), OUTSIDE);
        for (int bad : new int[] {-2, 0, 6, LEAST, MOST}) {
            due(12, "turn(0, " + bad + ")", x.turn(0, bad), OUTSIDE);
        }
        for (int bad : new int[] {-1, 6, LEAST, MOST}) {
            due(12, "turn(" + bad + ", 9)", x.turn(bad, 9), UNKNOWN);
        }
    }

    private static void p13FewTurns() {
        RainLetters x = fall(fall(lay("g-,g-,g-,g-,g-,g-"), 0, "ab"), 1, "c");
        due(13, "abc at 1, how few", few(x, 1, "abc", 0), 1);
        due(13, "abc at 1, which", few(x, 1, "abc", 1), 1);
        due(13, "abc at 1, ways: what never runs through is not turned", few(x, 1, "abc", 2), 1);
        due(13, "count(7): the page stays", x.count(7), 3);
        due(13, "abc at 5, how few", few(x, 5, "abc", 0), 2);
        due(13, "abc at 5, which", few(x, 5, "abc", 1), 3);
        due(13, "abc at 5: 0 and 1 into it, or 0 by 1", few(x, 5, "abc", 2), 2);
        due(13, "ab at 0: as it is", few(x, 0, "ab", 0), 0);
        due(13, "ab at 0, which", few(x, 0, "ab", 1), 0);
        due(13, "ab at 0, ways", few(x, 0, "ab", 2), 1);
        for (int what = 0; what < 3; what++) {
            due(13, "b at 0, " + what, few(x, 0, "b", what), NONE);
        }
        due(13, "count(9)", x.count(9), 12);
        due(13, "about(0, 1): nothing is turned by it", x.about(0, 1), NONE);
        due(13, "count(2)", x.count(2), 3);
        for (int bad : new int[] {-1, 6, LEAST, MOST}) {
            due(13, "fewTurns(" + bad + ", 9)", x.fewTurns(bad, 9), UNKNOWN);
            due(13, "fewTurns(0, " + bad + ")", x.fewTurns(0, bad), OUTSIDE);
        }
        due(13, "fewTurns(0, 3)", x.fewTurns(0, 3), OUTSIDE);
        due(13, "of an empty page", few(x, 0, "", 0), STATE);
        due(13, "what is looked at ahead of the page", x.fewTurns(0, 3), OUTSIDE);
        due(13, "of nine letters", few(x, 0, "abababaab", 0), STATE);
        due(13, "of no letters", few(x, 0, "abx", 0), STATE);
        due(13, "count(9): a refusal is not one", x.count(9), 12);
        for (int done = 13; done <= 20; done++) {
            due(13, "the " + done + "th", few(x, 0, "ab", 0), 0);
        }
        due(13, "the 21st", few(x, 0, "ab", 0), STATE);
        due(13, "the 21st, OUTSIDE ahead", few(x, 0, "ab", 3), OUTSIDE);
        due(13, "count(9)", x.count(9), 20);
        x.blank();
        write(x, OPEN).street();
        due(13, "another street", few(x, 0, "ab", 0), STATE);
        due(13, "count(9)", x.count(9), 20);
        fewTurnsFromDry();
    }

    private static void fewTurnsFromDry() {
        RainLetters x = fall(lay("g5,g-,g-,g-,g-,g-"), 0, "ab");
        x.turn(0, NONE);
        due(13, "the rain falls again as it flows now", few(x, 5, "ab", 0), 1);
        due(13, "which", x.fewTurns(5, 1), 1);
        due(13, "ways", x.fewTurns(5, 2), 1);
        RainLetters y = fall(lay("g1,g2,g3,g4,g5,g-"), 0, "a");
        due(13, "it must be turned to flow out", few(y, 2, "a", 0), 1);
        due(13, "which", y.fewTurns(2, 1), 4);
        due(13, "ways", y.fewTurns(2, 2), 1);
        RainLetters z = fall(lay("t1,t2,g3,t4,t5,g-"), 0, "b");
        z.drop(0, 0);
        due(13, "ba at 5 can't come", few(z, 5, "ba", 0), NONE);
        RainLetters w = fall(fall(lay("g2,g2,g5,g-,g-,g-"), 0, "a"), 1, "b");
        due(13, "a at 5: 1 turned, or b led past", few(w, 5, "a", 0), 1);
        due(13, "which", w.fewTurns(5, 1), 2);
        due(13, "1 into 3 or 4, or out", w.fewTurns(5, 2), 3);
        RainLetters u = fall(fall(lay("g1,g5,g5,g-,g-,g-"), 0, "a"), 2, "b");
        due(13, "b at 5: a led past by 0 or by 1", few(u, 5, "b", 0), 1);
        due(13, "the least bits", u.fewTurns(5, 1), 1);
        due(13, "each of both into 3 or 4, or out", u.fewTurns(5, 2), 6);
        RainLetters v = fall(lay("g-,b-,g-,g-,g-,b-"), 0, "abcd");
        due(13, "abc at 5: 0 into the bowl", few(v, 5, "abc", 0), 1);
        due(13, "ab at 5: through both", few(v, 5, "ab", 1), 3);
        due(13, "eight letters can't come of four", few(v, 5, "abcdabcd", 0), NONE);
    }

    private static void p14Orders() {
        due(14, "of no drop", lay(OPEN).orders(0), 1);
        due(14, "abc", fall(lay(OPEN), 0, "abc").orders(0), 6);
        due(14, "aab", fall(lay(OPEN), 0, "aab").orders(0), 3);
        due(14, "aab by a bowl", fall(lay(OPEN), 1, "aab").orders(1), 3);
        due(14, "aab by a sieve: ab, aba, ba", fall(lay(OPEN), 2, "aab").orders(2), 3);
        due(14, "abc by a thief", fall(lay(OPEN), 3, "abc").orders(3), 2);
        due(14, "abc by a dam", fall(lay(OPEN), 4, "abc").orders(4), 6);
        due(14, "five unlike and one more", fall(lay(OPEN), 0, "abcdea").orders(0), 360);
        due(14, "elsewhere", fall(lay(OPEN), 0, "abcde").orders(5), 1);
        RainLetters x = fall(lay(OPEN), 1, "aaaaaabcde");
        due(14, "only the first six fall", x.orders(1), 1);
        RainLetters y = fall(lay(OPEN), 1, "abcdeaa");
        due(14, "the first six of seven", y.orders(1), fall(lay(OPEN), 1, "abcdea").orders(1));
        due(14, "a bowl of a a b c d e lets five out", y.orders(1), 360);
        dueWord(14, y, 1, "abcdea");
        x.turn(0, 1);
        due(14, "it does not flow out", x.orders(0), STATE);
        for (int bad : new int[] {-1, 6, LEAST, MOST}) {
            due(14, "orders(" + bad + ")", x.orders(bad), UNKNOWN);
        }
        due(14, "count(10)", x.count(10), 1);
        for (int done = 2; done <= 20; done++) {
            due(14, "the " + done + "th", x.orders(2), 1);
        }
        due(14, "the 21st", x.orders(2), STATE);
        due(14, "the 21st, UNKNOWN ahead", x.orders(6), UNKNOWN);
        due(14, "count(10)", x.count(10), 20);
        RainLetters z = fall(lay("g5,g-,g-,g-,g-,g-"), 0, "ab");
        z.turn(0, NONE);
        due(14, "by how it flows now", z.orders(0), 2);
        due(14, "by how it flows now", z.orders(5), 1);
    }

    private static void p15BestDrop() {
        due(15, "bestDrop(5) without a street", new RainLetters().bestDrop(5), OUTSIDE);
        due(15, "bestDrop(0) without a street", new RainLetters().bestDrop(0), STATE);
        due(15, "the least of like ones", lay(OPEN).bestDrop(0), 0);
        due(15, "none comes out", lay("b1,b2,b3,b4,b5,b-").bestDrop(0), 0);
        due(15, "past the bowl", lay("b-,g-,g-,g-,g-,g-").bestDrop(0), 1);
        due(15, "past bowl and thief", lay("b-,t-,g-,g-,g-,g-").bestDrop(4), 2);
        due(15, "a thief lets c through", lay("b-,t-,g-,g-,g-,g-").bestDrop(2), 1);
        RainLetters x = fall(lay("s-,t-,b-,d-,g-,g-"), 0, "a");
        due(15, "the same came ahead", x.bestDrop(0), 3);
        due(15, "another came ahead", x.bestDrop(4), 0);
        x.drop(2, 1);
        due(15, "the bowl is full", x.bestDrop(0), 2);
        due(15, "count(2)", x.count(2), 2);
        for (int bad : new int[] {-1, 5, LEAST, MOST}) {
            due(15, "bestDrop(" + bad + ")", x.bestDrop(bad), OUTSIDE);
        }
        RainLetters y = fall(lay("g1,s-,g-,g-,g-,g-"), 0, "a");
        y.turn(0, NONE);
        due(15, "as if the rain fell again by how it flows now", y.bestDrop(0), 0);
        y.turn(0, 1);
        due(15, "as if the rain fell again by how it flows now", y.bestDrop(0), 2);
        RainLetters z = fall(lay(CHAIN), 0, "aaaaaaaaaaa");
        due(15, "with eleven", z.bestDrop(0), 0);
        z.drop(0, 0);
        due(15, "with twelve", z.bestDrop(0), FULL);
        due(15, "with twelve, OUTSIDE ahead", z.bestDrop(5), OUTSIDE);
    }

    private static void p16Found() {
        RainLetters x = lay(OPEN);
        due(16, "found(0)", write(x, "abc").found(0), 1);
        due(16, "count(7)", x.count(7), 0);
        due(16, "found(0) anew", write(x, "ab").found(0), 1);
        due(16, "found(5) of nothing", x.found(5), 2);
        due(16, "found(4) of eight", write(x, "abcdeabc").found(4), 3);
        due(16, "found(3) of nine", write(x, "abcdeabcd").found(3), STATE);
        due(16, "count(7): a refusal keeps the page", x.count(7), 9);
        x.blank();
        due(16, "found(3) of no word", write(x, "abf").found(3), STATE);
        for (int bad : new int[] {-1, 6, LEAST, MOST}) {
            due(16, "found(" + bad + ")", x.found(bad), UNKNOWN);
        }
        due(16, "count(6)", x.count(6), 3);
        due(16, "count(7)", x.count(7), 3);
    }

    private static void p17Forget() {
        RainLetters x = lay(OPEN);
        x.found(0);
        write(x, "a").found(1);
        due(17, "kindOf(0)", x.kindOf(0), 0);
        due(17, "forget()", x.forget(), 2);
        due(17, "count(6)", x.count(6), 0);
        due(17, "kindOf(0)", x.kindOf(0), 31);
        due(17, "forget()", x.forget(), 0);
    }

    private static void p18KindOf() {
        RainLetters x = fall(lay(OPEN), 0, "bbc");
        due(18, "nothing found", x.kindOf(0), 31);
        found(x, 0, "bbc");
        due(18, "bbc: g, t", x.kindOf(0), 1 | 8);
        due(18, "of another", x.kindOf(3), 31);
        found(x, 0, "bb");
        due(18, "bb: b", x.kindOf(0), 2);
        found(x, 0, "bc");
        due(18, "bc: s", x.kindOf(0), 4);
        found(x, 0, "b");
        due(18, "b: d", x.kindOf(0), 16);
        found(x, 0, "");
        due(18, "nothing ran out: none", x.kindOf(0), 0);
        found(x, 0, "bbc");
        found(x, 5, "");
        due(18, "nothing elsewhere", x.kindOf(0), 1 | 8);
        found(x, 5, "a");
        due(18, "what can't be elsewhere", x.kindOf(0), 0);
        x.forget();
        found(x, 0, "bbc");
        x.turn(0, 1);
        due(18, "all else as it is: it does not flow out now", x.kindOf(0), 0);
        due(18, "kindOf is asked of what is not real", x.about(0, 0), 0);
        RainLetters y = fall(lay("g2,g2,g-,g-,g-,g-"), 0, "a");
        y.drop(1, 0);
        found(y, 2, "a");
        due(18, "kindOf(0): b or t", y.kindOf(0), 2 | 8);
        due(18, "kindOf(2): b, s, d", y.kindOf(2), 2 | 4 | 16);
        for (int bad : new int[] {-1, 6, LEAST, MOST}) {
            due(18, "kindOf(" + bad + ")", x.kindOf(bad), UNKNOWN);
        }
    }

    private static void p19LetterOf() {
        RainLetters x = fall(lay(OPEN), 0, "ab");
        x.drop(3, 0);
        x.drop(2, 2);
        x.drop(2, 3);
        due(19, "nothing found", x.letterOf(0), 31);
        found(x, 0, "ab");
        due(19, "letterOf(0)", x.letterOf(0), 1);
        due(19, "letterOf(1)", x.letterOf(1), 2);
        due(19, "letterOf(2)", x.letterOf(2), 31);
        found(x, 3, "");
        due(19, "a thief lost it", x.letterOf(2), 1 | 16);
        found(x, 2, "c");
        due(19, "the second must be c", x.letterOf(4), 4);
        due(19, "the first can't be", x.letterOf(3), 0);
        due(19, "nor another, then", x.letterOf(0), 0);
        due(19, "rain(0, 1)", x.rain(0, 1), 0);
        for (int bad : new int[] {-1, 5, LEAST, MOST}) {
            due(19, "letterOf(" + bad + ")", x.letterOf(bad), UNKNOWN);
        }
        x.dry();
        due(19, "letterOf(0) dried", x.letterOf(0), UNKNOWN);
    }

    private static void p20Mornings() {
        RainLetters x = lay("g-,g-,g-,g-,g-,g-");
        due(20, "all come out", x.mornings(1, 0, 0), 5);
        due(20, "forty times", x.mornings(40, 0, 0), 200);
        long seed = 7;
        for (int draw = 0; draw < 30; draw++) {
            seed = (1103515245L * seed + 12345L) % 2147483648L;
        }
        due(20, "the seed then", x.mornings(3, 7, 1), seed);
        due(20, "of the greatest seed, how many", x.mornings(2, MOST, 0), 10);
        due(20, "bowls keep some", lay("b-,b-,b-,b-,b-,b-").mornings(10, 5, 0), bowlsLetOut(10, 5));
        due(20, "thieves lose vowels", lay("t-,t-,t-,t-,t-,t-").mornings(10, 5, 0), thievesLetOut(10, 5));
        fall(x, 0, "abc");
        x.mornings(4, 4, 0);
        due(20, "count(2): as it would be", x.count(2), 3);
        due(20, "count(3)", x.count(3), 3);
        for (int bad : new int[] {-1, 0, 41, LEAST, MOST}) {
            due(20, "mornings(" + bad + ", 0, 0)", x.mornings(bad, 0, 0), OUTSIDE);
        }
        due(20, "mornings(1, -1, 0)", x.mornings(1, -1, 0), OUTSIDE);
        due(20, "mornings(1, LEAST, 0)", x.mornings(1, LEAST, 0), OUTSIDE);
        for (int bad : new int[] {-1, 2, LEAST, MOST}) {
            due(20, "mornings(1, 0, " + bad + ")", x.mornings(1, 0, bad), OUTSIDE);
        }
        due(20, "without a street", new RainLetters().mornings(1, 0, 0), STATE);
        due(20, "without a street, OUTSIDE ahead", new RainLetters().mornings(0, 0, 0), OUTSIDE);
    }

    private static int bowlsLetOut(int times, long seed) {
        int out = 0;
        long next = seed;
        for (int time = 0; time < times; time++) {
            boolean[] full = new boolean[6];
            for (int drop = 0; drop < 5; drop++) {
                next = (1103515245L * next + 12345L) % 2147483648L;
                int gutter = (int) (next / 65536 % 6);
                out += full[gutter] ? 1 : 0;
                full[gutter] = true;
                next = (1103515245L * next + 12345L) % 2147483648L;
            }
        }
        return out;
    }

    private static int thievesLetOut(int times, long seed) {
        int out = 0;
        long next = seed;
        for (int drop = 0; drop < 5 * times; drop++) {
            next = (1103515245L * next + 12345L) % 2147483648L;
            next = (1103515245L * next + 12345L) % 2147483648L;
            long letter = next / 65536 % 5;
            out += letter == 0 || letter == 4 ? 0 : 1;
        }
        return out;
    }

    private static void p21p22Images() {
        due(21, "image() without a street", new RainLetters().image(), STATE);
        due(22, "restore() without an image", lay(OPEN).restore(), STATE);
        due(22, "restore() without a street", new RainLetters().restore(), STATE);
        RainLetters x = fall(fall(fall(lay(OPEN), 0, "ab"), 1, "cd"), 4, "abc");
        found(x, 0, "ab");
        x.turn(3, 5);
        due(21, "image()", x.image(), 7);
        long digest = x.digest();
        x.dry();
        x.turn(3, NONE);
        fall(fall(x, 1, "ee"), 0, "ccc");
        x.turn(0, 1);
        found(x, 0, "d");
        found(x, 1, "");
        due(22, "restore()", x.restore(), 7);
        due(22, "digest()", x.digest(), digest);
        dueWord(22, x, 0, "ab");
        dueWord(22, x, 1, "c");
        due(22, "about(3, 1)", x.about(3, 1), 5);
        due(22, "about(1, 3)", x.about(1, 3), 3);
        due(22, "count(6)", x.count(6), 1);
        due(22, "kindOf(0): g, s", x.kindOf(0), 1 | 4);
        due(22, "the dam goes on: the fourth", x.drop(4, 0), NONE);
        due(22, "the bowl goes on", x.drop(1, 0), 1);
        dueWord(22, x, 1, "cd");
        due(22, "restore() again", x.restore(), 7);
        dueWord(22, x, 1, "c");
        x.dry();
        due(21, "image(): the latest", x.image(), 0);
        fall(x, 0, "abc");
        due(22, "restore()", x.restore(), 0);
        imagesAndTheRest(x);
    }

    private static void imagesAndTheRest(RainLetters x) {
        x.image();
        write(x, "abc");
        x.orders(0);
        due(22, "restore()", x.restore(), 0);
        due(22, "count(7): the page is not of the image", x.count(7), 3);
        due(22, "count(10): nor is this", x.count(10), 1);
        due(22, "a refused street leaves the image", x.street() + x.restore(), STATE);
        x.blank();
        write(x, OPEN).street();
        due(22, "the same text is another street", x.restore(), STATE);
        due(21, "image() of it", x.image(), 0);
        due(22, "restore() of it", x.restore(), 0);
    }

    private static void p23Count() {
        RainLetters x = lay("g-,b-,s-,t-,d-,b-");
        fall(fall(fall(fall(fall(x, 0, "ab"), 1, "ab"), 2, "aa"), 3, "ea"), 5, "c");
        found(x, 2, "ab");
        x.orders(0);
        x.orders(1);
        few(x, 0, "ab", 0);
        x.turn(0, 1);
        int[] want = {6, 5, 9, 4, 3, 2, 1, 2, 1, 1, 2};
        for (int what = 0; what < want.length; what++) {
            due(23, "count(" + what + ")", x.count(what), want[what]);
        }
        due(23, "count(5): all are bowls", fall(lay("b1,b2,b3,b4,b5,b-"), 0, "abcdea").count(5), 6);
        for (int bad : new int[] {-1, 11, LEAST, MOST}) {
            due(23, "count(" + bad + ")", x.count(bad), OUTSIDE);
        }
    }

    private static void p24Digest() {
        due(24, "of a page alone", page("g-").digest(), mixAll('g', '-', 0, 0, 0, 0, 0, 0, 0, 2, 0, 0, 0));
        RainLetters x = lay("g1,b-,s-,t-,d-,g-");
        fall(fall(x, 0, "cd"), 3, "a");
        found(x, 1, "c");
        write(x, "e");
        due(24, "of a street", x.digest(), mixAll(
            0, 1, 2, NONE, 0, 0, 1 | 4 | 8,
            1, NONE, 2, 3, 1, 0, 2, 2 | 16,
            2, NONE, 0, NONE, 0, 0, 31,
            3, NONE, 1, NONE, 0, 1, 31,
            4, NONE, 0, NONE, 0, 0, 31,
            0, NONE, 0, NONE, 0, 0, 31,
            0, 2, 4, 0, 3, 31, 3, 0, 31,
            'e',
            6, 5, 3, 1, 1, 1, 1, 1, 1, 0, 0));
    }

    public static void main(String[] args) {
        p1NewObject();
        p2Letter();
        p3Blank();
        p4Fault();
        p5Street();
        p6About();
        p7As();
        p8Word();
        p9Drop();
        p10Rain();
        p11Dry();
        p12Turn();
        p13FewTurns();
        p14Orders();
        p15BestDrop();
        p16Found();
        p17Forget();
        p18KindOf();
        p19LetterOf();
        p20Mornings();
        p21p22Images();
        p23Count();
        p24Digest();
        System.out.println(wrong == 0 ? "all promises hold" : wrong + " answers are not as due");
        if (wrong != 0) {
            System.exit(1);
        }
    }
}
