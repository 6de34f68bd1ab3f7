import java.io.IOException;

/** The boundaries of promises 16 to 20, sentence by sentence: what is found, kinds and letters by it, mornings. */
public final class BoundaryFoundTest extends Boundary {
    private static final String EIGHT = "abcdeabc", NINE = "abcdeabcd";
    private static final String THIEVES = "t-,t-,t-,t-,t-,t-", BOWLS = "b-,b-,b-,b-,b-,b-";

    // ---- 16 found

    private static void p16Gutter() {
        sentence("UNKNOWN: gutter; STATE: THE PAGE is neither a WORD nor empty.");
        for (int bad : new int[] {-1, 6, LEAST, MOST}) {
            refuses("found(" + bad + ")", Boundary::midst, x -> x.found(bad), UNKNOWN);
            refuses("found(" + bad + ") of nothing", () -> rewrite(midst(), ""), x -> x.found(bad), UNKNOWN);
            refuses("found(" + bad + ") of no word", () -> rewrite(midst(), "x"), x -> x.found(bad), UNKNOWN);
        }
        refuses("found(0) of no word without a street", () -> page("x"), x -> x.found(0), UNKNOWN);
        due("found(0)", write(lay(PLAIN), "a").found(0), 1);
        due("found(5)", write(lay(PLAIN), "a").found(5), 1);
    }

    private static void p16NeitherAWordNorEmpty() {
        sentence("STATE: THE PAGE is neither a WORD nor empty.");
        sentence("(what is on THE PAGE, none to eight LETTERS, of a GUTTER; one of each; each anew instead of what was)");
        for (String text : new String[] {"f", "`", "A", "ab ", "abcdeabf", NINE, TWENTY, PLAIN}) {
            refuses("found(0) of '" + text + "'", () -> rewrite(midst(), text), x -> x.found(0), STATE);
            refuses("found(5) of '" + text + "'", () -> rewrite(midst(), text), x -> x.found(5), STATE);
        }
        for (String text : new String[] {"", "a", "e", EIGHT.substring(0, 7), EIGHT}) {
            RainLetters x = write(fall(lay(PLAIN), 2, text), text);
            due("found(2) of '" + text + "'", x.found(2), 1);
            due("count(7): the page is empty then", x.count(7), 0);
            due("kindOf(1): it is as found", x.kindOf(1), 31);
        }
    }

    private static void p16OfHowMany() {
        sentence("of how many something is FOUND; THE PAGE is empty then");
        RainLetters x = lay(PLAIN);
        for (int gutter = 0; gutter < 6; gutter++) {
            due("found(" + gutter + ") of nothing", x.found(gutter), gutter + 1);
            due("found(" + gutter + ") anew", write(x, "abc").found(gutter), gutter + 1);
            due("count(6)", x.count(6), gutter + 1);
            due("count(7)", x.count(7), 0);
        }
        due("found(3) of nothing, once more", x.found(3), 6);
    }

    private static void p16EachAnew() {
        sentence("one of each; each anew instead of what was");
        RainLetters x = fall(lay(PLAIN), 0, "ab");
        find(x, 0, "abcdeabc");
        due("kindOf(0)", x.kindOf(0), 0);
        find(x, 0, "ab");
        due("kindOf(0): g, s", x.kindOf(0), 1 | 4);
        find(x, 0, "a");
        due("kindOf(0): b, d", x.kindOf(0), 2 | 16);
        find(x, 0, "b");
        due("kindOf(0): t", x.kindOf(0), 8);
        find(x, 0, "");
        due("kindOf(0): none", x.kindOf(0), 0);
        due("count(6)", x.count(6), 1);
    }

    // ---- 17 forget

    private static void p17NoneToSix() {
        sentence("Nothing is FOUND: of how many something was.");
        for (int finds = 0; finds <= 6; finds++) {
            RainLetters x = lay(PLAIN);
            for (int gutter = 0; gutter < finds; gutter++) {
                find(x, gutter, gutter % 2 == 0 ? "a" : "");
            }
            due("forget() of " + finds, x.forget(), finds);
            due("forget() again", x.forget(), 0);
            due("the digest is that of a new street", x.digest(), lay(PLAIN).digest());
            due("kindOf(0)", x.kindOf(0), 31);
            due("found(5)", x.found(5), 1);
        }
        due("forget() without a street", new RainLetters().forget(), 0);
        due("forget() without a street, with a page", page("a").forget(), 0);
    }

    private static void p17AllElseStays() {
        sentence("Nothing is FOUND: of how many something was.");
        RainLetters x = midst();
        due("forget()", x.forget(), 1);
        due("count(2)", x.count(2), 7);
        due("count(7)", x.count(7), 1);
        due("restore()", x.restore(), 5);
        due("count(6): the image keeps what was found", x.count(6), 1);
    }

    // ---- 18 kindOf

    private static void p18Gutter() {
        sentence("KIND, as bits. UNKNOWN.");
        for (int bad : new int[] {-1, 6, LEAST, MOST}) {
            refuses("kindOf(" + bad + ")", Boundary::midst, x -> x.kindOf(bad), UNKNOWN);
        }
        refuses("kindOf(5) without a street", RainLetters::new, x -> x.kindOf(5), UNKNOWN);
        asks("kindOf(0)", () -> find(fall(lay(PLAIN), 0, "b"), 0, "b"), x -> x.kindOf(0), 1 | 4 | 8 | 16);
        asks("kindOf(5)", () -> find(fall(lay(PLAIN), 5, "b"), 5, "b"), x -> x.kindOf(5), 1 | 4 | 8 | 16);
    }

    private static void p18NoneToAll() {
        sentence("which KINDS it could have, all else as it is, so that all that is FOUND would be so, "
            + "THE RAIN having fallen: as bits");
        due("nothing found, no drop", lay(PLAIN).kindOf(0), 31);
        due("nothing found", fall(lay(PLAIN), 0, TWELVE).kindOf(0), 31);
        due("the empty word, no drop", find(lay(PLAIN), 0, "").kindOf(0), 31);
        due("a word, no drop", find(lay(PLAIN), 0, "a").kindOf(0), 0);
        due("the empty word, an a", find(fall(lay(PLAIN), 0, "a"), 0, "").kindOf(0), 2 | 8);
        due("the empty word, a b", find(fall(lay(PLAIN), 0, "b"), 0, "").kindOf(0), 2);
        due("eight of eight", find(fall(lay(PLAIN), 0, EIGHT), 0, EIGHT).kindOf(0), 1 | 4);
        due("eight of nine", find(fall(lay(PLAIN), 0, NINE), 0, EIGHT).kindOf(0), 2);
        due("eight of twelve", find(fall(lay(PLAIN), 0, TWELVE), 0, EIGHT).kindOf(0), 0);
        due("a thief alone", find(fall(lay(PLAIN), 0, "abcde"), 0, "bcd").kindOf(0), 8);
        due("a dam alone", find(fall(lay(PLAIN), 0, "abcde"), 0, "ace").kindOf(0), 16);
        due("a sieve alone", find(fall(lay(PLAIN), 0, "aab"), 0, "ab").kindOf(0), 4);
    }

    private static void p18AllThatIsFound() {
        sentence("so that all that is FOUND would be so");
        RainLetters x = fall(lay(PLAIN), 0, "b");
        for (int gutter = 0; gutter < 6; gutter++) {
            find(x, gutter, gutter == 0 ? "b" : "");
        }
        due("six are found", x.kindOf(0), 1 | 4 | 8 | 16);
        due("kindOf(5): all", x.kindOf(5), 31);
        find(x, 5, "b");
        due("one is not so", x.kindOf(0), 0);
        due("one is not so", x.kindOf(5), 0);
    }

    private static void p18ByHowItFlowsNow() {
        sentence("all else as it is");
        RainLetters x = find(fall(lay(PLAIN), 0, "b"), 0, "b");
        x.turn(0, 1);
        due("it does not flow OUT now", x.kindOf(0), 0);
        find(x, 1, "b");
        find(x, 0, "");
        due("into 1", x.kindOf(0), 1 | 4 | 8 | 16);
        due("about(0, 0): its kind is what it was", x.about(0, 0), 0);
    }

    // ---- 19 letterOf

    private static void p19Drop() {
        sentence("UNKNOWN: drop (of THE RAIN).");
        for (int size : new int[] {0, 1, 11, 12}) {
            Maker maker = () -> {
                RainLetters x = find(lay(PLAIN), 1, "");
                x.image();
                return write(fall(x, 0, TWELVE.substring(0, size)), "a");
            };
            for (int bad : new int[] {-1, size, size + 1, LEAST, MOST}) {
                refuses("letterOf(" + bad + ") of " + size, maker, x -> x.letterOf(bad), UNKNOWN);
            }
            if (size > 0) {
                asks("letterOf(0) of " + size, maker, x -> x.letterOf(0), 31);
                asks("the last of " + size, maker, x -> x.letterOf(size - 1), 31);
            }
        }
        refuses("letterOf(0) without a street", RainLetters::new, x -> x.letterOf(0), UNKNOWN);
        RainLetters x = fall(lay(PLAIN), 0, "ab");
        x.dry();
        due("letterOf(0), dried", x.letterOf(0), UNKNOWN);
    }

    private static void p19ByHowItFlowsNow() {
        sentence("so that all that is FOUND would be so, THE RAIN having fallen: as bits. LETTER of a DROP");
        RainLetters x = find(fall(lay(PLAIN), 0, "a"), 0, "a");
        x.turn(0, 5);
        due("it does not flow OUT now", x.letterOf(0), 0);
        find(x, 5, "b");
        find(x, 0, "");
        due("into 5", x.letterOf(0), 2);
        due("rain(0, 1): its letter is what it was", x.rain(0, 1), 0);
    }

    private static void p19NoneToAll() {
        sentence("LETTER of a DROP: which it could have had: as bits.");
        for (int letter = 0; letter < 5; letter++) {
            String text = EIGHT.substring(letter, letter + 1);
            RainLetters x = find(fall(lay(PLAIN), 0, text), 0, text);
            due("letterOf(0) of " + text, x.letterOf(0), 1 << letter);
        }
        due("nothing found", fall(lay(PLAIN), 0, "a").letterOf(0), 31);
        due("what can't be", find(fall(lay(PLAIN), 0, "a"), 0, "").letterOf(0), 0);
        due("a bowl keeps any", find(fall(lay(BOWLS), 0, "a"), 0, "").letterOf(0), 31);
        due("a thief loses two", find(fall(lay(THIEVES), 0, "a"), 0, "").letterOf(0), 1 | 16);
        due("another than it had", find(fall(lay(PLAIN), 0, "a"), 0, "e").letterOf(0), 16);
        due("the same as the one ahead", find(fall(lay("s-,g-,g-,g-,g-,g-"), 0, "ab"), 0, "a").letterOf(1), 1);
        RainLetters x = find(fall(lay(PLAIN), 0, EIGHT), 0, EIGHT);
        due("the first of eight", x.letterOf(0), 1);
        due("the last of eight", x.letterOf(7), 4);
        due("rain(0, 1): its letter is what it was", x.rain(0, 1), 0);
    }

    // ---- 20 mornings

    private static void p20Times() {
        sentence("OUTSIDE: times (1 to 40), seed (0 at least), what; STATE: no STREET.");
        for (int bad : new int[] {0, -1, 41, 42, LEAST, MOST}) {
            refuses("mornings(" + bad + ", 0, 0)", Boundary::midst, x -> x.mornings(bad, 0, 0), OUTSIDE);
            refuses("mornings(" + bad + ", 0, 1)", Boundary::midst, x -> x.mornings(bad, 0, 1), OUTSIDE);
        }
        RainLetters x = lay(PLAIN);
        due("mornings(1, 0, 0)", x.mornings(1, 0, 0), 5);
        due("mornings(2, 0, 0)", x.mornings(2, 0, 0), 10);
        due("mornings(39, 0, 0)", x.mornings(39, 0, 0), 195);
        due("mornings(40, 0, 0)", x.mornings(40, 0, 0), 200);
        due("mornings(1, 0, 1)", x.mornings(1, 0, 1), 551188310);
        due("mornings(39, 0, 1)", x.mornings(39, 0, 1), 568591626);
        due("mornings(40, 0, 1)", x.mornings(40, 0, 1), 1624430000);
    }

    private static void p20Seed() {
        sentence("seed (0 at least)");
        for (int bad : new int[] {-1, -2, LEAST, LEAST + 1}) {
            refuses("mornings(1, " + bad + ", 0)", Boundary::midst, x -> x.mornings(1, bad, 0), OUTSIDE);
            refuses("mornings(40, " + bad + ", 1)", Boundary::midst, x -> x.mornings(40, bad, 1), OUTSIDE);
        }
        RainLetters x = lay(PLAIN);
        due("mornings(1, 0, 1)", x.mornings(1, 0, 1), 551188310);
        due("mornings(1, 1, 1)", x.mornings(1, 1, 1), 267834847);
        due("mornings(1, MOST - 1, 1)", x.mornings(1, MOST - 1, 1), 1117895236);
        due("mornings(1, MOST, 1)", x.mornings(1, MOST, 1), 834541773);
    }

    private static void p20What() {
        sentence("what = 0 how many LETTERS, 1 the SEED then");
        for (int bad : new int[] {-1, 2, LEAST, MOST}) {
            refuses("mornings(1, 0, " + bad + ")", Boundary::midst, x -> x.mornings(1, 0, bad), OUTSIDE);
        }
        asks("mornings(1, 0, 0)", () -> fall(lay(PLAIN), 0, "abc"), x -> x.mornings(1, 0, 0), 5);
        asks("mornings(1, 0, 1)", () -> fall(lay(PLAIN), 0, "abc"), x -> x.mornings(1, 0, 1), 551188310);
    }

    private static void p20NoStreet() {
        sentence("STATE: no STREET.");
        refuses("mornings(1, 0, 0)", () -> page("ab"), x -> x.mornings(1, 0, 0), STATE);
        refuses("mornings(40, MOST, 1)", RainLetters::new, x -> x.mornings(40, MOST, 1), STATE);
        refuses("times without a street", RainLetters::new, x -> x.mornings(0, 0, 0), OUTSIDE);
        refuses("times without a street", RainLetters::new, x -> x.mornings(41, 0, 0), OUTSIDE);
        refuses("seed without a street", RainLetters::new, x -> x.mornings(1, -1, 0), OUTSIDE);
        refuses("what without a street", RainLetters::new, x -> x.mornings(1, 0, 2), OUTSIDE);
    }

    private static void p20ByTheRestOf2ToThe31() {
        sentence("the next SEED each time: 1103515245 times it and 12345, its rest by 2 to the 31");
        RainLetters x = lay(PLAIN);
        for (int seed : new int[] {0, 1, 65535, 65536, 1 << 30, MOST}) {
            long next = seed;
            for (int draw = 0; draw < 400; draw++) {
                next = (1103515245L * next + 12345L) % 2147483648L;
            }
            due("mornings(40, " + seed + ", 1)", x.mornings(40, seed, 1), next);
        }
        due("mornings(40, MOST, 1)", x.mornings(40, MOST, 1), 219372911);
    }

    private static void p20FromADriedStreetEachTime() {
        sentence("so many times from a DRIED STREET five DROPS, each into a GUTTER by a DRAW of 6, with a LETTER by a "
            + "DRAW of 5: LETTERS OUT of all together");
        // By seed 0: d into 0, c into 4, c into 0, b into 1, a into 2: of the bowls, one lets one out.
        RainLetters bowls = lay(BOWLS);
        due("a morning of bowls", bowls.mornings(1, 0, 0), 1);
        due("two: they are empty again", bowls.mornings(2, 0, 0), 2);
        due("39", bowls.mornings(39, 0, 0), 53);
        due("40", bowls.mornings(40, 0, 0), 54);
        due("40 by the greatest seed", bowls.mornings(40, MOST, 0), 57);
        RainLetters thieves = lay(THIEVES);
        due("a morning of thieves", thieves.mornings(1, 0, 0), 4);
        due("39", thieves.mornings(39, 0, 0), 112);
        due("40", thieves.mornings(40, 0, 0), 115);
        due("40 by the greatest seed", thieves.mornings(40, MOST, 0), 125);
        fall(bowls, 0, "abc");
        due("what has fallen does not matter", bowls.mornings(1, 0, 0), 1);
        due("behind twelve drops", fall(lay(BOWLS), 0, TWELVE).mornings(40, 0, 0), 54);
    }

    public static void main(String[] args) throws IOException, ReflectiveOperationException {
        run(BoundaryFoundTest.class, 16, 20);
    }
}
