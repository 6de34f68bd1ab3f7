import java.io.IOException;
import java.math.BigInteger;
import java.util.ArrayList;
import java.util.List;

/** The boundaries of promises 21 to 24, sentence by sentence: images, counts, the digest. */
public final class BoundaryAllTest extends Boundary {
    // ---- 21 image

    private static void p21NoStreet() {
        sentence("STATE: no STREET.");
        refuses("image()", RainLetters::new, x -> x.image(), STATE);
        refuses("image() ahead of street()", () -> page(PLAIN), x -> x.image(), STATE);
        due("image()", lay(PLAIN).image(), 0);
    }

    private static void p21HowManyHaveFallen() {
        sentence("An IMAGE is kept (one; the latest): how many DROPS have fallen.");
        for (int size : new int[] {0, 1, 11, 12}) {
            RainLetters x = fall(lay(PLAIN), 0, TWELVE.substring(0, size));
            long digest = x.digest();
            due("image() of " + size, x.image(), size);
            due("it changes nothing that is told", x.digest(), digest);
            x.dry();
            due("restore() of " + size, x.restore(), size);
            due("all is as it was", x.digest(), digest);
        }
    }

    private static void p21TheLatest() {
        sentence("An IMAGE is kept (one; the latest)");
        RainLetters x = fall(lay(PLAIN), 0, "a");
        due("image() of one", x.image(), 1);
        x.drop(0, 1);
        due("image() of two", x.image(), 2);
        x.drop(0, 2);
        due("restore()", x.restore(), 2);
        due("restore() again: not the one ahead of it", x.restore(), 2);
        x.dry();
        due("image() of none", x.image(), 0);
        x.drop(0, 0);
        due("restore()", x.restore(), 0);
    }

    // ---- 22 restore

    private static void p22NoneWasKept() {
        sentence("STATE: none was kept, or there is another STREET since.");
        refuses("restore() without a street", RainLetters::new, x -> x.restore(), STATE);
        refuses("restore() of a new street", () -> lay(PLAIN), x -> x.restore(), STATE);
        refuses("restore() with drops, a word found, a page", () -> write(find(fall(lay(PLAIN), 0, "abc"), 0, "ab"), "a"),
            x -> x.restore(), STATE);
        RainLetters x = new RainLetters();
        due("a refused image() keeps none", x.image(), STATE);
        write(x, PLAIN).street();
        due("restore()", x.restore(), STATE);
        due("image()", x.image(), 0);
        due("restore()", x.restore(), 0);
    }

    private static RainLetters another(String text) {
        RainLetters x = fall(lay(PLAIN), 0, "ab");
        x.image();
        rewrite(x, text).street();
        return fall(x, 1, "c");
    }

    private static void p22AnotherStreetSince() {
        sentence("or there is another STREET since");
        refuses("restore() with another street", () -> another(CHAIN), x -> x.restore(), STATE);
        refuses("restore() with another of the same text", () -> another(PLAIN), x -> x.restore(), STATE);
        RainLetters refused = another(PLAIN + ",");
        due("no other street: street() was refused", refused.restore(), 2);
        RainLetters x = another(CHAIN);
        due("image() of the other", x.image(), 1);
        due("restore()", x.restore(), 1);
        due("about(0, 1)", x.about(0, 1), 1);
    }

    private static void p22TurnedIsNoOtherStreet() {
        sentence("or there is another STREET since");
        RainLetters x = fall(lay(PLAIN), 0, "ab");
        x.image();
        for (int gutter = 0; gutter < 5; gutter++) {
            x.turn(gutter, gutter + 1);
        }
        due("restore()", x.restore(), 2);
        due("the digest is as if none had been turned", x.digest(), fall(lay(PLAIN), 0, "ab").digest());
    }

    private static void p22WhatAnImageKeeps() {
        sentence("An IMAGE keeps where GUTTERS flow, THE RAIN, what is kept, came ahead, is OUT, FOUND.");
        RainLetters x = lay("b-,s-,d-,t-,g5,g-");
        fall(fall(fall(fall(fall(x, 0, "abc"), 1, "ab"), 2, "abc"), 3, "ab"), 4, "de");
        find(x, 0, "ab");
        find(x, 3, "");
        x.turn(0, 4);
        due("image() of twelve", x.image(), 12);
        long digest = x.digest();
        x.turn(0, 5);
        x.turn(4, NONE);
        x.dry();
        fall(fall(fall(x, 0, "ed"), 1, "cd"), 2, "e");
        find(x, 3, "b");
        find(x, 5, "b");
        due("restore()", x.restore(), 12);
        due("digest()", x.digest(), digest);
        dueWord(x, 0, "ab");
        dueWord(x, 1, "ab");
        dueWord(x, 2, "ac");
        dueWord(x, 3, "b");
        dueWord(x, 5, "de");
        due("about(0, 3)", x.about(0, 3), 2);
        due("about(1, 3)", x.about(1, 3), 1);
        due("about(2, 5)", x.about(2, 5), 1);
        due("about(0, 1)", x.about(0, 1), 4);
        due("rain(11, 1)", x.rain(11, 1), 4);
        due("count(6)", x.count(6), 2);
        due("the 13th", x.drop(0, 0), FULL);
    }

    private static void p22OfEachGutter() {
        sentence("An IMAGE keeps where GUTTERS flow, THE RAIN, what is kept, came ahead, is OUT, FOUND.");
        for (int gutter = 0; gutter < 6; gutter++) {
            RainLetters x = find(fall(lay(PLAIN), gutter, "ab"), gutter, "ab");
            x.image();
            x.dry();
            find(fall(x, gutter, "cd"), gutter, "cd");
            due("restore()", x.restore(), 2);
            dueWord(x, gutter, "ab");
            due("kindOf(" + gutter + "): ab is found, by g, s", x.kindOf(gutter), 1 | 4);
            due("letterOf(0)", x.letterOf(0), 1);
            due("letterOf(1)", x.letterOf(1), 2);
        }
    }

    private static void p22TheDamGoesOn() {
        sentence("An IMAGE keeps where GUTTERS flow, THE RAIN, what is kept, came ahead, is OUT, FOUND.");
        for (int ahead = 0; ahead <= 3; ahead++) {
            RainLetters x = fall(lay("d-,g-,g-,g-,g-,g-"), 0, "abab".substring(0, ahead));
            x.image();
            fall(x, 0, "cdc");
            x.restore();
            due("behind " + ahead + " the next of those", x.drop(0, 4), ahead % 2 == 0 ? 0 : NONE);
            due("and the one behind it", x.drop(0, 3), ahead % 2 == 0 ? NONE : 0);
        }
    }

    private static void p22WhatItDoesNotKeep() {
        sentence("It goes on from the IMAGE: how many DROPS have fallen.");
        RainLetters x = fall(lay(PLAIN), 0, "ab");
        write(x, "ab");
        x.image();
        write(x, "c");
        x.orders(0);
        x.fewTurns(0, 0);
        due("restore()", x.restore(), 2);
        due("count(7): the page", x.count(7), 3);
        due("count(8)", x.count(8), 1);
        due("count(9)", x.count(9), 1);
        due("count(10)", x.count(10), 1);
    }

    // ---- 23 count

    private static void p23What() {
        sentence("10 orders(). OUTSIDE.");
        for (int bad : new int[] {-1, 11, 12, LEAST, MOST}) {
            refuses("count(" + bad + ")", Boundary::midst, x -> x.count(bad), OUTSIDE);
            refuses("count(" + bad + ") without a street", RainLetters::new, x -> x.count(bad), OUTSIDE);
        }
        due("count(0)", lay(PLAIN).count(0), 6);
        due("count(10)", lay(PLAIN).count(10), 0);
    }

    private static void p23NoStreet() {
        sentence("0 GUTTERS (0: no STREET), 1 that flow OUT");
        for (int what = 0; what <= 10; what++) {
            due("count(" + what + ") of a page", page("abc").count(what), what == 7 ? 3 : 0);
        }
        due("count(0)", lay(CHAIN).count(0), 6);
        due("count(1)", lay(CHAIN).count(1), 1);
        RainLetters x = lay(CHAIN);
        for (int gutter = 0; gutter < 5; gutter++) {
            x.turn(gutter, NONE);
            due("count(1), turned", x.count(1), gutter + 2);
        }
    }

    private static void p23DropsOutLostKept() {
        sentence("2 DROPS that have fallen, 3 LETTERS that are OUT, 4 lost, 5 kept by BOWLS");
        String[] streets = {"g-,g-,g-,g-,g-,g-", "t-,g-,g-,g-,g-,g-", "b1,b2,b3,b4,b5,b-", "b-,b-,b-,b-,b-,b-"};
        int[] out = {12, 0, 6, 11};
        int[] lost = {0, 12, 0, 0};
        int[] kept = {0, 0, 6, 1};
        for (int i = 0; i < streets.length; i++) {
            RainLetters x = lay(streets[i]);
            for (int what = 2; what <= 5; what++) {
                due("count(" + what + ") of " + streets[i], x.count(what), 0);
            }
            fall(x, 0, "aaaaaaaaaaaa");
            due("count(2) of " + streets[i], x.count(2), 12);
            due("count(3) of " + streets[i], x.count(3), out[i]);
            due("count(4) of " + streets[i], x.count(4), lost[i]);
            due("count(5) of " + streets[i], x.count(5), kept[i]);
        }
        RainLetters sieve = fall(lay("s-,d-,g-,g-,g-,g-"), 0, "ab");
        due("count(5): what came ahead to a sieve is not kept", sieve.count(5), 0);
    }

    private static void p23Found() {
        sentence("6 GUTTERS of which something is FOUND");
        RainLetters x = lay(PLAIN);
        due("count(6)", x.count(6), 0);
        for (int gutter = 5; gutter >= 0; gutter--) {
            x.found(gutter);
            due("count(6)", x.count(6), 6 - gutter);
        }
    }

    private static void p23LettersOfThePage() {
        sentence("7 letters of THE PAGE");
        RainLetters x = new RainLetters();
        for (int size = 1; size <= 21; size++) {
            x.letter('x');
            due("count(7)", x.count(7), Math.min(size, 20));
        }
        x.blank();
        due("count(7)", x.count(7), 0);
    }

    private static void p23HowOftenDone() {
        sentence("8 how often a STREET was read, 9 fewTurns() was done, 10 orders()");
        RainLetters x = new RainLetters();
        for (int read = 1; read <= 3; read++) {
            due("street() of no street", x.street(), STATE);
            due("count(8)", x.count(8), read - 1);
            write(x, PLAIN).street();
            due("count(8)", x.count(8), read);
        }
        write(x, "a");
        for (int done = 1; done <= 21; done++) {
            x.fewTurns(0, 0);
            due("count(9)", x.count(9), Math.min(done, 20));
            due("count(10)", x.count(10), 0);
        }
        for (int done = 1; done <= 21; done++) {
            x.orders(0);
            due("count(10)", x.count(10), Math.min(done, 20));
        }
        due("count(9)", x.count(9), 20);
        x.blank();
        write(x, PLAIN).street();
        due("count(8)", x.count(8), 4);
        due("count(9)", x.count(9), 20);
        due("count(10)", x.count(10), 20);
    }

    // ---- 24 digest

    /** 31 times h, and it, in whole numbers; only then the last 64 bits. */
    private static long whole(List<Integer> numbers) {
        BigInteger h = BigInteger.valueOf(821);
        for (int number : numbers) {
            h = h.multiply(BigInteger.valueOf(31)).add(BigInteger.valueOf(number));
        }
        return h.longValue();
    }

    /** The numbers that the document names, asked one by one. */
    private static List<Integer> numbers(RainLetters x, String page) {
        List<Integer> numbers = new ArrayList<>();
        for (int gutter = 0; gutter < x.count(0); gutter++) {
            for (int what = 0; what <= 5; what++) {
                numbers.add(x.about(gutter, what));
            }
            for (int place = 0; place < x.about(gutter, 4); place++) {
                numbers.add(x.word(gutter, place));
            }
            numbers.add(x.kindOf(gutter));
        }
        for (int drop = 0; drop < x.count(2); drop++) {
            numbers.add(x.rain(drop, 0));
            numbers.add(x.rain(drop, 1));
            numbers.add(x.letterOf(drop));
        }
        page.chars().forEach(numbers::add);
        for (int what = 0; what <= 10; what++) {
            numbers.add(x.count(what));
        }
        return numbers;
    }

    private static void dueDigest(String name, RainLetters x, String page) {
        rewrite(x, page);
        due(name, x.digest(), whole(numbers(x, page)));
        due(name + ", once more", x.digest(), whole(numbers(x, page)));
    }

    private static void p24WithoutStreet() {
        sentence("with a STREET of each GUTTER what about() tells for 0 to 5");
        due("of a new object", new RainLetters().digest(), mixed(0, 0, 0, 0, 0, 0, 0, 0, 0, 0, 0));
        due("of a page", page("a").digest(), mixed('a', 0, 0, 0, 0, 0, 0, 0, 1, 0, 0, 0));
        dueDigest("of a page of twenty", new RainLetters(), TWENTY);
    }

    private static void p24NoDropToTwelve() {
        sentence("each LETTER of its WORD, what kindOf() tells; of each DROP what rain() tells for 0 and 1, "
            + "what letterOf() tells; letters of THE PAGE; what count() tells for 0 to 10");
        dueDigest("of a new street", lay(OPEN), "");
        dueDigest("of a full page", lay(OPEN), TWENTY);
        dueDigest("of twelve drops", fall(lay(PLAIN), 0, TWELVE), "");
        dueDigest("of twelve drops and a full page", fall(lay(PLAIN), 0, TWELVE), TWENTY);
        dueDigest("in the midst of all", midst(), "ab");
        dueDigest("soaked", soaked(), "x");
        dueDigest("found what can't be", find(fall(lay(OPEN), 1, "ab"), 0, "abcdeabc"), "");
    }

    private static void p24Wrapping() {
        sentence("31 times h, and it (as longs, wrapping)");
        RainLetters x = lay(PLAIN);
        List<Integer> numbers = numbers(x, "");
        BigInteger h = BigInteger.valueOf(821);
        for (int number : numbers) {
            h = h.multiply(BigInteger.valueOf(31)).add(BigInteger.valueOf(number));
        }
        due("it is beyond a long", h.bitLength() > 64 ? 1 : 0, 1);
        due("digest()", x.digest(), h.longValue());
    }

    private static void p24ChangesNothing() {
        sentence("h is 821, then for each of these numbers, in order");
        RainLetters asked = midst();
        long digest = asked.digest();
        for (int again = 0; again < 5; again++) {
            due("digest()", asked.digest(), digest);
        }
        due("restore()", asked.restore(), 5);
        RainLetters twin = midst();
        twin.restore();
        due("digest() behind it", asked.digest(), twin.digest());
    }

    public static void main(String[] args) throws IOException, ReflectiveOperationException {
        run(BoundaryAllTest.class, 21, 24);
    }
}
