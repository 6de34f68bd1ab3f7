import java.util.ArrayList;
import java.util.Arrays;
import java.util.HashSet;
import java.util.List;
import java.util.Random;
import java.util.Set;

/**
 * Long runs of drawn calls, each answer beside that of a model that shares nothing with the program: it keeps
 * only the drops and how the street flowed at each, and works out all else from these anew for every question.
 */
public final class ModelTest {
    private static final int NONE = -1, UNKNOWN = -101, OUTSIDE = -102, STATE = -103, FULL = -104;
    private static final int RUNS = 250, CALLS = 480;

    private static int wrong = 0;

    /** A drop, and where the gutters flowed when it fell. */
    private record Drop(int gutter, int letter, int[] flows) {
    }

    /** All that came to each gutter, was lost there and ran out of it. */
    private static final class Flood {
        final String[] arrived = {"", "", "", "", "", ""};
        final String[] words = {"", "", "", "", "", ""};
        final int[] lost = new int[6];
        int lastOut = NONE;

        Flood(String kinds, List<Drop> drops) {
            for (Drop drop : drops) {
                lastOut = run(kinds, drop.flows(), drop.gutter(), (char) ('a' + drop.letter()));
            }
        }

        private int run(String kinds, int[] flows, int gutter, char letter) {
            arrived[gutter] += letter;
            String on = lastOf(kinds.charAt(gutter), arrived[gutter]);
            if (on.isEmpty()) {
                lost[gutter] += kinds.charAt(gutter) == 'b' ? 0 : 1;
                return NONE;
            }
            if (flows[gutter] == NONE) {
                words[gutter] += on;
                return gutter;
            }
            return run(kinds, flows, flows[gutter], on.charAt(0));
        }

        /** What the last of all that came makes run on. */
        private static String lastOf(char kind, String came) {
            int last = came.length() - 1;
            String letter = came.substring(last);
            boolean unlike = last == 0 || came.charAt(last) != came.charAt(last - 1);
            switch (kind) {
                case 'b':
                    return last == 0 ? "" : came.substring(last - 1, last);
                case 's':
                    return unlike ? letter : "";
                case 't':
                    return "ae".contains(letter) ? "" : letter;
                case 'd':
                    return unlike && came.replaceAll("(.)\\1*", "$1").length() % 2 == 1 ? letter : "";
                default:
                    return letter;
            }
        }

        int out() {
            return String.join("", words).length();
        }
    }

    private static final class Model {
        String page = "";
        String kinds = null;
        int[] flows = null;
        List<Drop> drops = new ArrayList<>();
        String[] finds = new String[6];
        int[] keptFlows = null;
        List<Drop> keptDrops = null;
        String[] keptFinds = null;
        int streets, fews, ordered;

        boolean gutter(int g) {
            return kinds != null && g >= 0 && g <= 5;
        }

        Flood flood() {
            return new Flood(kinds == null ? "gggggg" : kinds, drops);
        }

        /** The drops as if they fell by these flows. */
        List<Drop> again(int[] by) {
            List<Drop> all = new ArrayList<>();
            for (Drop drop : drops) {
                all.add(new Drop(drop.gutter(), drop.letter(), by));
            }
            return all;
        }

        boolean isWord() {
            return page.matches("[a-e]{1,8}");
        }

        int letter(int code) {
            if (code < 1 || code > 126) {
                return OUTSIDE;
            }
            if (page.length() == 20) {
                return FULL;
            }
            page += (char) code;
            return page.length();
        }

        int blank() {
            int had = page.length();
            page = "";
            return had;
        }

        int fault(int sort) {
            if (sort < 0 || sort > 1) {
                return OUTSIDE;
            }
            String end = sort == 0 ? "g-,g-,g-,g-,g-,g-" : "aaaaaaaa";
            String form = sort == 0
                ? "[gbstd][1-5-],[gbstd][2-5-],[gbstd][3-5-],[gbstd][45-],[gbstd][5-],[gbstd]-" : "[a-e]{8}";
            for (int place = 0; place < page.length(); place++) {
                String start = page.substring(0, place + 1);
                if (start.length() > end.length() || !(start + end.substring(place + 1)).matches(form)) {
                    return place;
                }
            }
            return page.length();
        }

        int street() {
            if (page.length() != 17 || fault(0) != 17) {
                return STATE;
            }
            kinds = "";
            flows = new int[6];
            for (String part : page.split(",")) {
                flows[kinds.length()] = part.charAt(1) == '-' ? NONE : part.charAt(1) - '0';
                kinds += part.charAt(0);
            }
            drops = new ArrayList<>();
            finds = new String[6];
            keptFlows = null;
            page = "";
            streets++;
            return count(1);
        }

        int about(int g, int what) {
            if (!gutter(g)) {
                return UNKNOWN;
            }
            Flood flood = flood();
            String came = flood.arrived[g];
            switch (what) {
                case 0: return "gbstd".indexOf(kinds.charAt(g));
                case 1: return flows[g];
                case 2: return came.length();
                case 3: return came.isEmpty() || "gt".indexOf(kinds.charAt(g)) >= 0
                    ? NONE : came.charAt(came.length() - 1) - 'a';
                case 4: return flood.words[g].length();
                case 5: return flood.lost[g];
                default: return OUTSIDE;
            }
        }

        int as(int g, int kind) {
            if (!gutter(g)) {
                return UNKNOWN;
            }
            if (kind < 0 || kind > 4) {
                return OUTSIDE;
            }
            String[] such = {"gbstd", "b", "sd", "t", "d"};
            return such[kind].indexOf(kinds.charAt(g)) >= 0 ? g : NONE;
        }

        int word(int g, int place) {
            if (!gutter(g)) {
                return UNKNOWN;
            }
            String word = flood().words[g];
            return place < 0 || place >= word.length() ? UNKNOWN : word.charAt(place) - 'a';
        }

        int drop(int g, int letter) {
            if (!gutter(g)) {
                return UNKNOWN;
            }
            if (letter < 0 || letter > 4) {
                return OUTSIDE;
            }
            if (drops.size() == 12) {
                return FULL;
            }
            drops.add(new Drop(g, letter, flows.clone()));
            return flood().lastOut;
        }

        int rain(int d, int what) {
            if (d < 0 || d >= drops.size()) {
                return UNKNOWN;
            }
            return what == 0 ? drops.get(d).gutter() : what == 1 ? drops.get(d).letter() : OUTSIDE;
        }

        int dry() {
            if (kinds == null) {
                return STATE;
            }
            int had = drops.size();
            drops = new ArrayList<>();
            return had;
        }

        int turn(int g, int to) {
            if (!gutter(g)) {
                return UNKNOWN;
            }
            if (to < -1 || to > 5 || (to != NONE && to <= g)) {
                return OUTSIDE;
            }
            int had = flows[g];
            flows[g] = to;
            return had;
        }

        int fewTurns(int g, int what) {
            if (!gutter(g)) {
                return UNKNOWN;
            }
            if (what < 0 || what > 2) {
                return OUTSIDE;
            }
            if (!isWord() || fews == 20) {
                return STATE;
            }
            fews++;
            List<Integer> good = new ArrayList<>();
            tryFlows(g, 0, new int[6], good);
            int few = good.stream().mapToInt(Integer::bitCount).min().orElse(NONE);
            int[] best = good.stream().mapToInt(b -> b).filter(b -> Integer.bitCount(b) == few).sorted().toArray();
            return best.length == 0 ? NONE : what == 0 ? few : what == 1 ? best[0] : best.length;
        }

        private void tryFlows(int g, int next, int[] by, List<Integer> good) {
            if (next == 6) {
                if (by[g] == NONE && new Flood(kinds, again(by)).words[g].equals(page)) {
                    int bits = 0;
                    for (int i = 0; i < 6; i++) {
                        bits += by[i] == flows[i] ? 0 : 1 << i;
                    }
                    good.add(bits);
                }
                return;
            }
            for (int to = next; to <= 5; to++) {
                by[next] = to == next ? NONE : to;
                tryFlows(g, next + 1, by, good);
            }
        }

        int orders(int g) {
            if (!gutter(g)) {
                return UNKNOWN;
            }
            if (flows[g] != NONE || ordered == 20) {
                return STATE;
            }
            ordered++;
            Set<String> seen = new HashSet<>();
            List<Drop> all = again(flows);
            mix(g, new ArrayList<>(), all.subList(0, Math.min(6, all.size())), seen);
            return seen.size();
        }

        private void mix(int g, List<Drop> fallen, List<Drop> rest, Set<String> seen) {
            if (rest.isEmpty()) {
                seen.add(new Flood(kinds, fallen).words[g]);
            }
            for (int i = 0; i < rest.size(); i++) {
                List<Drop> more = new ArrayList<>(fallen);
                List<Drop> less = new ArrayList<>(rest);
                more.add(less.remove(i));
                mix(g, more, less, seen);
            }
        }

        int bestDrop(int letter) {
            if (letter < 0 || letter > 4) {
                return OUTSIDE;
            }
            if (kinds == null) {
                return STATE;
            }
            if (drops.size() == 12) {
                return FULL;
            }
            int[] out = new int[6];
            for (int g = 0; g < 6; g++) {
                List<Drop> more = again(flows);
                more.add(new Drop(g, letter, flows));
                out[g] = new Flood(kinds, more).out();
            }
            int most = Arrays.stream(out).max().getAsInt();
            for (int g = 0; ; g++) {
                if (out[g] == most) {
                    return g;
                }
            }
        }

        int found(int g) {
            if (!gutter(g)) {
                return UNKNOWN;
            }
            if (!page.isEmpty() && !isWord()) {
                return STATE;
            }
            finds[g] = page;
            page = "";
            return count(6);
        }

        int forget() {
            int had = count(6);
            finds = new String[6];
            return had;
        }

        private boolean fits(String as, List<Drop> fallen) {
            Flood flood = new Flood(as, fallen);
            for (int g = 0; g < 6; g++) {
                if (finds[g] != null && !finds[g].equals(flood.words[g])) {
                    return false;
                }
            }
            return true;
        }

        int kindOf(int g) {
            if (!gutter(g)) {
                return UNKNOWN;
            }
            int bits = 0;
            for (int kind = 0; kind < 5; kind++) {
                String as = kinds.substring(0, g) + "gbstd".charAt(kind) + kinds.substring(g + 1);
                bits += fits(as, again(flows)) ? 1 << kind : 0;
            }
            return bits;
        }

        int letterOf(int d) {
            if (d < 0 || d >= drops.size()) {
                return UNKNOWN;
            }
            int bits = 0;
            for (int letter = 0; letter < 5; letter++) {
                List<Drop> all = again(flows);
                all.set(d, new Drop(all.get(d).gutter(), letter, flows));
                bits += fits(kinds, all) ? 1 << letter : 0;
            }
            return bits;
        }

        int mornings(int times, int seed, int what) {
            if (times < 1 || times > 40 || seed < 0 || what < 0 || what > 1) {
                return OUTSIDE;
            }
            if (kinds == null) {
                return STATE;
            }
            long next = seed;
            int out = 0;
            for (int time = 0; time < times; time++) {
                List<Drop> fallen = new ArrayList<>();
                for (int drop = 0; drop < 5; drop++) {
                    next = (1103515245L * next + 12345L) % (1L << 31);
                    int g = (int) (next / 65536 % 6);
                    next = (1103515245L * next + 12345L) % (1L << 31);
                    fallen.add(new Drop(g, (int) (next / 65536 % 5), flows));
                }
                out += new Flood(kinds, fallen).out();
            }
            return what == 0 ? out : (int) next;
        }

        int image() {
            if (kinds == null) {
                return STATE;
            }
            keptFlows = flows.clone();
            keptDrops = new ArrayList<>(drops);
            keptFinds = finds.clone();
            return drops.size();
        }

        int restore() {
            if (keptFlows == null) {
                return STATE;
            }
            flows = keptFlows.clone();
            drops = new ArrayList<>(keptDrops);
            finds = keptFinds.clone();
            return drops.size();
        }

        int count(int what) {
            Flood flood = flood();
            switch (what) {
                case 0: return kinds == null ? 0 : 6;
                case 1: return kinds == null ? 0 : (int) Arrays.stream(flows).filter(f -> f == NONE).count();
                case 2: return drops.size();
                case 3: return flood.out();
                case 4: return Arrays.stream(flood.lost).sum();
                case 5: return drops.size() - flood.out() - Arrays.stream(flood.lost).sum();
                case 6: return (int) Arrays.stream(finds).filter(f -> f != null).count();
                case 7: return page.length();
                case 8: return streets;
                case 9: return fews;
                case 10: return ordered;
                default: return OUTSIDE;
            }
        }

        long digest() {
            List<Integer> numbers = new ArrayList<>();
            for (int g = 0; g < 6 && kinds != null; g++) {
                for (int what = 0; what < 6; what++) {
                    numbers.add(about(g, what));
                }
                flood().words[g].chars().forEach(c -> numbers.add(c - 'a'));
                numbers.add(kindOf(g));
            }
            for (int d = 0; d < drops.size(); d++) {
                numbers.add(drops.get(d).gutter());
                numbers.add(drops.get(d).letter());
                numbers.add(letterOf(d));
            }
            page.chars().forEach(numbers::add);
            for (int what = 0; what <= 10; what++) {
                numbers.add(count(what));
            }
            long h = 821;
            for (int number : numbers) {
                h = 31 * h + number;
            }
            return h;
        }
    }

    /** One object beside its model. */
    private static final class Run {
        final int number;
        final Random random;
        final RainLetters program = new RainLetters();
        final Model model = new Model();
        int calls = 0;

        Run(int number) {
            this.number = number;
            this.random = new Random(number);
        }

        void due(String call, long got, long want) {
            calls++;
            if (got != want) {
                wrong++;
                System.out.println("run " + number + ", call " + calls + ": " + call + " answered " + got
                    + ", due is " + want);
            }
        }

        void write(String text) {
            due("blank()", program.blank(), model.blank());
            for (char sign : text.toCharArray()) {
                due("letter(" + (int) sign + ")", program.letter(sign), model.letter(sign));
            }
        }

        /** Mostly from least to most, now and then beside them. */
        int near(int least, int most) {
            int sort = random.nextInt(40);
            if (sort == 0) {
                return random.nextBoolean() ? Integer.MIN_VALUE : Integer.MAX_VALUE;
            }
            return sort < 3 ? least - 1 : sort < 5 ? most + 1 : least + random.nextInt(most - least + 1);
        }

        String drawnStreet() {
            StringBuilder text = new StringBuilder();
            for (int g = 0; g < 6; g++) {
                int to = g + random.nextInt(6 - g);
                text.append(g == 0 ? "" : ",").append("gbstd".charAt(random.nextInt(5)));
                text.append(to == g ? "-" : Integer.toString(to));
            }
            if (random.nextInt(6) == 0) {
                text.setCharAt(random.nextInt(text.length()), "gbstd-,012345x".charAt(random.nextInt(14)));
            }
            return text.toString();
        }

        /** Mostly a word that may come, so that searches find something. */
        String drawnWord(int g) {
            String word = model.flood().words[Math.floorMod(g, 6)];
            switch (random.nextInt(6)) {
                case 0: return word.isEmpty() ? "" : word.substring(1);
                case 1: return word + (char) ('a' + random.nextInt(6));
                case 2: return "" + (char) ('a' + random.nextInt(5));
                case 3: return "";
                default: return word;
            }
        }

        void all() {
            while (calls < CALLS) {
                one(random.nextInt(100));
            }
            due("digest()", program.digest(), model.digest());
        }

        void one(int sort) {
            int g = near(0, 5);
            if (sort < 2 || (model.kinds == null && sort < 60)) {
                write(drawnStreet());
                due("fault(0)", program.fault(0), model.fault(0));
                due("street()", program.street(), model.street());
            } else if (sort < 40) {
                int letter = near(0, 4);
                due("drop(" + g + ", " + letter + ")", program.drop(g, letter), model.drop(g, letter));
            } else if (sort < 50) {
                write(drawnWord(g));
                due("fault(1)", program.fault(1), model.fault(1));
                due("found(" + g + ")", program.found(g), model.found(g));
            } else if (sort < 57) {
                int to = near(-1, 5);
                due("turn(" + g + ", " + to + ")", program.turn(g, to), model.turn(g, to));
            } else if (sort < 60) {
                write(drawnWord(g));
                int what = near(0, 2);
                due("fewTurns(" + g + ", " + what + ")", program.fewTurns(g, what), model.fewTurns(g, what));
            } else if (sort < 63) {
                due("orders(" + g + ")", program.orders(g), model.orders(g));
            } else if (sort < 66) {
                due("dry()", program.dry(), model.dry());
            } else {
                more(sort, g);
            }
        }

        void more(int sort, int g) {
            int a = near(0, 11);
            int b = near(0, 5);
            switch (sort) {
                case 66: due("image()", program.image(), model.image()); break;
                case 67: due("restore()", program.restore(), model.restore()); break;
                case 68: due("forget()", program.forget(), model.forget()); break;
                case 69: due("blank()", program.blank(), model.blank()); break;
                case 70: due("letter", program.letter(a), model.letter(a)); break;
                case 71: due("fault(" + b + ")", program.fault(b), model.fault(b)); break;
                case 72: case 73: case 74: mornings(); break;
                case 75: case 76: case 77:
                    due("bestDrop(" + b + ")", program.bestDrop(b), model.bestDrop(b)); break;
                case 78: case 79: case 80: case 81:
                    due("kindOf(" + g + ")", program.kindOf(g), model.kindOf(g)); break;
                case 82: case 83: case 84: case 85:
                    due("letterOf(" + a + ")", program.letterOf(a), model.letterOf(a)); break;
                case 86: case 87: due("count(" + a + ")", program.count(a), model.count(a)); break;
                case 88: case 89:
                    due("word(" + g + ", " + b + ")", program.word(g, b), model.word(g, b)); break;
                case 90: case 91:
                    due("about(" + g + ", " + b + ")", program.about(g, b), model.about(g, b)); break;
                case 92: due("as(" + g + ", " + b + ")", program.as(g, b), model.as(g, b)); break;
                case 93: due("rain(" + a + ", " + b + ")", program.rain(a, b), model.rain(a, b)); break;
                case 94: due("street()", program.street(), model.street()); break;
                default: due("digest()", program.digest(), model.digest()); break;
            }
        }

        void mornings() {
            int times = near(1, 40);
            int seed = random.nextInt() >> random.nextInt(31);
            int what = near(0, 1);
            due("mornings(" + times + ", " + seed + ", " + what + ")",
                program.mornings(times, seed, what), model.mornings(times, seed, what));
        }
    }

    public static void main(String[] args) {
        for (int number = 1; number <= RUNS && wrong < 20; number++) {
            new Run(number).all();
        }
        System.out.println(wrong == 0 ? "the program and the model agree" : wrong + " answers are not as due");
        if (wrong != 0) {
            System.exit(1);
        }
    }
}
