import java.util.ArrayList;
import java.util.List;
import java.util.Random;

/** Random runs of calls, each answer against a plain model that goes through the auction breath by breath. */
public final class ModelTest {
    private static final int NONE = -1, UNKNOWN = -101, OUTSIDE = -102, STATE = -103, FULL = -104;
    private static final int RUNS = 1500;
    private static final int CALLS = 300;
    private static final Due DUE = new Due();

    public static void main(String[] args) {
        for (int run = 0; run < RUNS && DUE.failed() < 20; run++) {
            run(run);
        }
        DUE.close("ModelTest");
    }

    private static void run(int seed) {
        Random random = new Random(seed);
        SecondSilence x = new SecondSilence();
        Model m = new Model();
        for (int i = 0; i < CALLS; i++) {
            if (random.nextInt(40) == 0 || i == 5) {
                write(random, x, m, seed);
            }
            call(random, x, m, "run " + seed + ", call " + i + ": ");
        }
        DUE.is("run " + seed + ": digest at the end", x.digest(), m.digest());
    }

    /** A page that is mostly a hall, but for one letter now and then. */
    private static void write(Random random, SecondSilence x, Model m, int seed) {
        if (random.nextInt(3) > 0) {
            DUE.is("run " + seed + ": blank", x.blank(), m.blank());
        }
        StringBuilder page = new StringBuilder();
        int bidders = random.nextInt(12) == 0 ? 1 + random.nextInt(6) : 2 + random.nextInt(4);
        for (int i = 0; i < bidders; i++) {
            page.append(i == 0 ? "" : ",").append("btsec".charAt(random.nextInt(5)));
            page.append(1 + random.nextInt(9)).append(random.nextInt(10)).append(random.nextInt(10));
        }
        page.append(";").append(random.nextInt(10));
        if (random.nextInt(5) == 0) {
            page.setCharAt(random.nextInt(page.length()), ",;b0129 z".charAt(random.nextInt(9)));
        }
        for (int i = 0; i < page.length(); i++) {
            DUE.is("run " + seed + ": letter", x.letter(page.charAt(i)), m.letter(page.charAt(i)));
        }
        DUE.is("run " + seed + ": fault of " + page, x.fault(), m.fault());
        DUE.is("run " + seed + ": hall of " + page, x.hall(), m.readHall());
    }

    /** Mostly from the range, now and then about its edges, or far outside. */
    private static int number(Random random, int from, int to) {
        switch (random.nextInt(25)) {
            case 0: return from - 1;
            case 1: return to + 1;
            case 2: return random.nextInt();
            case 3: return random.nextBoolean() ? Integer.MIN_VALUE : Integer.MAX_VALUE;
            default: return from + random.nextInt(to - from + 1);
        }
    }

    private static void call(Random random, SecondSilence x, Model m, String at) {
        int last = Math.max(0, m.bidders.size() - 1);
        int bidder = number(random, 0, last);
        switch (random.nextInt(23)) {
            case 0: case 1: {
                int what = number(random, 0, 9);
                DUE.is(at + "about(" + bidder + ", " + what + ")", x.about(bidder, what), m.about(bidder, what));
                break;
            }
            case 2: {
                int kind = number(random, 0, 4);
                DUE.is(at + "as(" + bidder + ", " + kind + ")", x.as(bidder, kind), m.as(bidder, kind));
                break;
            }
            case 3: case 4: case 5: {
                int breath = random.nextInt(5) == 0 ? NONE : number(random, 1, random.nextBoolean() ? 8 : 30);
                DUE.is(at + "choose(" + bidder + ", " + breath + ")", x.choose(bidder, breath), m.choose(bidder, breath));
                break;
            }
            case 6: {
                int v = number(random, 1, 9);
                DUE.is(at + "wind(" + bidder + ", " + v + ")", x.wind(bidder, v), m.setWind(bidder, v));
                break;
            }
            case 7: case 8: case 9: {
                int b = number(random, 0, last);
                boolean is = random.nextInt(3) > 0;
                DUE.is(at + "touch(" + bidder + ", " + b + ", " + is + ")", x.touch(bidder, b, is), m.touch(bidder, b, is));
                break;
            }
            case 10: {
                int breath = number(random, 1, random.nextBoolean() ? 10 : 40);
                DUE.is(at + "saying(" + breath + ")", x.saying(breath), m.saying(breath));
                break;
            }
            case 11: {
                int what = number(random, 0, 2);
                DUE.is(at + "lot(" + what + ")", x.lot(what), m.lot(what));
                break;
            }
            case 12: {
                int what = number(random, 0, 1);
                DUE.is(at + "best(" + bidder + ", " + what + ")", x.best(bidder, what), m.best(bidder, what));
                break;
            }
            case 13:
                callRests(random, x, m, at);
                break;
            case 14: case 15: {
                // Mostly what is so, or the rest would hardly ever agree with what is heard.
                boolean known = bidder >= 0 && bidder <= last && !m.bidders.isEmpty() && random.nextInt(4) > 0;
                int breath = known ? m.silences()[bidder] : number(random, 1, 40);
                DUE.is(at + "hear(" + bidder + ", " + breath + ")", x.hear(bidder, breath), m.hear(bidder, breath));
                break;
            }
            default:
                callMore(random, x, m, at, bidder);
        }
    }

    private static void callRests(Random random, SecondSilence x, Model m, String at) {
        // The model is slow in great halls.
        int breaths = number(random, 1, m.bidders.size() > 3 && random.nextInt(30) > 0 ? 3 : 4);
        int what = random.nextBoolean() ? 0 : number(random, 10, 14);
        if (random.nextInt(3) == 0) {
            DUE.is(at + "rests(" + breaths + ", " + what + ")", x.rests(breaths, what), m.rests(breaths, what));
        }
    }

    private static void callMore(Random random, SecondSilence x, Model m, String at, int bidder) {
        switch (random.nextInt(9)) {
            case 0:
                DUE.is(at + "forget()", x.forget(), m.forget());
                break;
            case 1:
                DUE.is(at + "winds(" + bidder + ")", x.winds(bidder), m.winds(bidder));
                break;
            case 2: case 3: {
                int what = number(random, 0, 1);
                DUE.is(at + "touched(" + what + ")", x.touched(what), m.touched(what));
                break;
            }
            case 4: {
                int times = number(random, 1, 60);
                int seed = random.nextInt(6) == 0 ? random.nextInt() : random.nextInt(Integer.MAX_VALUE);
                int what = number(random, 0, 2);
                String call = "sales(" + times + ", " + seed + ", " + what + ")";
                DUE.is(at + call, x.sales(times, seed, what), m.sales(times, seed, what));
                break;
            }
            case 5:
                DUE.is(at + "image()", x.image(), m.keepImage());
                break;
            case 6:
                DUE.is(at + "restore()", x.restore(), m.restore());
                break;
            case 7: {
                int what = number(random, 0, 7);
                DUE.is(at + "count(" + what + ")", x.count(what), m.count(what));
                break;
            }
            default: {
                int code = number(random, 32, 126);
                DUE.is(at + "letter(" + code + ")", x.letter(code), m.letter(code));
                DUE.is(at + "fault()", x.fault(), m.fault());
                if (random.nextInt(4) == 0) {
                    DUE.is(at + "digest()", x.digest(), m.digest());
                }
            }
        }
    }

    private ModelTest() {
    }

    private static final class Man {
        char kind;
        int wind;
        int sum;
        int wish;
        int choice = NONE;

        Man copy() {
            Man man = new Man();
            man.kind = kind;
            man.wind = wind;
            man.sum = sum;
            man.wish = wish;
            man.choice = choice;
            return man;
        }

        int windEnd() {
            switch (kind) {
                case 't': case 'c': return 1 + wind + wind;
                case 's': return 1 + wind / 2 + wind % 2;
                default: return 1 + wind;
            }
        }
    }

    /** The document's words, slowly. */
    private static final class Model {
        String page = "";
        List<Man> bidders = new ArrayList<>();
        boolean[][] touches = new boolean[5][5];
        List<int[]> heard = new ArrayList<>();
        int fall;
        int hallsRead;
        int restsDone;
        List<Man> imageBidders;
        boolean[][] imageTouches;
        List<int[]> imageHeard;

        private boolean known(int bidder) {
            return bidder >= 0 && bidder < bidders.size();
        }

        int letter(int code) {
            if (code < 32 || code > 126) {
                return OUTSIDE;
            }
            if (page.length() == 28) {
                return FULL;
            }
            page += (char) code;
            return page.length();
        }

        int blank() {
            int had = page.length();
            page = "";
            return had;
        }

        /** Whether some hall begins so: it is filled up in every way that could still be one. */
        private static boolean begins(String text) {
            String filled = "b100,b100,b100,b100,b100;0";
            for (int bidders = 2; bidders <= 5; bidders++) {
                String whole = filled.substring(0, 5 * bidders - 1) + ";0";
                if (text.length() <= whole.length() && isHall(text + whole.substring(text.length()))) {
                    return true;
                }
            }
            return false;
        }

        private static boolean isHall(String text) {
            return text.matches("[btsec][1-9][0-9][0-9](,[btsec][1-9][0-9][0-9]){1,4};[0-9]");
        }

        int fault() {
            for (int i = 0; i < page.length(); i++) {
                if (!begins(page.substring(0, i + 1))) {
                    return i;
                }
            }
            return page.length();
        }

        int readHall() {
            if (!isHall(page)) {
                return STATE;
            }
            bidders = new ArrayList<>();
            for (String text : page.substring(0, page.indexOf(';')).split(",")) {
                Man man = new Man();
                man.kind = text.charAt(0);
                man.wind = text.charAt(1) - '0';
                man.sum = text.charAt(2) - '0';
                man.wish = text.charAt(3) - '0';
                bidders.add(man);
            }
            fall = page.charAt(page.length() - 1) - '0';
            page = "";
            touches = new boolean[5][5];
            heard = new ArrayList<>();
            imageBidders = null;
            hallsRead++;
            return bidders.size();
        }

        int[] stops() {
            int n = bidders.size();
            int[] stops = new int[n];
            for (int breath = 1; breath <= 60; breath++) {
                for (int i = 0; i < n; i++) {
                    if (stops[i] == 0 && stopsNow(i, breath, stops)) {
                        stops[i] = breath;
                    }
                }
            }
            return stops;
        }

        private boolean stopsNow(int i, int breath, int[] stops) {
            Man man = bidders.get(i);
            if (man.choice == breath || man.windEnd() == breath) {
                return true;
            }
            for (int a = 0; a < bidders.size(); a++) {
                if (touches[a][i] && stops[a] != 0 && stops[a] == breath - 1) {
                    return true;
                }
            }
            return false;
        }

        int[] silences() {
            int[] silences = stops();
            for (int i = 0; i < silences.length; i++) {
                silences[i] += bidders.get(i).kind == 'e' ? 2 : 0;
            }
            return silences;
        }

        int getter() {
            int[] silences = silences();
            List<Integer> groups = new ArrayList<>();
            int one = NONE;
            for (int breath = 1; breath <= 70 && groups.size() < 2; breath++) {
                int silent = 0;
                for (int i = 0; i < silences.length; i++) {
                    if (silences[i] == breath) {
                        silent++;
                        one = i;
                    }
                }
                if (silent > 0) {
                    groups.add(silent);
                }
            }
            return groups.size() == 2 && groups.get(0) == 1 && groups.get(1) == 1 ? one : NONE;
        }

        int price(int i) {
            Man man = bidders.get(i);
            int price = 10 * man.sum;
            for (int breath = 1; breath < stops()[i] && man.kind != 'c'; breath++) {
                price -= fall;
            }
            return price < 0 ? 0 : price;
        }

        int gain(int i) {
            return getter() == i ? 10 * bidders.get(i).wish - price(i) : 0;
        }

        int about(int bidder, int what) {
            if (!known(bidder)) {
                return UNKNOWN;
            }
            Man man = bidders.get(bidder);
            switch (what) {
                case 0: return "btsec".indexOf(man.kind);
                case 1: return man.wind;
                case 2: return man.sum;
                case 3: return man.wish;
                case 4: return man.choice;
                case 5: return stops()[bidder];
                case 6: return silences()[bidder];
                case 7: return price(bidder);
                case 8: return gain(bidder);
                case 9: {
                    int bits = 0;
                    for (int a = 0; a < 5; a++) {
                        bits += touches[a][bidder] ? 1 << a : 0;
                    }
                    return bits;
                }
                default: return OUTSIDE;
            }
        }

        int as(int bidder, int kind) {
            if (!known(bidder)) {
                return UNKNOWN;
            }
            if (kind < 0 || kind > 4) {
                return OUTSIDE;
            }
            char letter = bidders.get(bidder).kind;
            boolean is = kind == 0 || "btsec".charAt(kind) == letter || kind == 1 && letter == 'c';
            return is ? bidder : NONE;
        }

        int choose(int bidder, int breath) {
            if (!known(bidder)) {
                return UNKNOWN;
            }
            if (breath != NONE && (breath < 1 || breath > 30)) {
                return OUTSIDE;
            }
            int before = bidders.get(bidder).choice;
            bidders.get(bidder).choice = breath;
            return before;
        }

        int setWind(int bidder, int v) {
            if (!known(bidder)) {
                return UNKNOWN;
            }
            if (v < 1 || v > 9) {
                return OUTSIDE;
            }
            int before = bidders.get(bidder).wind;
            bidders.get(bidder).wind = v;
            return before;
        }

        int touch(int a, int b, boolean is) {
            if (!known(a) || !known(b) || a == b) {
                return UNKNOWN;
            }
            boolean before = touches[a][b];
            touches[a][b] = is;
            return before ? 1 : 0;
        }

        int saying(int breath) {
            if (breath < 1 || breath > 40) {
                return OUTSIDE;
            }
            if (bidders.isEmpty()) {
                return STATE;
            }
            int saying = 0;
            for (int stop : stops()) {
                saying += stop <= breath ? 0 : 1;
            }
            return saying;
        }

        int lot(int what) {
            if (what < 0 || what > 2) {
                return OUTSIDE;
            }
            if (bidders.isEmpty()) {
                return STATE;
            }
            int getter = getter();
            return getter == NONE || what == 0 ? getter : what == 1 ? price(getter) : silences()[getter];
        }

        int best(int bidder, int what) {
            if (!known(bidder)) {
                return UNKNOWN;
            }
            if (what < 0 || what > 1) {
                return OUTSIDE;
            }
            Man man = bidders.get(bidder);
            int before = man.choice;
            int[] best = {0, Integer.MIN_VALUE};
            for (int breath = 30; breath >= 1; breath--) {
                man.choice = breath;
                int gain = gain(bidder);
                if (gain >= best[1]) {
                    best = new int[] {breath, gain};
                }
            }
            man.choice = before;
            return what == 0 ? best[0] : best[1] + 100;
        }

        int rests(int breaths, int what) {
            if (breaths < 1 || breaths > 4 || what != 0 && (what < 10 || what > 14)) {
                return OUTSIDE;
            }
            if (bidders.isEmpty() || restsDone >= 20) {
                return STATE;
            }
            restsDone++;
            List<Man> before = copyOf(bidders);
            List<int[]> rests = new ArrayList<>();
            collectRests(0, breaths, rests);
            bidders = before;
            if (what == 0) {
                return rests.size();
            }
            return rests.isEmpty() || what - 10 >= bidders.size() ? NONE : rests.get(0)[what - 10];
        }

        private void collectRests(int from, int breaths, List<int[]> rests) {
            if (from == bidders.size()) {
                if (isRest(breaths)) {
                    int[] choices = new int[from];
                    for (int i = 0; i < from; i++) {
                        choices[i] = bidders.get(i).choice;
                    }
                    rests.add(choices);
                }
                return;
            }
            for (int breath = 1; breath <= breaths; breath++) {
                bidders.get(from).choice = breath;
                collectRests(from + 1, breaths, rests);
            }
        }

        private boolean isRest(int breaths) {
            for (int i = 0; i < bidders.size(); i++) {
                Man man = bidders.get(i);
                int chosen = man.choice;
                int gain = gain(i);
                boolean better = false;
                for (int breath = 1; breath <= breaths; breath++) {
                    man.choice = breath;
                    better |= gain(i) > gain;
                }
                man.choice = chosen;
                if (better) {
                    return false;
                }
            }
            return true;
        }

        int hear(int bidder, int breath) {
            if (!known(bidder)) {
                return UNKNOWN;
            }
            if (breath < 1 || breath > 40) {
                return OUTSIDE;
            }
            if (heard.size() == 8) {
                return FULL;
            }
            heard.add(new int[] {bidder, breath});
            return heard.size();
        }

        int forget() {
            int had = heard.size();
            heard = new ArrayList<>();
            return had;
        }

        private boolean heardIsSo(int aboutWhom) {
            int[] silences = silences();
            for (int[] one : heard) {
                if ((aboutWhom == NONE || aboutWhom == one[0]) && silences[one[0]] != one[1]) {
                    return false;
                }
            }
            return true;
        }

        int winds(int bidder) {
            if (!known(bidder)) {
                return UNKNOWN;
            }
            Man man = bidders.get(bidder);
            int before = man.wind;
            int bits = 0;
            for (int wind = 1; wind <= 9; wind++) {
                man.wind = wind;
                bits += heardIsSo(bidder) ? 1 << wind : 0;
            }
            man.wind = before;
            return bits;
        }

        int touched(int what) {
            if (what < 0 || what > 1) {
                return OUTSIDE;
            }
            if (bidders.isEmpty()) {
                return STATE;
            }
            List<Integer> found = new ArrayList<>();
            if (heardIsSo(NONE)) {
                found.add(-1);
            }
            for (int a = 0; a < bidders.size(); a++) {
                for (int b = 0; b < bidders.size(); b++) {
                    if (a != b && !touches[a][b]) {
                        touches[a][b] = true;
                        if (heardIsSo(NONE)) {
                            found.add(5 * a + b);
                        }
                        touches[a][b] = false;
                    }
                }
            }
            return what == 0 ? found.size() : found.isEmpty() ? -2 : found.get(0);
        }

        int sales(int times, int seed, int what) {
            if (times < 1 || times > 60 || seed < 0 || what < 0 || what > 2) {
                return OUTSIDE;
            }
            if (bidders.isEmpty()) {
                return STATE;
            }
            List<Man> before = copyOf(bidders);
            long next = seed;
            int sold = 0;
            int prices = 0;
            for (int i = 0; i < times; i++) {
                for (Man man : bidders) {
                    next = (1103515245L * next + 12345L) % (1L << 31);
                    man.choice = (int) (next / 65536 % 9) + 1;
                }
                int getter = getter();
                sold += getter == NONE ? 0 : 1;
                prices += getter == NONE ? 0 : price(getter);
            }
            bidders = before;
            return what == 0 ? sold : what == 1 ? prices : (int) next;
        }

        int keepImage() {
            if (bidders.isEmpty()) {
                return STATE;
            }
            imageBidders = copyOf(bidders);
            imageTouches = copyOf(touches);
            imageHeard = new ArrayList<>(heard);
            return bidders.size();
        }

        int restore() {
            if (imageBidders == null) {
                return STATE;
            }
            bidders = copyOf(imageBidders);
            touches = copyOf(imageTouches);
            heard = new ArrayList<>(imageHeard);
            return bidders.size();
        }

        private static List<Man> copyOf(List<Man> men) {
            List<Man> copies = new ArrayList<>();
            for (Man man : men) {
                copies.add(man.copy());
            }
            return copies;
        }

        private static boolean[][] copyOf(boolean[][] rows) {
            boolean[][] copies = new boolean[rows.length][];
            for (int i = 0; i < rows.length; i++) {
                copies[i] = rows[i].clone();
            }
            return copies;
        }

        int count(int what) {
            int chosen = 0;
            int touching = 0;
            for (Man man : bidders) {
                chosen += man.choice == NONE ? 0 : 1;
            }
            for (boolean[] row : touches) {
                for (boolean is : row) {
                    touching += is ? 1 : 0;
                }
            }
            int[] counts = {bidders.size(), fall, chosen, touching, heard.size(), page.length(), hallsRead, restsDone};
            return what < 0 || what > 7 ? OUTSIDE : counts[what];
        }

        long digest() {
            List<Long> numbers = new ArrayList<>();
            if (!bidders.isEmpty()) {
                for (int what = 0; what < 3; what++) {
                    numbers.add((long) lot(what));
                }
                numbers.add((long) touched(0));
                numbers.add((long) touched(1));
            }
            for (int i = 0; i < bidders.size(); i++) {
                for (int what = 0; what < 10; what++) {
                    numbers.add((long) about(i, what));
                }
                numbers.add((long) best(i, 0));
                numbers.add((long) best(i, 1));
                numbers.add((long) winds(i));
            }
            for (char letter : page.toCharArray()) {
                numbers.add((long) letter);
            }
            for (int what = 0; what < 8; what++) {
                numbers.add((long) count(what));
            }
            long h = 911;
            for (long number : numbers) {
                h = 31 * h + number;
            }
            return h;
        }
    }
}
