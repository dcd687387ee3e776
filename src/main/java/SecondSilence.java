/** An auction whose lot goes to the one who is silent second; see ../shared/DOC.md. */
public final class SecondSilence {
    public static final int NONE = -1, UNKNOWN = -101, OUTSIDE = -102, STATE = -103, FULL = -104;

    private static final int MOST_BIDDERS = 5;
    private static final int LAST_CHOICE = 30;
    private static final int LAST_BREATH = 40;
    private static final int MOST_WIND = 9;
    private static final int MOST_RESTS = 20;
    private static final int MOST_REST_BREATHS = 4;
    private static final int NO_SUCH_TOUCH = -2;

    private final Page page;
    private final Hall hall;
    private final Course course;
    private final Hearing heard;
    private final Image image;
    private final Rests rests;
    private int hallsRead;
    private int restsDone;

    public SecondSilence() {
        page = new Page();
        course = new Course();
        hall = course.hall;
        heard = new Hearing();
        image = new Image();
        rests = new Rests();
    }

    // ---- the hall

    public int letter(int code) {
        if (code < 32 || code > 126) {
            return OUTSIDE;
        }
        if (page.isFull()) {
            return FULL;
        }
        page.write(code);
        return page.length;
    }

    public int blank() {
        int had = page.length;
        page.length = 0;
        return had;
    }

    public int fault() {
        return page.faultPlace();
    }

    public int hall() {
        if (!page.isHall()) {
            return STATE;
        }
        page.readInto(hall);
        page.length = 0;
        heard.size = 0;
        hallsRead++;
        return hall.size;
    }

    // ---- bidders

    public int about(int bidder, int what) {
        if (!hall.has(bidder)) {
            return UNKNOWN;
        }
        if (what < 0 || what > 9) {
            return OUTSIDE;
        }
        if (what >= 5 && what <= 8) {
            course.runAsItIs();
        }
        Bidder who = hall.seats[bidder];
        switch (what) {
            case 0: return who.kind();
            case 1: return who.wind;
            case 2: return who.sum;
            case 3: return who.wish;
            case 4: return who.choice;
            case 5: return course.stops[bidder];
            case 6: return course.silences[bidder];
            case 7: return course.priceOf(bidder);
            case 8: return course.gainOf(bidder);
            default: return who.touchers;
        }
    }

    public int as(int bidder, int kind) {
        if (!hall.has(bidder)) {
            return UNKNOWN;
        }
        if (kind < 0 || kind > 4) {
            return OUTSIDE;
        }
        return isOfKind(hall.seats[bidder], kind) ? bidder : NONE;
    }

    private static boolean isOfKind(Bidder who, int kind) {
        switch (kind) {
            case Tenor.KIND: return who instanceof Tenor;
            case Stammerer.KIND: return who instanceof Stammerer;
            case Echoer.KIND: return who instanceof Echoer;
            case ChoirMan.KIND: return who instanceof ChoirMan;
            default: return true;
        }
    }

    public int choose(int bidder, int breath) {
        if (!hall.has(bidder)) {
            return UNKNOWN;
        }
        if (breath != NONE && (breath < 1 || breath > LAST_CHOICE)) {
            return OUTSIDE;
        }
        Bidder who = hall.seats[bidder];
        int before = who.choice;
        who.choice = breath;
        return before;
    }

    public int wind(int bidder, int v) {
        if (!hall.has(bidder)) {
            return UNKNOWN;
        }
        if (v < 1 || v > MOST_WIND) {
            return OUTSIDE;
        }
        Bidder who = hall.seats[bidder];
        int before = who.wind;
        who.wind = v;
        return before;
    }

    public int touch(int a, int b, boolean is) {
        if (!hall.has(a) || !hall.has(b) || a == b) {
            return UNKNOWN;
        }
        Bidder who = hall.seats[b];
        int before = (who.touchers >> a) & 1;
        who.touchers = is ? who.touchers | 1 << a : who.touchers & ~(1 << a);
        return before;
    }

    public int saying(int breath) {
        if (breath < 1 || breath > LAST_BREATH) {
            return OUTSIDE;
        }
        if (hall.size == 0) {
            return STATE;
        }
        course.runAsItIs();
        int saying = 0;
        for (int i = 0; i < hall.size; i++) {
            if (course.stops[i] > breath) {
                saying++;
            }
        }
        return saying;
    }

    public int lot(int what) {
        if (what < 0 || what > 2) {
            return OUTSIDE;
        }
        if (hall.size == 0) {
            return STATE;
        }
        course.runAsItIs();
        if (course.getter == NONE) {
            return NONE;
        }
        switch (what) {
            case 0: return course.getter;
            case 1: return course.priceOf(course.getter);
            default: return course.silences[course.getter];
        }
    }

    // ---- what would be

    public int best(int bidder, int what) {
        if (!hall.has(bidder)) {
            return UNKNOWN;
        }
        if (what < 0 || what > 1) {
            return OUTSIDE;
        }
        course.takeAsItIs();
        int bestBreath = 1;
        int bestGain = gainByChoice(bidder, 1);
        for (int breath = 2; breath <= LAST_CHOICE; breath++) {
            int gain = gainByChoice(bidder, breath);
            if (gain > bestGain) {
                bestBreath = breath;
                bestGain = gain;
            }
        }
        return what == 0 ? bestBreath : bestGain + 100;
    }

    private int gainByChoice(int bidder, int breath) {
        course.supposeChoice(bidder, breath);
        course.run();
        return course.gainOf(bidder);
    }

    public int rests(int breaths, int what) {
        if (breaths < 1 || breaths > MOST_REST_BREATHS) {
            return OUTSIDE;
        }
        if (what != 0 && (what < 10 || what > 14)) {
            return OUTSIDE;
        }
        if (hall.size == 0 || restsDone >= MOST_RESTS) {
            return STATE;
        }
        restsDone++;
        rests.find(course, breaths);
        return what == 0 ? rests.howMany : rests.choiceInFirst(what - 10);
    }

    // ---- what is heard

    public int hear(int bidder, int breath) {
        if (!hall.has(bidder)) {
            return UNKNOWN;
        }
        if (breath < 1 || breath > LAST_BREATH) {
            return OUTSIDE;
        }
        if (heard.isFull()) {
            return FULL;
        }
        heard.add(bidder, breath);
        return heard.size;
    }

    public int forget() {
        int had = heard.size;
        heard.size = 0;
        return had;
    }

    public int winds(int bidder) {
        if (!hall.has(bidder)) {
            return UNKNOWN;
        }
        int bits = 0;
        course.takeAsItIs();
        for (int wind = 1; wind <= MOST_WIND; wind++) {
            course.supposeWind(bidder, wind);
            course.run();
            if (heard.agreesOn(bidder, course)) {
                bits |= 1 << wind;
            }
        }
        return bits;
    }

    public int touched(int what) {
        if (what < 0 || what > 1) {
            return OUTSIDE;
        }
        if (hall.size == 0) {
            return STATE;
        }
        int howMany = 0;
        int least = NO_SUCH_TOUCH;
        course.runAsItIs();
        if (heard.agrees(course)) {
            howMany = 1;
            least = NONE;
        }
        for (int pair = 0; pair < MOST_BIDDERS * MOST_BIDDERS; pair++) {
            if (explainsHeard(pair / MOST_BIDDERS, pair % MOST_BIDDERS)) {
                howMany++;
                least = least == NO_SUCH_TOUCH ? pair : least;
            }
        }
        return what == 0 ? howMany : least;
    }

    private boolean explainsHeard(int a, int b) {
        if (!hall.has(a) || !hall.has(b) || a == b || hall.touches(a, b)) {
            return false;
        }
        course.takeAsItIs();
        course.supposeTouch(a, b);
        course.run();
        return heard.agrees(course);
    }

    public int sales(int times, int seed, int what) {
        if (times < 1 || times > 60 || seed < 0 || what < 0 || what > 2) {
            return OUTSIDE;
        }
        if (hall.size == 0) {
            return STATE;
        }
        int sold = 0;
        int prices = 0;
        int next = seed;
        course.takeAsItIs();
        for (int sale = 0; sale < times; sale++) {
            next = supposeDrawnChoices(next);
            course.run();
            if (course.getter != NONE) {
                sold++;
                prices += course.priceOf(course.getter);
            }
        }
        switch (what) {
            case 0: return sold;
            case 1: return prices;
            default: return next;
        }
    }

    private int supposeDrawnChoices(int seed) {
        int next = seed;
        for (int i = 0; i < hall.size; i++) {
            next = (int) ((1103515245L * next + 12345L) & 0x7fffffffL);
            course.supposeChoice(i, 1 + next / 65536 % 9);
        }
        return next;
    }

    // ---- what is told of all

    public int image() {
        if (hall.size == 0) {
            return STATE;
        }
        image.keep(hall, heard, hallsRead);
        return hall.size;
    }

    public int restore() {
        if (!image.isOf(hallsRead)) {
            return STATE;
        }
        image.giveBack(hall, heard);
        return hall.size;
    }

    public int count(int what) {
        switch (what) {
            case 0: return hall.size;
            case 1: return hall.fall;
            case 2: return hall.howManyHaveChosen();
            case 3: return hall.howManyTouches();
            case 4: return heard.size;
            case 5: return page.length;
            case 6: return hallsRead;
            case 7: return restsDone;
            default: return OUTSIDE;
        }
    }

    public long digest() {
        long h = 911L;
        for (int what = 0; what <= 2 && hall.size > 0; what++) {
            h = 31L * h + lot(what);
        }
        for (int what = 0; what <= 1 && hall.size > 0; what++) {
            h = 31L * h + touched(what);
        }
        for (int i = 0; i < hall.size; i++) {
            h = digestWith(h, i);
        }
        for (int place = 0; place < page.length; place++) {
            h = 31L * h + page.codes[place];
        }
        for (int what = 0; what <= 7; what++) {
            h = 31L * h + count(what);
        }
        return h;
    }

    private long digestWith(long before, int bidder) {
        long h = before;
        for (int what = 0; what <= 9; what++) {
            h = 31L * h + about(bidder, what);
        }
        for (int what = 0; what <= 1; what++) {
            h = 31L * h + best(bidder, what);
        }
        return 31L * h + winds(bidder);
    }

    /** THE PAGE: letters that may become a HALL. */
    private static final class Page {
        static final int LIMIT = 28;
        // A bidder's four letters and the sign behind them.
        static final int STEP = 5;
        static final String KIND_LETTERS = "btsec";

        final int[] codes = new int[LIMIT];
        int length;

        boolean isFull() {
            return length >= LIMIT;
        }

        void write(int code) {
            if (length < LIMIT) {
                codes[length] = code;
                length++;
            }
        }

        int faultPlace() {
            // No ';' was seen yet, so the place of FALL lies behind every page.
            int fallPlace = LIMIT;
            for (int place = 0; place < length; place++) {
                if (!fits(codes[place], place, fallPlace)) {
                    return place;
                }
                if (codes[place] == ';') {
                    fallPlace = place + 1;
                }
            }
            return length;
        }

        private static boolean fits(int code, int place, int fallPlace) {
            if (place >= fallPlace) {
                return place == fallPlace && isDigit(code);
            }
            switch (place % STEP) {
                case 0: return kindOf(code) != NONE;
                case 1: return isDigit(code) && code != '0';
                case 4: return fitsBehindBidder(code, place / STEP + 1);
                default: return isDigit(code);
            }
        }

        private static boolean fitsBehindBidder(int code, int bidders) {
            return code == ',' && bidders < MOST_BIDDERS || code == ';' && bidders >= 2;
        }

        private static boolean isDigit(int code) {
            return code >= '0' && code <= '9';
        }

        private static int kindOf(int code) {
            return KIND_LETTERS.indexOf((char) code);
        }

        boolean isHall() {
            return length >= 2 && codes[length - 2] == ';' && faultPlace() == length;
        }

        void readInto(Hall hall) {
            int bidders = length / STEP;
            hall.size = 0;
            for (int i = 0; i < bidders; i++) {
                int place = STEP * i;
                hall.seat(kindOf(codes[place]), codes[place + 1] - '0', codes[place + 2] - '0', codes[place + 3] - '0');
            }
            hall.fall = codes[length - 1] - '0';
        }
    }

    /** A BIDDER of the plain KIND, and what all KINDS share. */
    private static class Bidder {
        final int sum;
        final int wish;
        int wind;
        int choice = NONE;
        // Bit a is set while bidder a touches this one.
        int touchers;

        Bidder(int wind, int sum, int wish) {
            this.wind = wind;
            this.sum = sum;
            this.wish = wish;
        }

        int kind() {
            return 0;
        }

        int breathsOf(int someWind) {
            return someWind;
        }

        int echo() {
            return 0;
        }

        final int endBy(int someChoice, int someWind) {
            int end = breathsOf(someWind) + 1;
            return someChoice == NONE ? end : Math.min(someChoice, end);
        }

        int priceAt(int stop, int fall) {
            return Math.max(0, 10 * sum - fall * (stop - 1));
        }
    }

    private static class Tenor extends Bidder {
        static final int KIND = 1;

        Tenor(int wind, int sum, int wish) {
            super(wind, sum, wish);
        }

        int kind() {
            return KIND;
        }

        int breathsOf(int someWind) {
            return 2 * someWind;
        }
    }

    private static final class Stammerer extends Bidder {
        static final int KIND = 2;

        Stammerer(int wind, int sum, int wish) {
            super(wind, sum, wish);
        }

        int kind() {
            return KIND;
        }

        int breathsOf(int someWind) {
            return (someWind + 1) / 2;
        }
    }

    private static final class Echoer extends Bidder {
        static final int KIND = 3;

        Echoer(int wind, int sum, int wish) {
            super(wind, sum, wish);
        }

        int kind() {
            return KIND;
        }

        int echo() {
            return 2;
        }
    }

    private static final class ChoirMan extends Tenor {
        static final int KIND = 4;

        ChoirMan(int wind, int sum, int wish) {
            super(wind, sum, wish);
        }

        int kind() {
            return KIND;
        }

        int priceAt(int stop, int fall) {
            return 10 * sum;
        }
    }

    /** THE HALL as it is; of size 0 while there is none. */
    private static final class Hall {
        // Every seat holds somebody from the start, so that none is ever null; those below size count.
        final Bidder[] seats = new Bidder[MOST_BIDDERS];
        int size;
        int fall;

        Hall() {
            for (int i = 0; i < MOST_BIDDERS; i++) {
                seats[i] = new Bidder(1, 0, 0);
            }
        }

        boolean has(int bidder) {
            return bidder >= 0 && bidder < size;
        }

        void seat(int kind, int wind, int sum, int wish) {
            if (size < MOST_BIDDERS) {
                seats[size] = newBidder(kind, wind, sum, wish);
                size++;
            }
        }

        private static Bidder newBidder(int kind, int wind, int sum, int wish) {
            switch (kind) {
                case Tenor.KIND: return new Tenor(wind, sum, wish);
                case Stammerer.KIND: return new Stammerer(wind, sum, wish);
                case Echoer.KIND: return new Echoer(wind, sum, wish);
                case ChoirMan.KIND: return new ChoirMan(wind, sum, wish);
                default: return new Bidder(wind, sum, wish);
            }
        }

        boolean touches(int a, int b) {
            return (seats[b].touchers >> a & 1) == 1;
        }

        int howManyHaveChosen() {
            int chosen = 0;
            for (int i = 0; i < size; i++) {
                if (seats[i].choice != NONE) {
                    chosen++;
                }
            }
            return chosen;
        }

        int howManyTouches() {
            int touches = 0;
            for (int i = 0; i < size; i++) {
                touches += Integer.bitCount(seats[i].touchers);
            }
            return touches;
        }
    }

    /** How the auction goes: by what is in its hall, or by what is supposed instead; the hall stays as it is. */
    private static final class Course {
        // Behind every breath at which somebody can be silent.
        static final int NEVER = 1000;

        final Hall hall = new Hall();
        // Where each would stop by his choice and his wind alone.
        private final int[] ends = new int[MOST_BIDDERS];
        private final int[] touchers = new int[MOST_BIDDERS];
        final int[] stops = new int[MOST_BIDDERS];
        final int[] silences = new int[MOST_BIDDERS];
        int getter = NONE;

        void takeAsItIs() {
            for (int i = 0; i < hall.size; i++) {
                Bidder who = hall.seats[i];
                ends[i] = who.endBy(who.choice, who.wind);
                touchers[i] = who.touchers;
            }
        }

        void supposeChoice(int bidder, int choice) {
            Bidder who = hall.seats[bidder];
            ends[bidder] = who.endBy(choice, who.wind);
        }

        void supposeWind(int bidder, int wind) {
            Bidder who = hall.seats[bidder];
            ends[bidder] = who.endBy(who.choice, wind);
        }

        void supposeTouch(int a, int b) {
            touchers[b] |= 1 << a;
        }

        void runAsItIs() {
            takeAsItIs();
            run();
        }

        void run() {
            findStops();
            for (int i = 0; i < hall.size; i++) {
                silences[i] = stops[i] + hall.seats[i].echo();
            }
            findGetter();
        }

        private void findStops() {
            for (int i = 0; i < hall.size; i++) {
                stops[i] = ends[i];
            }
            // A stop is handed on by touches through each of the others once at most.
            boolean changed = true;
            for (int round = 1; round < hall.size && changed; round++) {
                changed = false;
                for (int i = 0; i < hall.size; i++) {
                    int stop = stopByTouch(i);
                    changed |= stop < stops[i];
                    stops[i] = stop;
                }
            }
        }

        private int stopByTouch(int bidder) {
            int stop = stops[bidder];
            if (touchers[bidder] == 0) {
                return stop;
            }
            for (int a = 0; a < hall.size; a++) {
                if ((touchers[bidder] >> a & 1) == 1) {
                    stop = Math.min(stop, stops[a] + 1);
                }
            }
            return stop;
        }

        private void findGetter() {
            int first = NEVER;
            int second = NEVER;
            // NONE here while nobody, or more than one, is silent then.
            int aloneFirst = NONE;
            int aloneSecond = NONE;
            for (int i = 0; i < hall.size; i++) {
                int silence = silences[i];
                if (silence < first) {
                    second = first;
                    aloneSecond = aloneFirst;
                    first = silence;
                    aloneFirst = i;
                } else if (silence == first) {
                    aloneFirst = NONE;
                } else if (silence < second) {
                    second = silence;
                    aloneSecond = i;
                } else if (silence == second) {
                    aloneSecond = NONE;
                }
            }
            getter = aloneFirst == NONE ? NONE : aloneSecond;
        }

        int priceOf(int bidder) {
            return hall.seats[bidder].priceAt(stops[bidder], hall.fall);
        }

        int gainOf(int bidder) {
            return bidder == getter ? 10 * hall.seats[bidder].wish - priceOf(bidder) : 0;
        }
    }

    /** HEARD: who was SILENT from which BREATH on. */
    private static final class Hearing {
        static final int LIMIT = 8;

        private final int[] bidders = new int[LIMIT];
        private final int[] breaths = new int[LIMIT];
        int size;

        boolean isFull() {
            return size >= LIMIT;
        }

        void add(int bidder, int breath) {
            if (size < LIMIT) {
                bidders[size] = bidder;
                breaths[size] = breath;
                size++;
            }
        }

        void copy(Hearing other) {
            for (int i = 0; i < LIMIT; i++) {
                bidders[i] = other.bidders[i];
                breaths[i] = other.breaths[i];
            }
            size = other.size;
        }

        boolean agrees(Course course) {
            for (int i = 0; i < size; i++) {
                if (course.silences[bidders[i]] != breaths[i]) {
                    return false;
                }
            }
            return true;
        }

        boolean agreesOn(int bidder, Course course) {
            int silence = course.silences[bidder];
            for (int i = 0; i < size; i++) {
                if (bidders[i] == bidder && breaths[i] != silence) {
                    return false;
                }
            }
            return true;
        }
    }

    /** The IMAGE kept last. */
    private static final class Image {
        private final int[] winds = new int[MOST_BIDDERS];
        private final int[] choices = new int[MOST_BIDDERS];
        private final int[] touchers = new int[MOST_BIDDERS];
        private final Hearing heard = new Hearing();
        // Halls are numbered from 1 as they are read; 0 is the hall of no image.
        private int hallNumber;

        boolean isOf(int number) {
            return hallNumber != 0 && hallNumber == number;
        }

        void keep(Hall hall, Hearing nowHeard, int number) {
            for (int i = 0; i < hall.size; i++) {
                winds[i] = hall.seats[i].wind;
                choices[i] = hall.seats[i].choice;
                touchers[i] = hall.seats[i].touchers;
            }
            heard.copy(nowHeard);
            hallNumber = number;
        }

        void giveBack(Hall hall, Hearing nowHeard) {
            for (int i = 0; i < hall.size; i++) {
                hall.seats[i].wind = winds[i];
                hall.seats[i].choice = choices[i];
                hall.seats[i].touchers = touchers[i];
            }
            nowHeard.copy(heard);
        }
    }

    /**
     * RESTS. All choices together are tried in order, bidder 0's counting most, and numbered from 0 in that order:
     * a step of one in a bidder's choice is a step of his weight in the number.
     */
    private static final class Rests {
        // 4 breaths of 5 bidders.
        static final int MOST_TOGETHER = 1024;

        // Of each number; nobody but the getter gains, so no other gain needs keeping.
        private final int[] getters = new int[MOST_TOGETHER];
        private final int[] gains = new int[MOST_TOGETHER];
        private final int[] weights = new int[MOST_BIDDERS];
        private final int[] choices = new int[MOST_BIDDERS];
        private final int[] firstChoices = new int[MOST_BIDDERS];
        private int size;
        private int breaths;
        int howMany;

        void find(Course course, int someBreaths) {
            size = course.hall.size;
            breaths = someBreaths;
            int together = weigh();
            tryAll(course, together);
            howMany = 0;
            chooseFirst();
            for (int number = 0; number < together; number++) {
                if (isRest(number)) {
                    keepIfFirst();
                    howMany++;
                }
                chooseNext();
            }
        }

        private int weigh() {
            int weight = 1;
            for (int i = size - 1; i >= 0; i--) {
                weights[i] = weight;
                weight *= breaths;
            }
            return Math.min(weight, MOST_TOGETHER);
        }

        private void chooseFirst() {
            for (int i = 0; i < size; i++) {
                choices[i] = 1;
            }
        }

        private void chooseNext() {
            for (int i = size - 1; i >= 0; i--) {
                if (choices[i] < breaths) {
                    choices[i]++;
                    return;
                }
                choices[i] = 1;
            }
        }

        private void tryAll(Course course, int together) {
            course.takeAsItIs();
            chooseFirst();
            for (int number = 0; number < together; number++) {
                for (int i = 0; i < size; i++) {
                    course.supposeChoice(i, choices[i]);
                }
                course.run();
                getters[number] = course.getter;
                gains[number] = course.getter == NONE ? 0 : course.gainOf(course.getter);
                chooseNext();
            }
        }

        private boolean isRest(int number) {
            for (int i = 0; i < size; i++) {
                if (wouldChange(number, i)) {
                    return false;
                }
            }
            return true;
        }

        private boolean wouldChange(int number, int bidder) {
            int gain = gainIn(number, bidder);
            int withBreathOne = number - (choices[bidder] - 1) * weights[bidder];
            for (int i = 0; i < breaths; i++) {
                if (gainIn(withBreathOne + i * weights[bidder], bidder) > gain) {
                    return true;
                }
            }
            return false;
        }

        private int gainIn(int number, int bidder) {
            return getters[number] == bidder ? gains[number] : 0;
        }

        private void keepIfFirst() {
            for (int i = 0; i < size && howMany == 0; i++) {
                firstChoices[i] = choices[i];
            }
        }

        int choiceInFirst(int bidder) {
            return howMany == 0 || bidder >= size ? NONE : firstChoices[bidder];
        }
    }
}
