import java.math.BigInteger;

/** A test for each sentence of promises 1 to 23 that names an edge. */
public final class CallsEdgesTest {
    private static final int NONE = -1, UNKNOWN = -101, OUTSIDE = -102, STATE = -103, FULL = -104;
    private static final int LEAST = Integer.MIN_VALUE, GREATEST = Integer.MAX_VALUE;
    private static final String ALL_KINDS = "b459,t270,s381,e192,c563;2";
    private static final String FULL_PAGE = "b100,b100,b100,b100,b100;000";
    private static final Due DUE = new Due();

    public static void main(String[] args) {
        aNewObject();
        letter();
        blank();
        fault();
        hall();
        about();
        as();
        choose();
        wind();
        touch();
        saying();
        lot();
        best();
        rests();
        hear();
        forget();
        winds();
        touched();
        sales();
        image();
        restore();
        count();
        digest();
        DUE.close("CallsEdgesTest");
    }

    private static void due(String call, long got, long want) {
        DUE.is(call, got, want);
    }

    private static void edge(int promise, String words, Runnable test) {
        DUE.sentence(promise, words, test);
    }

    private static void aNewObject() {
        edge(1, "No HALL.", () -> {
            SecondSilence x = new SecondSilence();
            for (int what = 0; what <= 7; what++) {
                due("count(" + what + ")", x.count(what), 0);
            }
            due("lot(0)", x.lot(0), STATE);
            due("about(0, 0)", x.about(0, 0), UNKNOWN);
            due("image()", x.image(), STATE);
            due("restore()", x.restore(), STATE);
            due("hall()", x.hall(), STATE);
        });
    }

    private static void letter() {
        edge(2, "how many THE PAGE has", () -> {
            SecondSilence x = new SecondSilence();
            for (int i = 1; i <= 28; i++) {
                due("letter " + i, x.letter('~'), i);
            }
        });
        edge(2, "OUTSIDE: code (32 to 126)", () -> {
            for (int code : new int[] {LEAST, -1, 0, 31, 127, 128, 255, 256 + 'b', 65536 + 'b', GREATEST}) {
                SecondSilence x = Due.with("b1");
                DUE.refused(x, "letter(" + code + ")", () -> x.letter(code), OUTSIDE);
            }
            for (int code = 32; code <= 126; code++) {
                due("letter(" + code + ")", new SecondSilence().letter(code), 1);
            }
        });
        edge(2, "FULL: above 28", () -> {
            SecondSilence x = Due.with(FULL_PAGE);
            due("letters", x.count(5), 28);
            DUE.refused(x, "letter 29", () -> x.letter('b'), FULL);
            due("letters then", x.count(5), 28);
            x.blank();
            due("a letter on the page made empty", x.letter('b'), 1);
        });
    }

    private static void blank() {
        edge(3, "THE PAGE is empty", () -> {
            SecondSilence x = Due.with("zzz");
            x.blank();
            due("letters", x.count(5), 0);
            due("fault", x.fault(), 0);
            due("hall", x.hall(), STATE);
            Due.write(x, "b100,b200;0");
            due("hall of new letters", x.hall(), 2);
        });
        edge(3, "how many letters it had", () -> {
            due("of an empty page", new SecondSilence().blank(), 0);
            due("of one letter", Due.with("b").blank(), 1);
            due("of a full page", Due.with(FULL_PAGE).blank(), 28);
            SecondSilence x = Due.with(FULL_PAGE);
            x.blank();
            due("of a page made empty", x.blank(), 0);
            due("of a page that was read", Due.in(ALL_KINDS).blank(), 0);
        });
    }

    private static void fault() {
        edge(4, "The place (from 0) of the first letter of THE PAGE that no HALL has there", () -> {
            due("the first letter", Due.with("xb100").fault(), 0);
            due("the first of several", Due.with("b0x0").fault(), 1);
            due("behind the last that fits", Due.with("b100,b100,b100,b100,b100;0;").fault(), 26);
            due("of a full page", Due.with(FULL_PAGE).fault(), 26);
        });
        edge(4, "behind those ahead of it", () -> {
            due("';' behind one", Due.with("b100;").fault(), 4);
            due("';' behind two", Due.with("b100,b100;").fault(), 10);
            due("',' behind four", Due.with("b100,b100,b100,b100,").fault(), 20);
            due("',' behind five", Due.with("b100,b100,b100,b100,b100,").fault(), 24);
            due("',' behind ';'", Due.with("b100,b100;,").fault(), 10);
            due("a bidder behind the fall", Due.with("b100,b100;5b100").fault(), 11);
            due("';' behind the fall", Due.with("b100,b100;5;").fault(), 11);
        });
        edge(4, "how many letters it has, if there is none", () -> {
            due("of an empty page", new SecondSilence().fault(), 0);
            String page = "b100,t999,s505,e190,c309;0";
            for (int length = 1; length <= 26; length++) {
                due("of " + length + " letters", Due.with(page.substring(0, length)).fault(), length);
            }
        });
    }

    private static void hall() {
        edge(5, "(another one is gone, with choices, TOUCHES, HEARD)", () -> {
            SecondSilence x = Due.in(ALL_KINDS);
            for (int i = 0; i < 5; i++) {
                x.choose(i, 3);
                x.wind(i, 9);
                x.touch(i, (i + 1) % 5, true);
                x.hear(i, 3);
            }
            Due.write(x, ALL_KINDS);
            x.hall();
            long again = x.digest();
            SecondSilence once = Due.in(ALL_KINDS);
            due("choices", x.count(2), 0);
            due("touches", x.count(3), 0);
            due("heard", x.count(4), 0);
            due("wind of 0", x.about(0, 1), 4);
            // Only how often a hall was read differs, the last number but one.
            due("all else", again, once.digest() + 31);
        });
        edge(5, "how many BIDDERS", () -> {
            due("of two", Due.with("b100,b100;0").hall(), 2);
            due("of five", Due.with(ALL_KINDS).hall(), 5);
            SecondSilence x = Due.in(ALL_KINDS);
            Due.write(x, "b100,b100;0");
            due("of two behind five", x.hall(), 2);
            due("the third is gone", x.about(2, 0), UNKNOWN);
        });
        edge(5, "THE PAGE is empty then", () -> {
            SecondSilence x = Due.in(ALL_KINDS);
            due("letters", x.count(5), 0);
            due("read again", x.hall(), STATE);
            due("a letter", x.letter('b'), 1);
        });
        edge(5, "STATE: it is none", () -> {
            String hall = "b100,b100,b100,b100,b100;0";
            for (int length = 0; length <= 25; length++) {
                SecondSilence x = Due.with(hall.substring(0, length));
                DUE.refused(x, "hall of " + length + " letters", x::hall, STATE);
                due("the page stays", x.count(5), length);
            }
            for (String page : new String[] {"b100;5", "b100,b100;55", "b000,b100;5", "b100,b100,;5", "x;5", ";5", ",;5",
                    "b100,b100,b100,b100,b100,;5", FULL_PAGE}) {
                SecondSilence x = Due.in("t500,s500;3");
                Due.write(x, page);
                DUE.refused(x, "hall of " + page, x::hall, STATE);
                due("the hall stays", x.count(1), 3);
            }
        });
    }

    private static void about() {
        edge(6, "4 his choice (NONE)", () -> {
            SecondSilence x = Due.in("b500,b500;0");
            due("at first", x.about(0, 4), NONE);
            x.choose(0, 30);
            due("the last", x.about(0, 4), 30);
            x.choose(0, 1);
            due("the first", x.about(0, 4), 1);
            x.choose(0, NONE);
            due("none any more", x.about(0, 4), NONE);
        });
        edge(6, "7 what his PRICE would be", () -> {
            SecondSilence x = Due.in("b910,b110,b110;5");
            due("though he does not get it, 0 at least", x.about(0, 7), 0);
            due("of another one", x.about(1, 7), 5);
        });
        edge(6, "9 who TOUCHES him, as bits", () -> {
            SecondSilence x = Due.in(ALL_KINDS);
            for (int b = 0; b < 5; b++) {
                due("at first", x.about(b, 9), 0);
                int bits = 0;
                for (int a = 0; a < 5; a++) {
                    x.touch(a, b, true);
                    bits |= a == b ? 0 : 1 << a;
                    due("with " + a, x.about(b, 9), bits);
                }
            }
        });
        edge(6, "UNKNOWN; OUTSIDE.", () -> {
            SecondSilence x = Due.in("b500,b500;0");
            for (int bidder : new int[] {LEAST, -1, 2, 5, GREATEST}) {
                DUE.refused(x, "about(" + bidder + ", 0)", () -> x.about(bidder, 0), UNKNOWN);
            }
            for (int what : new int[] {LEAST, -1, 10, GREATEST}) {
                DUE.refused(x, "about(1, " + what + ")", () -> x.about(1, what), OUTSIDE);
            }
        });
    }

    private static void as() {
        edge(7, "NONE: he is none such (the cast fails)", () -> {
            SecondSilence x = Due.in(ALL_KINDS);
            for (int bidder = 0; bidder < 5; bidder++) {
                for (int kind = 0; kind < 5; kind++) {
                    boolean is = kind == 0 || kind == bidder || kind == 1 && bidder == 4;
                    due("as(" + bidder + ", " + kind + ")", x.as(bidder, kind), is ? bidder : NONE);
                }
            }
        });
        edge(7, "UNKNOWN; OUTSIDE.", () -> {
            SecondSilence x = Due.in("b500,b500;0");
            for (int bidder : new int[] {LEAST, -1, 2, GREATEST}) {
                DUE.refused(x, "as(" + bidder + ", 0)", () -> x.as(bidder, 0), UNKNOWN);
            }
            for (int kind : new int[] {LEAST, -1, 5, GREATEST}) {
                DUE.refused(x, "as(1, " + kind + ")", () -> x.as(1, kind), OUTSIDE);
            }
        });
    }

    private static void choose() {
        edge(8, "He chooses a BREATH (NONE: none any more): what he had chosen (NONE)", () -> {
            SecondSilence x = Due.in("b500,b500;0");
            due("none, from none", x.choose(0, NONE), NONE);
            due("1, from none", x.choose(0, 1), NONE);
            due("30, from 1", x.choose(0, 30), 1);
            due("30 again", x.choose(0, 30), 30);
            due("none, from 30", x.choose(0, NONE), 30);
            due("none again", x.choose(0, NONE), NONE);
            due("how many have chosen", x.count(2), 0);
            due("he stops by wind", x.about(0, 5), 6);
        });
        edge(8, "UNKNOWN; OUTSIDE: breath (NONE, 1 to 30)", () -> {
            SecondSilence x = Due.in("b500,b500;0");
            x.choose(1, 7);
            for (int bidder : new int[] {LEAST, -1, 2, GREATEST}) {
                DUE.refused(x, "choose(" + bidder + ", 3)", () -> x.choose(bidder, 3), UNKNOWN);
            }
            for (int breath : new int[] {LEAST, -2, 0, 31, GREATEST}) {
                DUE.refused(x, "choose(1, " + breath + ")", () -> x.choose(1, breath), OUTSIDE);
            }
            due("the choice", x.about(1, 4), 7);
        });
    }

    private static void wind() {
        edge(9, "WIND becomes so much: how much it was", () -> {
            SecondSilence x = Due.in("b500,b500;0");
            due("1, from 5", x.wind(0, 1), 5);
            due("9, from 1", x.wind(0, 9), 1);
            due("9 again", x.wind(0, 9), 9);
            due("wind", x.about(0, 1), 9);
        });
        edge(9, "UNKNOWN; OUTSIDE: v (1 to 9)", () -> {
            SecondSilence x = Due.in("b500,b500;0");
            for (int bidder : new int[] {LEAST, -1, 2, GREATEST}) {
                DUE.refused(x, "wind(" + bidder + ", 3)", () -> x.wind(bidder, 3), UNKNOWN);
            }
            for (int v : new int[] {LEAST, -1, 0, 10, GREATEST}) {
                DUE.refused(x, "wind(1, " + v + ")", () -> x.wind(1, v), OUTSIDE);
            }
            due("the wind", x.about(1, 1), 5);
        });
    }

    private static void touch() {
        edge(10, "One TOUCHES another one, or does no more: whether he did (1, 0)", () -> {
            SecondSilence x = Due.in("b500,b500;0");
            due("no more, from none", x.touch(0, 1, false), 0);
            due("touches, from none", x.touch(0, 1, true), 0);
            due("touches again", x.touch(0, 1, true), 1);
            due("the other way round", x.touch(1, 0, false), 0);
            due("touches", x.count(3), 1);
            due("no more", x.touch(0, 1, false), 1);
            due("no more again", x.touch(0, 1, false), 0);
            due("touches then", x.count(3), 0);
            SecondSilence five = Due.in(ALL_KINDS);
            for (int a = 0; a < 5; a++) {
                int b = (a + 2) % 5;
                due("of " + a, five.touch(a, b, true), 0);
                due("of " + a + " again", five.touch(a, b, true), 1);
                due("of " + a + " no more", five.touch(a, b, false), 1);
                due("of " + a + " then", five.about(b, 9), 0);
            }
        });
        edge(10, "UNKNOWN: a, b, or they are the same", () -> {
            SecondSilence x = Due.in("b500,b500,b500;0");
            for (int wrong : new int[] {LEAST, -1, 3, 32, 33, GREATEST}) {
                DUE.refused(x, "touch(" + wrong + ", 1)", () -> x.touch(wrong, 1, true), UNKNOWN);
                DUE.refused(x, "touch(1, " + wrong + ")", () -> x.touch(1, wrong, true), UNKNOWN);
                DUE.refused(x, "touch(" + wrong + ", the same)", () -> x.touch(wrong, wrong, true), UNKNOWN);
            }
            for (int one = 0; one < 3; one++) {
                int same = one;
                DUE.refused(x, "touch(" + one + ", the same)", () -> x.touch(same, same, true), UNKNOWN);
                DUE.refused(x, "touch(" + one + ", the same) no more", () -> x.touch(same, same, false), UNKNOWN);
            }
        });
    }

    private static void saying() {
        edge(11, "How many say their SUMS yet at a BREATH (have not STOPPED)", () -> {
            SecondSilence x = Due.in("c900,e800,b900;0");
            int[] saying = {3, 3, 3, 3, 3, 3, 3, 3, 2, 1, 1, 1, 1, 1, 1, 1, 1, 1, 0, 0};
            for (int breath = 1; breath <= 20; breath++) {
                due("at " + breath, x.saying(breath), saying[breath - 1]);
            }
            for (int bidder = 0; bidder < 3; bidder++) {
                x.choose(bidder, 1);
                due("at 1, as stops are at 1", x.saying(1), 2 - bidder);
            }
        });
        edge(11, "OUTSIDE: breath (1 to 40)", () -> {
            SecondSilence x = Due.in(ALL_KINDS);
            for (int breath : new int[] {LEAST, -1, 0, 41, GREATEST}) {
                DUE.refused(x, "saying(" + breath + ")", () -> x.saying(breath), OUTSIDE);
            }
            due("saying(1)", x.saying(1), 5);
            due("saying(40)", x.saying(40), 0);
        });
        edge(11, "STATE: no HALL", () -> {
            SecondSilence x = new SecondSilence();
            DUE.refused(x, "saying(1)", () -> x.saying(1), STATE);
            DUE.refused(x, "saying(40)", () -> x.saying(40), STATE);
        });
    }

    private static void lot() {
        edge(12, "what = 0 who GETS it (NONE), 1 his PRICE (NONE), 2 from which BREATH he is SILENT (NONE)", () -> {
            SecondSilence x = Due.in("b100,e100;0");
            due("who", x.lot(0), 1);
            due("a price of 0", x.lot(1), 0);
            due("silent, not stopped", x.lot(2), 4);
            x.choose(0, 4);
            x.wind(0, 9);
            for (int what = 0; what <= 2; what++) {
                due("lot(" + what + ") as nobody gets it", x.lot(what), NONE);
            }
        });
        edge(12, "OUTSIDE; STATE: no HALL", () -> {
            SecondSilence x = Due.in(ALL_KINDS);
            for (int what : new int[] {LEAST, -1, 3, GREATEST}) {
                DUE.refused(x, "lot(" + what + ")", () -> x.lot(what), OUTSIDE);
            }
            SecondSilence none = new SecondSilence();
            for (int what = 0; what <= 2; what++) {
                int asked = what;
                DUE.refused(none, "lot(" + what + ") without a hall", () -> none.lot(asked), STATE);
            }
        });
    }

    private static void best() {
        edge(13, "1 the GAIN, and 100 more", () -> {
            due("of the greatest gain", Due.in("b109,c909;0").best(1, 1), 190);
            due("of no gain", Due.in("b109,c900;0").best(1, 1), 100);
            // An echoer can't help being second.
            due("of the greatest loss", Due.in("b109,e990;0").best(1, 1), 10);
        });
        edge(13, "UNKNOWN; OUTSIDE.", () -> {
            SecondSilence x = Due.in("b500,b500;0");
            for (int bidder : new int[] {LEAST, -1, 2, GREATEST}) {
                DUE.refused(x, "best(" + bidder + ", 0)", () -> x.best(bidder, 0), UNKNOWN);
            }
            for (int what : new int[] {LEAST, -1, 2, GREATEST}) {
                DUE.refused(x, "best(1, " + what + ")", () -> x.best(1, what), OUTSIDE);
            }
        });
    }

    private static void rests() {
        edge(14, "what = 0 how many", () -> {
            due("by one breath there is one", Due.in(ALL_KINDS).rests(1, 0), 1);
            due("all, as nobody can gain or lose", Due.in("b100,b100,b100,b100,b100;0").rests(4, 0), 1024);
        });
        edge(14, "10 to 14 what BIDDER 0 to 4 chooses in the first (NONE: there is none)", () -> {
            SecondSilence x = Due.in("b100,b100;0");
            int[] want = {1, 1, NONE, NONE, NONE};
            for (int i = 0; i < 5; i++) {
                due("rests(4, " + (10 + i) + ") of two", x.rests(4, 10 + i), want[i]);
            }
            SecondSilence five = Due.in("b100,b100,b100,b100,b100;0");
            due("rests(4, 10) of five", five.rests(4, 10), 1);
            due("rests(4, 14) of five", five.rests(4, 14), 1);
            // A smaller hall behind a greater one has no bidder 4 any more.
            Due.write(five, "c905,c905;0");
            five.hall();
            due("rests(4, 11) of two behind five", five.rests(4, 11), 4);
            due("rests(4, 14) of two behind five", five.rests(4, 14), NONE);
        });
        edge(14, "OUTSIDE: breaths, what", () -> {
            SecondSilence x = Due.in("b100,b100;0");
            for (int breaths : new int[] {LEAST, -1, 0, 5, GREATEST}) {
                DUE.refused(x, "rests(" + breaths + ", 0)", () -> x.rests(breaths, 0), OUTSIDE);
            }
            for (int what : new int[] {LEAST, -1, 1, 9, 15, GREATEST}) {
                DUE.refused(x, "rests(1, " + what + ")", () -> x.rests(1, what), OUTSIDE);
            }
            due("done", x.count(7), 0);
        });
        edge(14, "STATE: no HALL, or rests() was done 20 times", () -> {
            SecondSilence none = new SecondSilence();
            DUE.refused(none, "rests(1, 0)", () -> none.rests(1, 0), STATE);
            DUE.refused(none, "rests(4, 14)", () -> none.rests(4, 14), STATE);
            SecondSilence x = Due.in("b100,b100;0");
            for (int i = 1; i <= 20; i++) {
                x.rests(0, 0);
                due("rests " + i, x.rests(1, i % 2 == 0 ? 0 : 10), 1);
                due("done", x.count(7), i);
            }
            DUE.refused(x, "rests 21", () -> x.rests(1, 0), STATE);
            DUE.refused(x, "rests 22", () -> x.rests(4, 10), STATE);
            Due.write(x, ALL_KINDS);
            x.hall();
            DUE.refused(x, "rests in another hall", () -> x.rests(1, 0), STATE);
        });
    }

    private static void hear() {
        edge(15, "It is HEARD: how much is", () -> {
            SecondSilence x = Due.in("b500,b500;0");
            for (int i = 1; i <= 8; i++) {
                due("hear " + i, x.hear(i % 2, 7), i);
            }
        });
        edge(15, "UNKNOWN; OUTSIDE: breath (1 to 40)", () -> {
            SecondSilence x = Due.in("b500,b500;0");
            for (int bidder : new int[] {LEAST, -1, 2, GREATEST}) {
                DUE.refused(x, "hear(" + bidder + ", 3)", () -> x.hear(bidder, 3), UNKNOWN);
            }
            for (int breath : new int[] {LEAST, -1, 0, 41, GREATEST}) {
                DUE.refused(x, "hear(1, " + breath + ")", () -> x.hear(1, breath), OUTSIDE);
            }
            due("hear(1, 1)", x.hear(1, 1), 1);
            due("hear(1, 40)", x.hear(1, 40), 2);
        });
        edge(15, "FULL.", () -> {
            SecondSilence x = Due.in("b500,b500;0");
            for (int i = 0; i < 8; i++) {
                x.hear(0, 6);
            }
            DUE.refused(x, "hear 9", () -> x.hear(0, 6), FULL);
            DUE.refused(x, "hear 9 of another one", () -> x.hear(1, 40), FULL);
            due("all that is heard is so", x.touched(1), -1);
        });
    }

    private static void forget() {
        edge(16, "Nothing is HEARD any more: how much was", () -> {
            due("without a hall", new SecondSilence().forget(), 0);
            SecondSilence x = Due.in("b500,b500;0");
            due("nothing", x.forget(), 0);
            for (int i = 0; i < 8; i++) {
                x.hear(0, 40);
            }
            due("all there can be", x.forget(), 8);
            due("heard then", x.count(4), 0);
            due("winds then", x.winds(0), 0b1111111110);
            due("nothing again", x.forget(), 0);
            due("hear again", x.hear(0, 6), 1);
            due("only what is new counts", x.winds(0), 1 << 5);
        });
    }

    private static void winds() {
        edge(17, "WINDS, as bits (bit 1 for 1, and so on)", () -> {
            SecondSilence x = Due.in("t500,b500;0");
            due("all", x.winds(0), 0b1111111110);
            x.hear(0, 3);
            due("the least", x.winds(0), 1 << 1);
            x.forget();
            x.hear(0, 19);
            due("the greatest", x.winds(0), 1 << 9);
            x.forget();
            x.hear(0, 18);
            due("none", x.winds(0), 0);
            due("the wind stays", x.about(0, 1), 5);
        });
        edge(17, "UNKNOWN.", () -> {
            SecondSilence x = Due.in("b500,b500;0");
            for (int bidder : new int[] {LEAST, -1, 2, GREATEST}) {
                DUE.refused(x, "winds(" + bidder + ")", () -> x.winds(bidder), UNKNOWN);
            }
            due("winds(0) without a hall", new SecondSilence().winds(0), UNKNOWN);
        });
    }

    private static void touched() {
        edge(18, "0 how many (none counts as one)", () -> {
            due("all of two", Due.in("b100,b100;0").touched(0), 3);
            due("all of five", Due.in("b100,b100,b100,b100,b100;0").touched(0), 21);
            SecondSilence x = Due.in("b100,b100;0");
            x.touch(0, 1, true);
            x.touch(1, 0, true);
            due("none alone, as all touch", x.touched(0), 1);
            x.hear(0, 3);
            due("not even none", x.touched(0), 0);
        });
        edge(18, "1 the least (-1: none; -2: there is no such)", () -> {
            SecondSilence x = Due.in("b100,b900,b900,b900,b900;0");
            due("none", x.touched(1), -1);
            x.hear(1, 3);
            due("the least there can be", x.touched(1), 1);
            x.hear(1, 4);
            due("no such", x.touched(1), -2);
            SecondSilence last = Due.in("b900,b900,b900,b900,b100;0");
            last.hear(3, 3);
            due("the greatest there can be", last.touched(1), 23);
        });
        edge(18, "OUTSIDE; STATE: no HALL", () -> {
            SecondSilence x = Due.in("b500,b500;0");
            for (int what : new int[] {LEAST, -1, 2, GREATEST}) {
                DUE.refused(x, "touched(" + what + ")", () -> x.touched(what), OUTSIDE);
            }
            SecondSilence none = new SecondSilence();
            DUE.refused(none, "touched(0) without a hall", () -> none.touched(0), STATE);
            DUE.refused(none, "touched(1) without a hall", () -> none.touched(1), STATE);
        });
    }

    private static void sales() {
        edge(19, "what = 0 how often, 1 PRICES, 2 the SEED then", () -> {
            SecondSilence x = Due.in("b990,c950;4");
            // From 0 the draws are 0, 21468, 9988, 22117: breaths 1 and 4, then 8 and 5.
            due("how often", x.sales(2, 0, 0), 2);
            due("50 and 90 less 28", x.sales(2, 0, 1), 112);
            due("the seed", x.sales(2, 0, 2), 1449466924);
            // Both are silent at 1 or 2, so it is often not sold, and sold at 90.
            SecondSilence stammerers = Due.in("s190,s190;0");
            due("prices of what is sold alone", stammerers.sales(60, 3, 1), 90 * stammerers.sales(60, 3, 0));
            DUE.holds("not all is sold", stammerers.sales(60, 3, 0) < 60);
        });
        edge(19, "OUTSIDE: times (1 to 60), seed (0 at least), what", () -> {
            SecondSilence x = Due.in("b500,b500;0");
            for (int times : new int[] {LEAST, -1, 0, 61, GREATEST}) {
                DUE.refused(x, "sales(" + times + ", 0, 0)", () -> x.sales(times, 0, 0), OUTSIDE);
            }
            for (int seed : new int[] {LEAST, -1}) {
                DUE.refused(x, "sales(1, " + seed + ", 0)", () -> x.sales(1, seed, 0), OUTSIDE);
            }
            for (int what : new int[] {LEAST, -1, 3, GREATEST}) {
                DUE.refused(x, "sales(1, 0, " + what + ")", () -> x.sales(1, 0, what), OUTSIDE);
            }
            due("once, from seed 0", x.sales(1, 0, 2), 1406932606);
            due("once, from the greatest seed", x.sales(1, GREATEST, 2), seedBehind(GREATEST, 2));
            due("60 times", x.sales(60, 0, 2), seedBehind(0, 120));
        });
        edge(19, "STATE: no HALL", () -> {
            SecondSilence x = new SecondSilence();
            for (int what = 0; what <= 2; what++) {
                int asked = what;
                DUE.refused(x, "sales(1, 0, " + what + ")", () -> x.sales(1, 0, asked), STATE);
            }
        });
    }

    private static long seedBehind(int seed, int draws) {
        BigInteger next = BigInteger.valueOf(seed);
        for (int i = 0; i < draws; i++) {
            next = next.multiply(BigInteger.valueOf(1103515245)).add(BigInteger.valueOf(12345))
                    .mod(BigInteger.valueOf(1L << 31));
        }
        return next.longValueExact();
    }

    private static void image() {
        edge(20, "An IMAGE is kept (one; the latest): how many BIDDERS", () -> {
            SecondSilence x = Due.in("b500,b500;0");
            due("image of two", x.image(), 2);
            x.choose(0, 3);
            due("a later image", x.image(), 2);
            x.choose(0, 4);
            x.restore();
            due("the choice of the latest", x.about(0, 4), 3);
            due("image of five", Due.in(ALL_KINDS).image(), 5);
        });
        edge(20, "STATE: no HALL", () -> {
            SecondSilence x = new SecondSilence();
            DUE.refused(x, "image()", x::image, STATE);
            DUE.refused(x, "restore() then", x::restore, STATE);
            Due.write(x, "b500,b500;0");
            x.hall();
            DUE.refused(x, "restore() in the first hall", x::restore, STATE);
        });
    }

    private static void restore() {
        edge(21, "It goes on from the IMAGE: how many BIDDERS", () -> {
            SecondSilence x = Due.in(ALL_KINDS);
            long kept = x.digest();
            x.image();
            for (int i = 0; i < 8; i++) {
                x.hear(i % 5, 40);
                x.choose(i % 5, 30);
                x.wind(i % 5, 1 + i);
                x.touch(i % 5, (i + 2) % 5, true);
            }
            due("restore", x.restore(), 5);
            due("digest as nothing had been chosen or heard", x.digest(), kept);
            due("restore at once again", x.restore(), 5);
            due("digest then", x.digest(), kept);
            x.hear(0, 5);
            due("hear behind it", x.count(4), 1);
            x.restore();
            due("the image stays as it was kept", x.digest(), kept);
        });
        edge(21, "STATE: none was kept, or there is another HALL since", () -> {
            SecondSilence x = Due.in("b500,b500;0");
            DUE.refused(x, "restore() as none was kept", x::restore, STATE);
            x.image();
            Due.write(x, "b500");
            x.hall();
            due("restore behind a refused hall", x.restore(), 2);
            Due.write(x, ",b500;0");
            x.hall();
            x.choose(0, 3);
            DUE.refused(x, "restore() in another hall", x::restore, STATE);
            due("its choice", x.about(0, 4), 3);
            x.image();
            x.choose(0, 4);
            due("restore of a new image", x.restore(), 2);
            due("its choice then", x.about(0, 4), 3);
        });
    }

    private static void count() {
        edge(22, "1 FALL (0: no HALL)", () -> {
            due("without a hall", new SecondSilence().count(1), 0);
            due("of 0", Due.in("b500,b500;0").count(1), 0);
            due("of 9", Due.in("b500,b500;9").count(1), 9);
        });
        edge(22, "0 BIDDERS", () -> {
            due("none", new SecondSilence().count(0), 0);
            due("two", Due.in("b500,b500;0").count(0), 2);
            due("five", Due.in(ALL_KINDS).count(0), 5);
        });
        edge(22, "2 that have chosen, 3 TOUCHES, 4 what is HEARD, 5 letters of THE PAGE", () -> {
            SecondSilence x = Due.in(ALL_KINDS);
            for (int a = 0; a < 5; a++) {
                x.choose(a, 1);
                for (int b = 0; b < 5; b++) {
                    x.touch(a, b, true);
                }
            }
            for (int i = 0; i < 9; i++) {
                x.hear(0, 1);
            }
            Due.write(x, FULL_PAGE + "0");
            int[] most = {5, 20, 8, 28};
            for (int i = 0; i < 4; i++) {
                due("the most of " + (2 + i), x.count(2 + i), most[i]);
            }
        });
        edge(22, "6 how often a HALL was read, 7 how often rests() was done", () -> {
            SecondSilence x = new SecondSilence();
            for (int i = 1; i <= 25; i++) {
                Due.write(x, "b500,b500;0");
                x.hall();
                x.hall();
                x.rests(1, 0);
                x.rests(1, 1);
                due("read", x.count(6), i);
                due("done", x.count(7), Math.min(i, 20));
            }
        });
        edge(22, "OUTSIDE.", () -> {
            SecondSilence x = Due.in(ALL_KINDS);
            for (int what : new int[] {LEAST, -1, 8, GREATEST}) {
                DUE.refused(x, "count(" + what + ")", () -> x.count(what), OUTSIDE);
            }
        });
    }

    private static void digest() {
        edge(23, "h is 911, then for each of these numbers, in order, 31 times h, and it (as longs, wrapping)", () -> {
            SecondSilence x = Due.in(ALL_KINDS);
            x.touch(0, 1, true);
            x.hear(1, 3);
            Due.write(x, "Hall~ ");
            BigInteger h = BigInteger.valueOf(911);
            for (long number : numbersOf(x, "Hall~ ")) {
                h = h.multiply(BigInteger.valueOf(31)).add(BigInteger.valueOf(number));
            }
            DUE.holds("the number is far above a long", h.bitLength() > 300);
            due("digest", x.digest(), h.longValue());
        });
        edge(23, "with a HALL what lot() tells for 0 to 2", () -> {
            // Without one there are but the eight numbers of count().
            long h = 911;
            for (int what = 0; what <= 7; what++) {
                h = 31 * h;
            }
            due("digest of a new object", new SecondSilence().digest(), h);
        });
        edge(23, "letters of THE PAGE", () -> {
            due("a letter of an empty page", Due.with("b").digest(), withLetters("b"));
            due("the edges of what a letter is", Due.with(" ~").digest(), withLetters(" ~"));
            due("a full page", Due.with(FULL_PAGE).digest(), withLetters(FULL_PAGE));
            SecondSilence x = Due.with(FULL_PAGE);
            x.blank();
            due("a page made empty", x.digest(), withLetters(""));
        });
    }

    private static long withLetters(String page) {
        long h = 911;
        for (char letter : page.toCharArray()) {
            h = 31 * h + letter;
        }
        for (int what = 0; what <= 7; what++) {
            h = 31 * h + (what == 5 ? page.length() : 0);
        }
        return h;
    }

    private static long[] numbersOf(SecondSilence x, String page) {
        int bidders = x.count(0);
        long[] numbers = new long[5 + 13 * bidders + page.length() + 8];
        int at = 0;
        for (int what = 0; what <= 2; what++) {
            numbers[at++] = x.lot(what);
        }
        for (int what = 0; what <= 1; what++) {
            numbers[at++] = x.touched(what);
        }
        for (int i = 0; i < bidders; i++) {
            for (int what = 0; what <= 9; what++) {
                numbers[at++] = x.about(i, what);
            }
            for (int what = 0; what <= 1; what++) {
                numbers[at++] = x.best(i, what);
            }
            numbers[at++] = x.winds(i);
        }
        for (char letter : page.toCharArray()) {
            numbers[at++] = letter;
        }
        for (int what = 0; what <= 7; what++) {
            numbers[at++] = x.count(what);
        }
        return numbers;
    }

    private CallsEdgesTest() {
    }
}
