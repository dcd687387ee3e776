/** Each promise of the document by answers worked out by hand. */
public final class PromisesTest {
    private static final int NONE = -1, UNKNOWN = -101, OUTSIDE = -102, STATE = -103, FULL = -104;
    private static final String ALL_KINDS = "b459,t270,s381,e192,c563;2";
    private static final Due DUE = new Due();

    public static void main(String[] args) {
        aNewObject();
        letter();
        blank();
        fault();
        hall();
        about();
        stopsByTouch();
        as();
        choose();
        wind();
        touch();
        saying();
        lot();
        best();
        rests();
        restsHaveAnEnd();
        hear();
        forget();
        winds();
        touched();
        sales();
        imageAndRestore();
        count();
        digest();
        DUE.close("PromisesTest");
    }

    private static void due(String call, long got, long want) {
        DUE.is(call, got, want);
    }

    private static void aNewObject() {
        SecondSilence x = new SecondSilence();
        for (int what = 0; what <= 7; what++) {
            due("1 count(" + what + ") of a new object", x.count(what), 0);
        }
        due("1 lot without a hall", x.lot(0), STATE);
        due("1 about without a hall", x.about(0, 0), UNKNOWN);
        due("1 restore of a new object", x.restore(), STATE);
        SecondSilence other = Due.in(ALL_KINDS);
        due("1 objects are apart", x.count(0), 0);
        due("1 objects are apart, the other", other.count(0), 5);
    }

    private static void letter() {
        SecondSilence x = new SecondSilence();
        int[] wrong = {31, 127, 0, -1, 255, Integer.MIN_VALUE, Integer.MAX_VALUE};
        for (int code : wrong) {
            due("2 letter(" + code + ")", x.letter(code), OUTSIDE);
        }
        due("2 letter(32)", x.letter(32), 1);
        due("2 letter(126)", x.letter(126), 2);
        for (int i = 3; i <= 28; i++) {
            due("2 letter number " + i, x.letter('b'), i);
        }
        due("2 letter 29", x.letter('b'), FULL);
        due("2 letter 29 outside", x.letter(31), OUTSIDE);
        due("2 refused letters are not there", x.count(5), 28);
    }

    private static void blank() {
        SecondSilence x = new SecondSilence();
        due("3 blank of an empty page", x.blank(), 0);
        Due.write(x, "b10");
        due("3 blank", x.blank(), 3);
        due("3 blank again", x.blank(), 0);
        due("3 letter behind blank", x.letter('b'), 1);
        SecondSilence y = Due.in(ALL_KINDS);
        Due.write(y, "zz");
        y.blank();
        due("3 blank leaves the hall", y.count(0), 5);
    }

    private static void faultAt(String page, int place) {
        due("4 fault of '" + page + "'", Due.with(page).fault(), place);
    }

    private static void fault() {
        String none = "b100,t200";
        String five = "b100,t200,s300,e400,c500";
        String[] begun = {"", "b", "t", "s", "e", "c", "b1", "b9", "b10", "b199", "b100,", none, none + ",",
                none + ";", none + ";0", none + ";9", "b100,t200,s300,e400,", "b100,t200,s300,e400;", five,
                five + ";", five + ";7"};
        for (String page : begun) {
            faultAt(page, page.length());
        }
        for (String first : new String[] {"a", "d", "B", "1", ",", ";", " ", "~"}) {
            faultAt(first, 0);
            faultAt("b100," + first, 5);
        }
        for (String sign : new String[] {"/", ":", "b", ",", ";", " "}) {
            faultAt("b" + sign, 1);
            faultAt("b1" + sign, 2);
            faultAt("b10" + sign, 3);
            faultAt(none + ";" + sign, 10);
        }
        faultAt("b0", 1);
        faultAt("b100;", 4);
        faultAt("b1000", 4);
        faultAt("b100b", 4);
        faultAt("b100.", 4);
        faultAt(none + ".", 9);
        faultAt(none + ";55", 11);
        faultAt(none + ";5,", 11);
        faultAt(five + ",", 24);
        faultAt(five + ";77", 26);
        faultAt(five + ";777", 26);
        faultAt("xb0", 0);
        SecondSilence x = Due.with(none + ";5");
        x.fault();
        due("4 fault changes nothing", x.count(5), 11);
    }

    private static void hall() {
        for (String page : new String[] {"", "b", "b100", "b100,", "b100,t200", "b100,t200;", "b100,t200;55",
                "b100;5", "b100,t200,;5", "b100,t200,s300,e400,c500,;5"}) {
            SecondSilence x = Due.with(page);
            due("5 hall of '" + page + "'", x.hall(), STATE);
            due("5 the page stays, '" + page + "'", x.count(5), page.length());
            due("5 no hall was read, '" + page + "'", x.count(6), 0);
        }
        due("5 hall of 2", Due.with("b100,t200;5").hall(), 2);
        due("5 hall of 3", Due.with("b100,t200,s300;5").hall(), 3);
        due("5 hall of 4", Due.with("b100,t200,s300,e400;5").hall(), 4);
        due("5 hall of 5", Due.with(ALL_KINDS).hall(), 5);

        SecondSilence x = Due.in(ALL_KINDS);
        due("5 the page is empty then", x.count(5), 0);
        for (int i = 0; i < 5; i++) {
            x.choose(i, 3);
            x.touch(i, (i + 1) % 5, true);
        }
        x.hear(1, 3);
        x.rests(1, 0);
        Due.write(x, "c999,b111;8");
        due("5 another hall", x.hall(), 2);
        due("5 its kind", x.about(0, 0), 4);
        due("5 its fall", x.count(1), 8);
        due("5 choices are gone", x.count(2), 0);
        due("5 touches are gone", x.count(3), 0);
        due("5 heard is gone", x.count(4), 0);
        due("5 halls read", x.count(6), 2);
        due("5 rests done stay", x.count(7), 1);
        due("5 bidder 2 is gone", x.about(2, 0), UNKNOWN);
        Due.write(x, "b1");
        x.touch(0, 1, true);
        due("5 a refused hall", x.hall(), STATE);
        due("5 leaves the hall", x.count(0), 2);
        due("5 and its touches", x.count(3), 1);
    }

    private static void aboutRow(SecondSilence x, int bidder, int... want) {
        for (int what = 0; what <= 9; what++) {
            due("6 about(" + bidder + ", " + what + ")", x.about(bidder, what), want[what]);
        }
    }

    private static void about() {
        SecondSilence x = Due.in(ALL_KINDS);
        x.touch(4, 0, true);
        x.touch(1, 0, true);
        x.choose(4, 30);
        aboutRow(x, 0, 0, 4, 5, 9, NONE, 5, 5, 42, 0, 18);
        aboutRow(x, 1, 1, 2, 7, 0, NONE, 5, 5, 62, 0, 0);
        aboutRow(x, 2, 2, 3, 8, 1, NONE, 3, 3, 76, 0, 0);
        aboutRow(x, 3, 3, 1, 9, 2, NONE, 2, 4, 88, -68, 0);
        aboutRow(x, 4, 4, 5, 6, 3, 30, 11, 11, 60, 0, 0);
        int[] wrong = {-1, 5, Integer.MIN_VALUE, Integer.MAX_VALUE};
        for (int bidder : wrong) {
            due("6 about(" + bidder + ", 0)", x.about(bidder, 0), UNKNOWN);
            due("6 about(" + bidder + ", 10)", x.about(bidder, 10), UNKNOWN);
        }
        for (int what : new int[] {-1, 10, Integer.MIN_VALUE, Integer.MAX_VALUE}) {
            due("6 about(0, " + what + ")", x.about(0, what), OUTSIDE);
        }
        x.choose(3, 1);
        due("6 a gain right behind a choice", x.about(3, 8), 0);
        x.choose(3, NONE);
        due("6 a gain right behind another one", x.about(3, 8), -68);
        x.choose(3, 1);
        due("6 a price right behind a choice", x.about(3, 7), 90);
        x.choose(3, NONE);
        due("6 a stop right behind a choice", x.about(3, 5), 2);
        x.choose(3, 1);
        due("6 a silence right behind a choice", x.about(3, 6), 3);
        SecondSilence cheap = Due.in("b919,b810;9");
        due("6 a price is 0 at least", cheap.about(0, 7), 0);
        due("6 a gain by a price of 0", cheap.about(0, 8), 90);
        int[] stammers = {2, 2, 3, 3, 4, 4, 5, 5, 6};
        SecondSilence s = Due.in("s100,b900;0");
        for (int wind = 1; wind <= 9; wind++) {
            s.wind(0, wind);
            due("6 a stammerer of wind " + wind + " stops", s.about(0, 5), stammers[wind - 1]);
        }
    }

    private static void stopsByTouch() {
        // Touches hand stops on against and along the numbers, in a ring too.
        SecondSilence x = Due.in("b900,b900,b900,b900,b900;0");
        for (int a = 0; a < 5; a++) {
            x.touch(a, (a + 4) % 5, true);
        }
        x.choose(0, 1);
        int[] stops = {1, 5, 4, 3, 2};
        for (int i = 0; i < 5; i++) {
            due("6 down a ring, stop of " + i, x.about(i, 5), stops[i]);
        }
        SecondSilence y = Due.in("b900,b900,b900,b900,b900;0");
        for (int a = 0; a < 5; a++) {
            y.touch(a, (a + 1) % 5, true);
        }
        y.choose(4, 2);
        int[] upStops = {3, 4, 5, 6, 2};
        for (int i = 0; i < 5; i++) {
            due("6 up a ring, stop of " + i, y.about(i, 5), upStops[i]);
        }
        // An echoer touches as he stops, not as he is silent.
        SecondSilence e = Due.in("e200,b900;0");
        e.touch(0, 1, true);
        due("6 touched by an echoer", e.about(1, 5), 4);
        due("6 the echoer is silent", e.about(0, 6), 5);
    }

    private static void as() {
        SecondSilence x = Due.in(ALL_KINDS);
        boolean[][] is = {
            {true, false, false, false, false},
            {true, true, false, false, false},
            {true, false, true, false, false},
            {true, false, false, true, false},
            {true, true, false, false, true}};
        for (int bidder = 0; bidder < 5; bidder++) {
            for (int kind = 0; kind < 5; kind++) {
                due("7 as(" + bidder + ", " + kind + ")", x.as(bidder, kind), is[bidder][kind] ? bidder : NONE);
            }
            due("7 as(" + bidder + ", -1)", x.as(bidder, -1), OUTSIDE);
            due("7 as(" + bidder + ", 5)", x.as(bidder, 5), OUTSIDE);
        }
        due("7 as(5, 0)", x.as(5, 0), UNKNOWN);
        due("7 as(-1, 9)", x.as(-1, 9), UNKNOWN);
    }

    private static void choose() {
        SecondSilence x = Due.in("t900,b100;0");
        due("8 choose(0, 30)", x.choose(0, 30), NONE);
        due("8 the wind ends ahead of it", x.about(0, 5), 19);
        due("8 choose(0, 1)", x.choose(0, 1), 30);
        due("8 he stops at it", x.about(0, 5), 1);
        for (int breath : new int[] {0, 31, -2, Integer.MIN_VALUE, Integer.MAX_VALUE}) {
            due("8 choose(0, " + breath + ")", x.choose(0, breath), OUTSIDE);
            due("8 choose(2, " + breath + ")", x.choose(2, breath), UNKNOWN);
        }
        due("8 refused choices change nothing", x.about(0, 4), 1);
        due("8 choose(-1, 1)", x.choose(-1, 1), UNKNOWN);
        due("8 choose(0, NONE)", x.choose(0, NONE), 1);
        due("8 none any more", x.about(0, 4), NONE);
        due("8 he stops by his wind", x.about(0, 5), 19);
    }

    private static void wind() {
        SecondSilence x = Due.in("t300,b100;0");
        due("9 wind(0, 9)", x.wind(0, 9), 3);
        due("9 wind(0, 1)", x.wind(0, 1), 9);
        due("9 wind is", x.about(0, 1), 1);
        due("9 he stops by it", x.about(0, 5), 3);
        for (int v : new int[] {0, 10, -1, Integer.MIN_VALUE, Integer.MAX_VALUE}) {
            due("9 wind(0, " + v + ")", x.wind(0, v), OUTSIDE);
            due("9 wind(2, " + v + ")", x.wind(2, v), UNKNOWN);
        }
        due("9 refused winds change nothing", x.about(0, 1), 1);
    }

    private static void touch() {
        SecondSilence x = Due.in("b200,b900,b900;0");
        due("10 touch(0, 1, false)", x.touch(0, 1, false), 0);
        due("10 touch(0, 1, true)", x.touch(0, 1, true), 0);
        due("10 touch(0, 1, true) again", x.touch(0, 1, true), 1);
        due("10 touches are counted once", x.count(3), 1);
        due("10 he stops behind", x.about(1, 5), 4);
        due("10 the toucher does not", x.about(0, 5), 3);
        due("10 who touches 1", x.about(1, 9), 1);
        x.touch(2, 1, true);
        due("10 who touch 1", x.about(1, 9), 5);
        due("10 touch(0, 1, false) then", x.touch(0, 1, false), 1);
        due("10 who touches 1 yet", x.about(1, 9), 4);
        due("10 he goes on", x.about(1, 5), 10);
        due("10 touch of oneself", x.touch(1, 1, true), UNKNOWN);
        due("10 touch(3, 0)", x.touch(3, 0, true), UNKNOWN);
        due("10 touch(0, 3)", x.touch(0, 3, true), UNKNOWN);
        due("10 touch(-1, 0)", x.touch(-1, 0, true), UNKNOWN);
        due("10 touch(0, -1)", x.touch(0, -1, true), UNKNOWN);
        due("10 touch(32, 1) is not touch(0, 1)", x.touch(32, 1, true), UNKNOWN);
        due("10 refused touches are none", x.count(3), 1);
    }

    private static void saying() {
        SecondSilence x = Due.in(ALL_KINDS);
        int[] saying = {5, 4, 3, 3, 1, 1, 1, 1, 1, 1, 0};
        for (int breath = 1; breath <= 11; breath++) {
            due("11 saying(" + breath + ")", x.saying(breath), saying[breath - 1]);
        }
        due("11 saying(40)", x.saying(40), 0);
        due("11 saying(0)", x.saying(0), OUTSIDE);
        due("11 saying(41)", x.saying(41), OUTSIDE);
        x.choose(0, 1);
        due("11 saying(1) when one has stopped", x.saying(1), 4);
        due("11 saying(1) without a hall", new SecondSilence().saying(1), STATE);
        due("11 saying(0) without a hall", new SecondSilence().saying(0), OUTSIDE);
    }

    private static void lotIs(String when, SecondSilence x, int who, int price, int breath) {
        due("12 lot(0) " + when, x.lot(0), who);
        due("12 lot(1) " + when, x.lot(1), price);
        due("12 lot(2) " + when, x.lot(2), breath);
    }

    private static void lot() {
        SecondSilence x = Due.in(ALL_KINDS);
        lotIs("to an echoer", x, 3, 88, 4);
        lotIs("as two are silent first", Due.in("b100,b100,b200;0"), NONE, NONE, NONE);
        lotIs("as two are silent second", Due.in("b100,b200,b200;0"), NONE, NONE, NONE);
        lotIs("as all are silent at once", Due.in("b100,b100;0"), NONE, NONE, NONE);
        lotIs("as two are silent third", Due.in("b300,b110,b220,b300;4"), 2, 12, 3);
        lotIs("by falling numbers", Due.in("b350,b240,b130;1"), 1, 38, 3);
        lotIs("to a choir man", Due.in("b100,c390;9"), 1, 90, 7);
        lotIs("to a tenor", Due.in("b100,t390;9"), 1, 36, 7);
        due("12 lot(-1)", x.lot(-1), OUTSIDE);
        due("12 lot(3)", x.lot(3), OUTSIDE);
        due("12 lot(3) without a hall", new SecondSilence().lot(3), OUTSIDE);
        due("12 lot(0) without a hall", new SecondSilence().lot(0), STATE);
    }

    private static void bestIs(String when, SecondSilence x, int bidder, int breath, int gain) {
        due("13 best breath " + when, x.best(bidder, 0), breath);
        due("13 best gain " + when, x.best(bidder, 1), gain + 100);
    }

    private static void best() {
        // Behind 2 each further breath makes it cheaper by 5, till the wind is at an end at 10.
        bestIs("as late as can be", Due.in("b155,b955;5"), 1, 10, 45);
        bestIs("by the least of like ones", Due.in("b109,c909;5"), 1, 3, 90);
        bestIs("where all gains are below 0", Due.in("b190,c990;0"), 1, 1, 0);
        bestIs("of who is always first", Due.in("b190,b990;3"), 0, 1, 0);
        // An echoer is second however he chooses.
        bestIs("where he can but lose", Due.in("b100,e990;0"), 1, 1, -90);
        bestIs("where he loses least at last", Due.in("b100,e990;2"), 1, 10, -72);
        SecondSilence early = Due.in("b109,c909;5");
        early.choose(0, 1);
        bestIs("right behind the first", early, 1, 2, 90);
        SecondSilence below = Due.in("b190,b280,b999;0");
        below.choose(0, 1);
        below.touch(0, 1, true);
        bestIs("where a touch stops him", below, 1, 1, 0);
        bestIs("as the third one", below, 2, 1, 0);
        SecondSilence x = Due.in("b155,b955;5");
        x.choose(1, 4);
        bestIs("whatever he has chosen", x, 1, 10, 45);
        due("13 best leaves the choice", x.about(1, 4), 4);
        due("13 best(2, 0)", x.best(2, 0), UNKNOWN);
        due("13 best(-1, 2)", x.best(-1, 2), UNKNOWN);
        due("13 best(0, -1)", x.best(0, -1), OUTSIDE);
        due("13 best(0, 2)", x.best(0, 2), OUTSIDE);
        due("13 best without a hall", new SecondSilence().best(0, 0), UNKNOWN);
    }

    private static void rests() {
        // The later one gains; of (1,1) each would stop later: (1,2), (2,1), (2,2) rest.
        SecondSilence x = Due.in("c905,c905;0");
        due("14 rests by 2", x.rests(2, 0), 3);
        due("14 the first by numbers, of 0", x.rests(2, 10), 1);
        due("14 the first by numbers, of 1", x.rests(2, 11), 2);
        due("14 of no bidder", x.rests(2, 12), NONE);
        due("14 of no bidder", x.rests(2, 14), NONE);
        due("14 rests by 1", x.rests(1, 0), 1);
        due("14 the only one, of 0", x.rests(1, 10), 1);
        due("14 rests were done", x.count(7), 7);
        due("14 choices stay", x.count(2), 0);
        due("14 rests(0, 0)", x.rests(0, 0), OUTSIDE);
        due("14 rests(5, 0)", x.rests(5, 0), OUTSIDE);
        for (int what : new int[] {-1, 1, 9, 15, Integer.MIN_VALUE, Integer.MAX_VALUE}) {
            due("14 rests(2, " + what + ")", x.rests(2, what), OUTSIDE);
        }
        due("14 refused rests were not done", x.count(7), 7);
        due("14 rests without a hall", new SecondSilence().rests(1, 0), STATE);
        due("14 rests(0, 0) without a hall", new SecondSilence().rests(0, 0), OUTSIDE);
        SecondSilence five = Due.in("b999,b999,b999,b999,b999;0");
        due("14 without gains all rest", five.rests(4, 0), 1024);
        due("14 and the first is all 1", five.rests(4, 14), 1);
        // Who gets it loses, so he would be silent with the other: those who are silent at once rest.
        SecondSilence loss = Due.in("c990,c990;0");
        due("14 where the second loses", loss.rests(2, 0), 2);
        due("14 where the second loses, by 3", loss.rests(3, 0), 3);
    }

    private static void restsHaveAnEnd() {
        SecondSilence x = Due.in("b111,b111;0");
        for (int i = 1; i <= 20; i++) {
            due("14 rests " + i, x.rests(1, 0), 1);
        }
        due("14 rests 21", x.rests(1, 0), STATE);
        due("14 rests 21 outside", x.rests(1, 1), OUTSIDE);
        due("14 rests done at the end", x.count(7), 20);
        Due.write(x, "b111,b111;0");
        x.hall();
        due("14 another hall gives no more rests", x.rests(1, 0), STATE);
    }

    private static void hear() {
        SecondSilence x = Due.in("b100,b200;0");
        due("15 hear(0, 1)", x.hear(0, 1), 1);
        due("15 hear(1, 40)", x.hear(1, 40), 2);
        due("15 hear(0, 0)", x.hear(0, 0), OUTSIDE);
        due("15 hear(0, 41)", x.hear(0, 41), OUTSIDE);
        due("15 hear(2, 0)", x.hear(2, 0), UNKNOWN);
        due("15 hear(-1, 1)", x.hear(-1, 1), UNKNOWN);
        for (int i = 3; i <= 8; i++) {
            due("15 hear " + i, x.hear(0, 1), i);
        }
        due("15 hear 9", x.hear(0, 1), FULL);
        due("15 hear 9 outside", x.hear(0, 41), OUTSIDE);
        due("15 hear 9 unknown", x.hear(2, 1), UNKNOWN);
        due("15 heard", x.count(4), 8);
        due("15 hear without a hall", new SecondSilence().hear(0, 1), UNKNOWN);
    }

    private static void forget() {
        SecondSilence x = Due.in("b100,b200;0");
        due("16 forget nothing", x.forget(), 0);
        x.hear(0, 9);
        x.hear(0, 9);
        due("16 nothing fits what is heard", x.touched(0), 0);
        due("16 forget", x.forget(), 2);
        due("16 heard then", x.count(4), 0);
        due("16 all fits then", x.touched(0), 3);
        due("16 forget again", x.forget(), 0);
        due("16 forget without a hall", new SecondSilence().forget(), 0);
    }

    private static void winds() {
        SecondSilence x = Due.in("s500,b900,e300;0");
        due("17 nothing is heard", x.winds(0), 1022);
        x.hear(0, 3);
        due("17 a stammerer silent from 3", x.winds(0), 1 << 3 | 1 << 4);
        due("17 of others nothing is heard", x.winds(1), 1022);
        x.hear(2, 8);
        due("17 an echoer silent from 8", x.winds(2), 1 << 5);
        x.hear(2, 7);
        due("17 from 7 as well", x.winds(2), 0);
        x.forget();
        x.hear(1, 4);
        x.choose(1, 4);
        due("17 by choice from 4", x.winds(1), 1022 - (1 << 1) - (1 << 2));
        x.choose(1, NONE);
        x.touch(2, 1, true);
        due("17 by wind or a touch", x.winds(1), 1 << 3);
        x.wind(2, 2);
        due("17 by a touch", x.winds(1), 1022 - (1 << 1) - (1 << 2));
        due("17 winds leaves the wind", x.about(1, 1), 9);
        // In a ring his own wind comes back to him, too late.
        x.touch(1, 2, true);
        due("17 in a ring", x.winds(1), 1022 - (1 << 1) - (1 << 2));
        due("17 winds(3)", x.winds(3), UNKNOWN);
        due("17 winds(-1)", x.winds(-1), UNKNOWN);
        due("17 winds without a hall", new SecondSilence().winds(0), UNKNOWN);
    }

    private static void touchedIs(String when, SecondSilence x, int howMany, int least) {
        due("18 touched(0) " + when, x.touched(0), howMany);
        due("18 touched(1) " + when, x.touched(1), least);
    }

    private static void touched() {
        SecondSilence x = Due.in("b200,b900,b900;0");
        touchedIs("as nothing is heard", x, 7, -1);
        x.hear(1, 4);
        touchedIs("as 0 touched 1", x, 1, 1);
        x.hear(2, 10);
        touchedIs("as 0 touched 1 alone", x, 1, 1);
        x.forget();
        x.hear(2, 4);
        touchedIs("as 0 touched 2", x, 1, 2);
        x.touch(0, 1, true);
        touchedIs("as 0 touches 1 already", x, 1, 2);
        x.forget();
        x.hear(2, 5);
        touchedIs("as 1 touched 2 in turn", x, 1, 7);
        x.hear(0, 3);
        x.hear(1, 4);
        touchedIs("as all is heard", x, 1, 7);
        x.hear(2, 4);
        touchedIs("as two things are heard of one", x, 0, -2);
        x.forget();
        x.hear(2, 10);
        touchedIs("as nobody touched 2", x, 4, -1);
        due("18 touched leaves the touches", x.count(3), 1);
        SecondSilence five = Due.in("b900,b900,b900,b900,b100;0");
        five.hear(0, 3);
        touchedIs("as 4 touched 0", five, 1, 20);
        due("18 touched(-1)", x.touched(-1), OUTSIDE);
        due("18 touched(2)", x.touched(2), OUTSIDE);
        due("18 touched(2) without a hall", new SecondSilence().touched(2), OUTSIDE);
        due("18 touched(0) without a hall", new SecondSilence().touched(0), STATE);
    }

    private static void sales() {
        // From 0 the seeds are 12345, 1406932606, 654583775, 1449466924: draws 0, 21468, 9988, 22117.
        SecondSilence x = Due.in("b990,c950;4");
        due("19 the seed then", x.sales(1, 0, 2), 1406932606);
        due("19 of breaths 1 and 4 the second is sold", x.sales(1, 0, 0), 1);
        due("19 at a choir man's price", x.sales(1, 0, 1), 50);
        due("19 the seed after two", x.sales(2, 0, 2), 1449466924);
        // Draws 9988 and 22117 by 9 leave 7 and 4: breaths 8 and 5, so 0 gets it for 90 less 28.
        due("19 two are sold", x.sales(2, 0, 0), 2);
        due("19 at both prices", x.sales(2, 0, 1), 112);
        x.choose(0, 30);
        due("19 choices do not count", x.sales(2, 0, 1), 112);
        due("19 choices stay", x.about(0, 4), 30);
        x.touch(1, 0, true);
        // He stops at 6 at the latest then: 90 less 20.
        due("19 touches count", x.sales(2, 0, 1), 120);
        x.touch(1, 0, false);
        x.wind(0, 5);
        due("19 winds count", x.sales(2, 0, 1), 50 + 70);
        due("19 sales(60, max)", x.sales(60, Integer.MAX_VALUE, 0) >= 0 ? 1 : 0, 1);
        due("19 sales(0, 0, 0)", x.sales(0, 0, 0), OUTSIDE);
        due("19 sales(61, 0, 0)", x.sales(61, 0, 0), OUTSIDE);
        due("19 sales(1, -1, 0)", x.sales(1, -1, 0), OUTSIDE);
        due("19 sales(1, min, 0)", x.sales(1, Integer.MIN_VALUE, 0), OUTSIDE);
        due("19 sales(1, 0, -1)", x.sales(1, 0, -1), OUTSIDE);
        due("19 sales(1, 0, 3)", x.sales(1, 0, 3), OUTSIDE);
        due("19 sales outside without a hall", new SecondSilence().sales(0, 0, 0), OUTSIDE);
        due("19 sales without a hall", new SecondSilence().sales(1, 0, 0), STATE);
    }

    private static void imageAndRestore() {
        due("20 image without a hall", new SecondSilence().image(), STATE);
        SecondSilence x = Due.in("b100,b200,b300;0");
        due("21 restore of no image", x.restore(), STATE);
        x.choose(0, 7);
        x.touch(0, 2, true);
        x.hear(1, 3);
        long before = x.digest();
        due("20 image", x.image(), 3);
        due("20 an image changes nothing", x.digest(), before);
        x.wind(0, 9);
        x.wind(2, 1);
        x.choose(0, NONE);
        x.choose(1, 2);
        x.touch(0, 2, false);
        x.touch(2, 1, true);
        x.forget();
        x.hear(0, 5);
        x.hear(2, 6);
        due("21 restore", x.restore(), 3);
        due("21 all is as it was", x.digest(), before);
        x.hear(1, 4);
        x.choose(1, 30);
        due("21 restore once more", x.restore(), 3);
        due("21 all is as it was once more", x.digest(), before);
        x.choose(1, 6);
        x.image();
        x.choose(1, 5);
        x.restore();
        due("20 the latest image is kept", x.about(1, 4), 6);
        Due.write(x, "b1");
        x.rests(1, 0);
        x.restore();
        due("21 the page is not in the image", x.count(5), 2);
        due("21 nor are the rests", x.count(7), 1);
        due("21 a refused hall", x.hall(), STATE);
        due("21 is no other hall", x.restore(), 3);
        x.blank();
        Due.write(x, "b100,b200,b300;0");
        x.hall();
        due("21 the same text is another hall", x.restore(), STATE);
        due("21 which stays as it is", x.count(2), 0);
        due("20 an image of it", x.image(), 3);
        due("21 is given back", x.restore(), 3);
    }

    private static void count() {
        SecondSilence x = Due.in("b100,b200,b300;7");
        x.choose(0, 3);
        x.choose(2, 3);
        x.touch(0, 1, true);
        x.touch(0, 2, true);
        x.touch(1, 2, true);
        for (int i = 0; i < 4; i++) {
            x.hear(1, 1);
        }
        Due.write(x, "hello");
        for (int i = 0; i < 6; i++) {
            x.rests(1, 0);
        }
        int[] want = {3, 7, 2, 3, 4, 5, 1, 6};
        for (int what = 0; what <= 7; what++) {
            due("22 count(" + what + ")", x.count(what), want[what]);
        }
        for (int what : new int[] {-1, 8, Integer.MIN_VALUE, Integer.MAX_VALUE}) {
            due("22 count(" + what + ")", x.count(what), OUTSIDE);
        }
    }

    private static long digestOf(long... numbers) {
        long h = 911;
        for (long number : numbers) {
            h = 31 * h + number;
        }
        return h;
    }

    private static void digest() {
        SecondSilence x = new SecondSilence();
        due("23 digest of a new object", x.digest(), digestOf(0, 0, 0, 0, 0, 0, 0, 0));
        Due.write(x, "t~");
        due("23 digest of a page", x.digest(), digestOf('t', '~', 0, 0, 0, 0, 0, 2, 0, 0));
        x.blank();
        Due.write(x, "b155,b955;5");
        x.hall();
        x.touch(1, 0, true);
        x.hear(0, 2);
        Due.write(x, " ");
        // 0 stops at 2, 1 at 10 for 5; of one more touch that of 0 to 1 fits too.
        due("23 digest of a hall", x.digest(), digestOf(1, 5, 10, 2, -1,
                0, 1, 5, 5, NONE, 2, 2, 45, 0, 2, 1, 100, 1 << 1,
                0, 9, 5, 5, NONE, 10, 10, 5, 45, 0, 10, 145, 1022,
                ' ', 2, 5, 0, 1, 1, 1, 1, 0));
        due("23 digest changes nothing", x.count(7), 0);
    }

    private PromisesTest() {
    }
}
