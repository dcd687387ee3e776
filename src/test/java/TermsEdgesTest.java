import java.math.BigInteger;

/** A test for each sentence of 'What it is' and 'Terms' that names an edge. */
public final class TermsEdgesTest {
    private static final int NONE = -1, UNKNOWN = -101, OUTSIDE = -102, STATE = -103, FULL = -104;
    private static final String ALL_KINDS = "b459,t270,s381,e192,c563;2";
    private static final Due DUE = new Due();

    public static void main(String[] args) {
        theTextOfAHall();
        howLongOneSays();
        whoGetsTheLot();
        whatWouldBe();
        whatIsHeard();
        salesAndImage();
        refusals();
        DUE.close("TermsEdgesTest");
    }

    private static void due(String call, long got, long want) {
        DUE.is(call, got, want);
    }

    private static void edge(String words, Runnable test) {
        DUE.sentence(0, words, test);
    }

    // ---- the text of a hall

    private static void theTextOfAHall() {
        edge("An object is used for at most 512 calls after it has been made", TermsEdgesTest::the512thCall);
        edge("two to five BIDDERS (numbered from 0)", TermsEdgesTest::twoToFive);
        edge("with \",\" between", () -> {
            onlyFit("b100", ",");
            onlyFit("b100,b100", ",;");
            onlyFit("b100,b100,b100", ",;");
            onlyFit("b100,b100,b100,b100", ",;");
            onlyFit("b100,b100,b100,b100,b100", ";");
        });
        edge("each a letter, his KIND, and three digits", () -> {
            faultAt("b,", 1);
            faultAt("b1,", 2);
            faultAt("b10,", 3);
            faultAt("b1000", 4);
            faultAt("b100,b10;", 8);
            faultAt("b100,b1000", 9);
            faultAt("bb100", 1);
            faultAt("1b00", 0);
        });
        edge("WIND (1 to 9)", () -> {
            onlyFit("t", "123456789");
            onlyFit("b100,b200,b300,b400,s", "123456789");
            SecondSilence x = Due.in("b155,b955;0");
            due("the least wind", x.about(0, 1), 1);
            due("the greatest wind", x.about(1, 1), 9);
        });
        edge("SUM (0 to 9)", () -> {
            onlyFit("t1", "0123456789");
            SecondSilence x = Due.in("b105,b195;0");
            due("the least sum", x.about(0, 2), 0);
            due("the greatest sum", x.about(1, 2), 9);
        });
        edge("WISH (0 to 9)", () -> {
            onlyFit("t10", "0123456789");
            SecondSilence x = Due.in("b150,b159;0");
            due("the least wish", x.about(0, 3), 0);
            due("the greatest wish", x.about(1, 3), 9);
        });
        edge("then \";\" and a digit FALL (0 to 9)", () -> {
            onlyFit("b100,b100;", "0123456789");
            onlyFit("b100,b100;5", "");
            onlyFit("b100,b100,b100,b100,b100;", "0123456789");
            onlyFit("b100,b100,b100,b100,b100;5", "");
            due("the least fall", Due.in("b100,b100;0").count(1), 0);
            due("the greatest fall", Due.in("b100,b100;9").count(1), 9);
            due("no digit behind ';'", Due.with("b100,b100;").hall(), STATE);
            due("no ';'", Due.with("b100,b100").hall(), STATE);
        });
        edge("KINDS are told by the letter: 0 BIDDER \"b\", 1 TENOR \"t\", 2 STAMMERER \"s\", 3 ECHOER \"e\","
                + " 4 CHOIR MAN \"c\"", () -> {
            onlyFit("", "btsec");
            onlyFit("b100,", "btsec");
            for (int kind = 0; kind < 5; kind++) {
                due("the kind", Due.in(ALL_KINDS).about(kind, 0), kind);
            }
        });
        edge("All are BIDDERS; a CHOIR MAN is a TENOR, too", () -> {
            SecondSilence x = Due.in(ALL_KINDS);
            for (int bidder = 0; bidder < 5; bidder++) {
                due("a bidder is " + bidder, x.as(bidder, 0), bidder);
            }
            due("a choir man as a tenor", x.as(4, 1), 4);
            due("a tenor as a choir man", x.as(1, 4), NONE);
            due("a bidder as a tenor", x.as(0, 1), NONE);
        });
        edge("At first there is no HALL", () -> {
            due("bidders", new SecondSilence().count(0), 0);
            due("the lot", new SecondSilence().lot(0), STATE);
            due("bidder 0", new SecondSilence().about(0, 0), UNKNOWN);
        });
    }

    private static void the512thCall() {
        SecondSilence x = Due.with("b155,b955;5");
        x.hall();
        for (int call = 13; call <= 511; call++) {
            due("call " + call, x.choose(1, 3 + call % 2), call == 13 ? NONE : 4 - call % 2);
        }
        // Call 511 left the choice of 4, so he pays 50 less 15.
        due("call 512", x.lot(1), 35);
    }

    private static void twoToFive() {
        faultAt("b100;", 4);
        due("hall of one", Due.with("b100;5").hall(), STATE);
        faultAt("b100,b100,b100,b100,b100,", 24);
        String page = "b100";
        for (int bidders = 2; bidders <= 5; bidders++) {
            page = page + ",b100";
            SecondSilence x = Due.with(page + ";5");
            due("hall of " + bidders, x.hall(), bidders);
            due("the first is 0", x.about(0, 1), 1);
            due("the last is " + (bidders - 1), x.about(bidders - 1, 1), 1);
            due("none is " + bidders, x.about(bidders, 1), UNKNOWN);
            due("none is -1", x.about(-1, 1), UNKNOWN);
        }
    }

    private static void faultAt(String page, int place) {
        due("fault of '" + page + "'", Due.with(page).fault(), place);
    }

    /** Of all letters only those fit behind what is ahead. */
    private static void onlyFit(String ahead, String fitting) {
        for (int code = 32; code <= 126; code++) {
            String page = ahead + (char) code;
            faultAt(page, fitting.indexOf(code) < 0 ? ahead.length() : page.length());
        }
    }

    // ---- how long one says his sum

    private static void howLongOneSays() {
        edge("Each says his SUM from BREATH 1 on, until he STOPS", () -> {
            SecondSilence x = Due.in("b100,b200;0");
            due("at breath 1", x.saying(1), 2);
            due("at the first one's stop", x.saying(2), 1);
            due("at the last one's stop", x.saying(3), 0);
            x.choose(0, 1);
            due("at breath 1, at which one stops", x.saying(1), 1);
        });
        edge("at the BREATH that he has chosen (1 to 30; at first none)", () -> {
            SecondSilence x = Due.in("t900,b100;0");
            due("at first", x.about(0, 4), NONE);
            for (int breath = 1; breath <= 30; breath++) {
                due("choose " + breath, x.choose(0, breath), breath == 1 ? NONE : breath - 1);
                due("stop by choice of " + breath, x.about(0, 5), Math.min(breath, 19));
            }
            due("choose 0", x.choose(0, 0), OUTSIDE);
            due("choose 31", x.choose(0, 31), OUTSIDE);
        });
        edge("a BIDDER (an ECHOER) at the BREATH of 1 more than WIND", () -> {
            stopsByWind("b100,b900;0", 2, 3, 4, 5, 6, 7, 8, 9, 10);
            stopsByWind("e100,b900;0", 2, 3, 4, 5, 6, 7, 8, 9, 10);
        });
        edge("a TENOR (a CHOIR MAN) at that of 1 more than twice WIND", () -> {
            stopsByWind("t100,b900;0", 3, 5, 7, 9, 11, 13, 15, 17, 19);
            stopsByWind("c100,b900;0", 3, 5, 7, 9, 11, 13, 15, 17, 19);
        });
        edge("a STAMMERER at that of 1 more than half of WIND, rounded up",
                () -> stopsByWind("s100,b900;0", 2, 2, 3, 3, 4, 4, 5, 5, 6));
        edge("or at the BREATH behind that at which somebody STOPS who TOUCHES him (at first nobody does)",
                TermsEdgesTest::stopsByTouch);
        edge("at the first of all these", () -> {
            // 0 stops by wind at 4; 1 touches him.
            int[][] chosenTouchingStop = {
                {3, 4, 3}, {3, 3, 3}, {4, 3, 4}, {5, 3, 4}, {4, 2, 3}, {5, 2, 3}, {3, 2, 3}, {5, 4, 4}, {NONE, 2, 3},
                {NONE, 3, 4}, {NONE, 4, 4}, {1, 1, 1}, {2, 1, 2}, {3, 1, 2}, {30, 30, 4}};
            for (int[] row : chosenTouchingStop) {
                SecondSilence x = Due.in("b300,b900;0");
                x.touch(1, 0, true);
                x.choose(0, row[0]);
                x.choose(1, row[1]);
                due("stop by choice " + row[0] + " and a touch from " + row[1], x.about(0, 5), row[2]);
            }
        });
        edge("He is SILENT from the BREATH at which he STOPS; an ECHOER from 2 BREATHS later on", () -> {
            SecondSilence x = Due.in("b100,t100,s100,e100,c100;0");
            for (int bidder = 0; bidder < 5; bidder++) {
                x.choose(bidder, 1);
                due("silent from, of kind " + bidder, x.about(bidder, 6), bidder == 3 ? 3 : 1);
            }
            due("an echo is no saying", x.saying(1), 0);
            due("the last echo of wind", Due.in("e900,b100;0").about(0, 6), 12);
        });
    }

    private static void stopsByWind(String hall, int... stops) {
        SecondSilence x = Due.in(hall);
        for (int wind = 1; wind <= 9; wind++) {
            x.wind(0, wind);
            due("stop by wind " + wind + " in " + hall, x.about(0, 5), stops[wind - 1]);
        }
    }

    private static void stopsByTouch() {
        SecondSilence x = Due.in("b900,b400,b900;0");
        due("touches at first", x.count(3), 0);
        due("who touches 1 at first", x.about(1, 9), 0);
        x.touch(0, 1, true);
        for (int breath = 1; breath <= 6; breath++) {
            x.choose(0, breath);
            due("stop of 1, behind that at " + breath, x.about(1, 5), Math.min(breath + 1, 5));
            due("stop of 0, who touches", x.about(0, 5), breath);
        }
        x.touch(2, 1, true);
        x.choose(2, 2);
        due("stop behind the first of two", x.about(1, 5), 3);
        x.choose(0, 1);
        due("stop behind the other one", x.about(1, 5), 2);
        SecondSilence both = Due.in("b900,b900;0");
        both.touch(0, 1, true);
        both.touch(1, 0, true);
        due("stop of who touch each other", both.about(0, 5), 10);
        both.choose(0, 8);
        due("stop of the chooser", both.about(0, 5), 8);
        due("stop of the other", both.about(1, 5), 9);
        everyRowOfTouches(new int[] {0, 1, 2, 3, 4}, 0);
    }

    /** A stop is handed on from one to the next, whatever their numbers. */
    private static void everyRowOfTouches(int[] row, int from) {
        if (from == row.length) {
            stopsInARow(row);
            return;
        }
        for (int i = from; i < row.length; i++) {
            int[] other = row.clone();
            other[from] = row[i];
            other[i] = row[from];
            everyRowOfTouches(other, from + 1);
        }
    }

    private static void stopsInARow(int[] row) {
        SecondSilence x = Due.in("b900,b900,b900,b900,b900;0");
        x.choose(row[0], 1);
        for (int i = 1; i < row.length; i++) {
            x.touch(row[i - 1], row[i], true);
        }
        for (int i = 0; i < row.length; i++) {
            due("stop " + i + " behind the first, in a row of touches", x.about(row[i], 5), i + 1);
        }
    }

    // ---- who gets the lot

    private static void lotIs(String hall, int who, int price, int breath) {
        SecondSilence x = Due.in(hall);
        due("who, in " + hall, x.lot(0), who);
        due("price, in " + hall, x.lot(1), price);
        due("breath, in " + hall, x.lot(2), breath);
    }

    private static void whoGetsTheLot() {
        edge("If one alone is SILENT first, and one alone second, this one GETS the lot", () -> {
            lotIs("b110,b220;1", 1, 18, 3);
            lotIs("b210,b120;1", 0, 8, 3);
            lotIs("b330,b440,b110,b550,b220;1", 4, 18, 3);
            lotIs("b220,b110,b330;1", 0, 18, 3);
            lotIs("b330,b220,b110,b440,b550;1", 1, 18, 3);
            // The echoer stops first and is silent second.
            lotIs("e110,b220;1", 0, 9, 4);
            // Silent third at once does no harm.
            lotIs("b550,b110,b550,b220,b550;1", 3, 18, 3);
        });
        edge("if two or more are SILENT first at once, or second, nobody does", () -> {
            lotIs("b110,b110;1", NONE, NONE, NONE);
            lotIs("b110,b110,b220;1", NONE, NONE, NONE);
            lotIs("b220,b110,b330,b110;1", NONE, NONE, NONE);
            lotIs("b110,b110,b110,b220;1", NONE, NONE, NONE);
            lotIs("b110,b110,b110,b110,b110;1", NONE, NONE, NONE);
            lotIs("b110,b220,b220;1", NONE, NONE, NONE);
            lotIs("b220,b330,b220,b110;1", NONE, NONE, NONE);
            lotIs("b220,b220,b220,b220,b110;1", NONE, NONE, NONE);
            // An echo makes it at once.
            lotIs("e110,b330,b990;1", NONE, NONE, NONE);
            lotIs("b110,e110,b330;1", NONE, NONE, NONE);
        });
        edge("His PRICE is 10 times SUM, less FALL for each BREATH ahead of that at which he STOPS (0 at least)", () -> {
            pricesByChoice("b920,b100;9", 20, 11, 2, 0, 0);
            pricesByChoice("b910,b100;5", 10, 5, 0, 0, 0);
            pricesByChoice("e990,b100;1", 90, 89, 88, 87, 86);
            pricesByChoice("b990,b100;0", 90, 90, 90, 90, 90);
            pricesByChoice("b900,b100;9", 0, 0, 0, 0, 0);
        });
        edge("of a CHOIR MAN FALL does not count", () -> {
            pricesByChoice("c920,b100;9", 20, 20, 20, 20, 20);
            pricesByChoice("t920,b100;9", 20, 11, 2, 0, 0);
            due("at the end of his wind", Due.in("c990,b100;9").about(0, 7), 90);
        });
    }

    private static void pricesByChoice(String hall, int... prices) {
        SecondSilence x = Due.in(hall);
        for (int breath = 1; breath <= prices.length; breath++) {
            x.choose(0, breath);
            due("price by a stop at " + breath + " in " + hall, x.about(0, 7), prices[breath - 1]);
        }
    }

    // ---- what would be

    private static void bestIs(String hall, int bidder, int breath, int gain) {
        due("best breath in " + hall, Due.in(hall).best(bidder, 0), breath);
        due("best gain in " + hall, Due.in(hall).best(bidder, 1), gain + 100);
    }

    private static void whatWouldBe() {
        edge("GAIN of who GETS the lot is 10 times WISH, less PRICE (it may be below 0), of others 0", () -> {
            due("all is lost", Due.in("b109,b290;0").about(1, 8), -90);
            due("nothing is lost or gained", Due.in("b109,b255;0").about(1, 8), 0);
            due("a little is lost", Due.in("b109,b275;9").about(1, 8), -2);
            due("all is gained", Due.in("b109,b209;0").about(1, 8), 90);
            due("of the first", Due.in("b109,b209;0").about(0, 8), 0);
            due("of the third", Due.in("b109,b209,b309;0").about(2, 8), 0);
            due("of one of two at once", Due.in("b109,b109;0").about(0, 8), 0);
        });
        edge("BEST of one: the BREATH 1 to 30 to choose by which his GAIN is greatest", () -> {
            // Each breath makes it cheaper by 5, until his wind is at an end at 19.
            bestIs("b100,t991;5", 1, 19, 10);
            // First or with the other one he pays nothing.
            bestIs("b190,b990;0", 1, 1, 0);
            // At 2 he is silent with the other one, at 3 he pays 80.
            bestIs("b100,b989;0", 1, 3, 10);
            // Second at once by his echo: the least is the least of all.
            bestIs("b109,e909;5", 1, 1, 90);
        });
        edge("all others as they are: of like ones the least", () -> {
            bestIs("b109,c909;5", 1, 3, 90);
            SecondSilence x = Due.in("b109,c909;5");
            x.choose(0, 1);
            due("best breath behind a choice", x.best(1, 0), 2);
            x.touch(1, 0, true);
            x.choose(0, 30);
            due("best breath behind what he has by wind", x.best(1, 0), 3);
            bestIs("b109,b109,b909;0", 2, 1, 0);
        });
        edge("RESTS by so many BREATHS (1 to 4)", () -> {
            // The later one gains, so one of them must choose the last breath there is.
            int[] howMany = {1, 3, 5, 7};
            SecondSilence x = Due.in("c905,c905;0");
            for (int breaths = 1; breaths <= 4; breaths++) {
                due("rests by " + breaths, x.rests(breaths, 0), howMany[breaths - 1]);
            }
            due("rests by 0", x.rests(0, 0), OUTSIDE);
            due("rests by 5", x.rests(5, 0), OUTSIDE);
            due("rests by 4 at once", Due.in("c905,c905;0").rests(4, 0), 7);
        });
        edge("all choices of all BIDDERS, each of 1 to that", () -> {
            SecondSilence x = Due.in("c905,c905;0");
            due("of two", x.rests(4, 0), 7);
            Due.write(x, "c955,c955,c955,c955,c955;0");
            x.hall();
            due("of five behind two", x.rests(4, 0), 1024);
            due("bidder 4 of the first", x.rests(4, 14), 1);
            // Stopped at 2 by the touch he would lose 5, so of 7 rests that of 1 and 4 goes.
            SecondSilence touched = Due.in("b998,b998;5");
            touched.touch(0, 1, true);
            due("with a touch", touched.rests(4, 0), 6);
            due("the first with it", touched.rests(4, 10), 2);
            touched.touch(0, 1, false);
            due("without it again", touched.rests(4, 0), 7);
            due("the first without it", touched.rests(4, 10), 1);
        });
        edge("by which nobody would have a greater GAIN by another such choice of his alone", () -> {
            // A gain of 0 is not greater than none: all rest.
            due("rests without gain", Due.in("c955,c955;0").rests(4, 0), 16);
            // Who gets it loses, so he would be silent with the other one.
            due("rests with a loss", Due.in("c990,c990;0").rests(4, 0), 4);
            // Alone none of three can change anything of all at once, two of them could.
            due("rests of three", Due.in("c905,c905,c905;0").rests(1, 0), 1);
        });
        edge("the first by numbers: what each chooses", () -> {
            SecondSilence x = Due.in("c905,c905;0");
            due("bidder 0 counts most", x.rests(4, 10), 1);
            due("bidder 1 counts less", x.rests(4, 11), 4);
        });
    }

    // ---- what is heard

    private static void whatIsHeard() {
        edge("HEARD (8 at most)", () -> {
            SecondSilence x = Due.in("b200,b900;0");
            for (int i = 1; i <= 7; i++) {
                due("hear " + i, x.hear(0, 3), i);
            }
            due("all seven are so", x.winds(0), 1 << 2);
            due("hear 8", x.hear(0, 4), 8);
            due("the eighth counts", x.winds(0), 0);
            due("hear 9", x.hear(0, 3), FULL);
            due("heard then", x.count(4), 8);
            due("forgotten", x.forget(), 8);
            due("hear again", x.hear(0, 3), 1);
        });
        edge("that one was SILENT from a BREATH on (1 to 40)", () -> {
            int[] howManyByBreath = {0, 0, 3, 0};
            for (int breath = 1; breath <= 4; breath++) {
                SecondSilence x = Due.in("b200,b900;0");
                x.hear(0, breath);
                due("from " + breath, x.touched(0), howManyByBreath[breath - 1]);
            }
            SecondSilence x = Due.in("b200,b900;0");
            due("hear from 0", x.hear(0, 0), OUTSIDE);
            due("hear from 1", x.hear(0, 1), 1);
            due("hear from 40", x.hear(0, 40), 2);
            due("hear from 41", x.hear(0, 41), OUTSIDE);
        });
        edge("WINDS of one: by how much WIND (1 to 9)", () -> {
            for (int breath = 1; breath <= 12; breath++) {
                SecondSilence x = Due.in("b500,b900;0");
                x.hear(0, breath);
                due("silent from " + breath, x.winds(0), breath < 2 || breath > 10 ? 0 : 1 << breath - 1);
            }
        });
        edge("all else as it is (choices, TOUCHES, too)", () -> {
            SecondSilence x = Due.in("b500,b900;0");
            x.hear(0, 3);
            x.choose(0, 3);
            due("by a choice", x.winds(0), 0b1111111100);
            x.choose(0, 2);
            due("by an earlier choice", x.winds(0), 0);
            x.choose(0, NONE);
            x.choose(1, 2);
            x.touch(1, 0, true);
            due("by a touch", x.winds(0), 0b1111111100);
            x.choose(1, 1);
            due("by an earlier touch", x.winds(0), 0);
        });
        edge("all that is HEARD of him would be so, as bits", () -> {
            SecondSilence x = Due.in("s500,b900;0");
            due("as nothing is heard", x.winds(0), 0b1111111110);
            x.hear(1, 40);
            due("as nothing is heard of him", x.winds(0), 0b1111111110);
            x.hear(0, 6);
            due("as one thing is heard", x.winds(0), 0b1000000000);
            x.hear(0, 6);
            due("as it is heard twice", x.winds(0), 0b1000000000);
            x.hear(0, 5);
            due("as another thing is heard, too", x.winds(0), 0);
        });
        edge("WHO TOUCHED: by one more TOUCH of one to another one (5 times the first, and the second, together;"
                + " or none: -1)", TermsEdgesTest::eachTouch);
        edge("all that is HEARD would be so: how many; the least", () -> {
            SecondSilence x = Due.in("b200,b200,b900;0");
            due("as nothing is heard", x.touched(0), 7);
            due("the least is none", x.touched(1), -1);
            x.hear(2, 4);
            due("two could have touched", x.touched(0), 2);
            due("the least of the two", x.touched(1), 2);
            x.touch(0, 2, true);
            // It is so by what is; one more to 0 or 1 comes too late, that of 1 to 2 at the same time.
            due("as one did", x.touched(0), 6);
            due("the least as one did", x.touched(1), -1);
            x.hear(0, 2);
            due("as nothing fits", x.touched(0), 0);
            due("the least of nothing", x.touched(1), -2);
        });
        edge("by one more TOUCH of one to another one", () -> {
            SecondSilence x = Due.in("b200,b500,b900;0");
            x.touch(0, 2, true);
            x.hear(2, 4);
            // The touch that is there goes on counting: one more of 1 to 2 alone would be too late.
            due("what is there counts on", x.touched(0), 6);
            x.forget();
            x.hear(2, 7);
            due("a touch can't be taken back", x.touched(0), 0);
            x.touch(0, 2, false);
            due("without it 1 could have touched", x.touched(1), 7);
        });
    }

    private static void eachTouch() {
        for (int a = 0; a < 5; a++) {
            for (int b = 0; b < 5; b++) {
                SecondSilence x = Due.in("b900,b900,b900,b900,b900;0");
                x.choose(a, 1);
                if (a != b) {
                    x.hear(b, 2);
                    due("how many, as " + a + " touched " + b, x.touched(0), 1);
                    due("the least, as " + a + " touched " + b, x.touched(1), 5 * a + b);
                } else {
                    x.hear(b, 1);
                    due("the least, as " + a + " chose so", x.touched(1), -1);
                }
            }
        }
    }

    // ---- sales and image

    private static BigInteger nextSeed(BigInteger seed) {
        return BigInteger.valueOf(1103515245).multiply(seed).add(BigInteger.valueOf(12345))
                .mod(BigInteger.ONE.shiftLeft(31));
    }

    private static int seedAhead(int next) {
        BigInteger rest = BigInteger.ONE.shiftLeft(31);
        return BigInteger.valueOf(next - 12345L).multiply(BigInteger.valueOf(1103515245).modInverse(rest))
                .mod(rest).intValueExact();
    }

    private static int breathOf(BigInteger seed) {
        return 1 + seed.divide(BigInteger.valueOf(65536)).mod(BigInteger.valueOf(9)).intValue();
    }

    private static void salesAndImage() {
        edge("1103515245 times it and 12345, its rest by 2 to the 31", () -> {
            SecondSilence x = Due.in("t990,t990;9");
            for (int seed : new int[] {0, 1, 2, 65535, 65536, 1 << 30, Integer.MAX_VALUE - 1, Integer.MAX_VALUE}) {
                BigInteger next = BigInteger.valueOf(seed);
                for (int draw = 0; draw < 120; draw++) {
                    next = nextSeed(next);
                }
                due("the seed behind 60 sales from " + seed, x.sales(60, seed, 2), next.longValueExact());
            }
        });
        edge("each BIDDER, by number, chooses the BREATH of 1 more than a DRAW of 9", () -> {
            int seen = 0;
            for (int seed = 0; seed < 100; seed++) {
                BigInteger first = nextSeed(BigInteger.valueOf(seed));
                int zero = breathOf(first);
                int one = breathOf(nextSeed(first));
                seen |= 1 << zero | 1 << one;
                // 0 stops at 10 by wind and pays less a breath; of 1 the fall does not count.
                int price = zero > one ? 90 - 9 * (zero - 1) : zero < one ? 10 : 0;
                SecondSilence x = Due.in("b990,c910;9");
                due("how often by " + zero + " and " + one, x.sales(1, seed, 0), zero == one ? 0 : 1);
                due("the price by " + zero + " and " + one, x.sales(1, seed, 1), price);
            }
            due("breaths 1 to 9 were all seen", seen, 0b1111111110);
        });
        edge("then that by 65536 (rounded down), its rest", () -> {
            // The echoer is second whatever he draws, so his price tells his breath.
            SecondSilence x = Due.in("e990,s100;9");
            int[][] seedAndBreath = {{0, 1}, {65535, 1}, {65536, 2}, {8 * 65536 - 1, 8}, {8 * 65536, 9},
                {9 * 65536 - 1, 9}, {9 * 65536, 1}, {Integer.MAX_VALUE, 1 + 32767 % 9}};
            for (int[] row : seedAndBreath) {
                due("price by a draw from " + row[0], x.sales(1, seedAhead(row[0]), 1), 90 - 9 * (row[1] - 1));
            }
        });
        edge("SALES by a SEED, as they would be", () -> {
            SecondSilence x = Due.in(ALL_KINDS);
            x.choose(1, 30);
            long before = x.digest();
            x.sales(60, 7, 1);
            due("digest behind sales", x.digest(), before);
            // 0 of 9 winds is second by 8 to 5 from this seed; touched he stops at 6.
            SecondSilence touched = Due.in("b990,c950;4");
            touched.touch(1, 0, true);
            due("by a touch right ahead", touched.sales(2, 0, 1), 50 + 70);
            touched.touch(1, 0, false);
            due("by no touch any more", touched.sales(2, 0, 1), 50 + 62);
        });
        edge("An IMAGE keeps WINDS, choices, TOUCHES, HEARD", () -> {
            SecondSilence x = Due.in("b500,b500;0");
            x.choose(0, 4);
            x.touch(0, 1, true);
            x.hear(0, 4);
            x.hear(1, 5);
            x.image();
            for (int bidder = 0; bidder < 2; bidder++) {
                x.wind(bidder, 9);
                x.choose(bidder, 7);
                x.touch(bidder, 1 - bidder, bidder == 1);
            }
            x.forget();
            x.hear(1, 40);
            x.restore();
            due("wind of 0", x.about(0, 1), 5);
            due("wind of 1", x.about(1, 1), 5);
            due("choice of 0", x.about(0, 4), 4);
            due("choice of 1", x.about(1, 4), NONE);
            due("who touches 0", x.about(0, 9), 0);
            due("who touches 1", x.about(1, 9), 1);
            due("how much is heard", x.count(4), 2);
            // 5 by the touch, by any wind that lasts as long.
            due("what is heard of 1", x.winds(1), 0b1111110000);
            due("what is heard of all", x.touched(1), -1);
        });
    }

    // ---- refusals

    private static void refusals() {
        edge("of several the first as told by each call", TermsEdgesTest::orderOfRefusals);
        edge("UNKNOWN (a number names nothing)", () -> {
            for (int bidder : new int[] {-1, 5, 31, 32, Integer.MIN_VALUE, Integer.MAX_VALUE}) {
                everyNumberOfABidder(Due.in(ALL_KINDS), bidder);
            }
            everyNumberOfABidder(new SecondSilence(), 0);
            everyNumberOfABidder(Due.in("b100,b200;0"), 2);
        });
        edge("they change nothing", TermsEdgesTest::refusalsChangeNothing);
    }

    private static void everyNumberOfABidder(SecondSilence x, int bidder) {
        DUE.refused(x, "about(" + bidder + ", 0)", () -> x.about(bidder, 0), UNKNOWN);
        DUE.refused(x, "as(" + bidder + ", 0)", () -> x.as(bidder, 0), UNKNOWN);
        DUE.refused(x, "choose(" + bidder + ", 1)", () -> x.choose(bidder, 1), UNKNOWN);
        DUE.refused(x, "wind(" + bidder + ", 1)", () -> x.wind(bidder, 1), UNKNOWN);
        DUE.refused(x, "touch(" + bidder + ", 1)", () -> x.touch(bidder, 1, true), UNKNOWN);
        DUE.refused(x, "touch(1, " + bidder + ")", () -> x.touch(1, bidder, true), UNKNOWN);
        DUE.refused(x, "best(" + bidder + ", 0)", () -> x.best(bidder, 0), UNKNOWN);
        DUE.refused(x, "hear(" + bidder + ", 1)", () -> x.hear(bidder, 1), UNKNOWN);
        DUE.refused(x, "winds(" + bidder + ")", () -> x.winds(bidder), UNKNOWN);
    }

    private static void orderOfRefusals() {
        SecondSilence full = Due.with("b100,b100,b100,b100,b100,b10");
        due("letter, outside and full", full.letter(31), OUTSIDE);
        due("letter, full", full.letter(32), FULL);
        SecondSilence x = Due.in(ALL_KINDS);
        due("about, unknown and outside", x.about(5, 10), UNKNOWN);
        due("as, unknown and outside", x.as(5, 5), UNKNOWN);
        due("choose, unknown and outside", x.choose(5, 0), UNKNOWN);
        due("wind, unknown and outside", x.wind(5, 0), UNKNOWN);
        due("best, unknown and outside", x.best(5, 2), UNKNOWN);
        for (int i = 0; i < 8; i++) {
            x.hear(0, 1);
        }
        due("hear, unknown, outside and full", x.hear(5, 0), UNKNOWN);
        due("hear, unknown and full", x.hear(5, 1), UNKNOWN);
        due("hear, outside and full", x.hear(4, 0), OUTSIDE);
        due("hear, full", x.hear(4, 1), FULL);
        SecondSilence none = new SecondSilence();
        due("saying, outside and no hall", none.saying(41), OUTSIDE);
        due("lot, outside and no hall", none.lot(3), OUTSIDE);
        due("rests, breaths outside and no hall", none.rests(5, 0), OUTSIDE);
        due("rests, what outside and no hall", none.rests(4, 1), OUTSIDE);
        due("touched, outside and no hall", none.touched(2), OUTSIDE);
        due("sales, times outside and no hall", none.sales(61, 0, 0), OUTSIDE);
        due("sales, seed outside and no hall", none.sales(60, -1, 0), OUTSIDE);
        due("sales, what outside and no hall", none.sales(60, 0, 3), OUTSIDE);
        for (int i = 0; i < 20; i++) {
            x.rests(1, 0);
        }
        due("rests, breaths outside and done", x.rests(0, 0), OUTSIDE);
        due("rests, what outside and done", x.rests(1, 15), OUTSIDE);
        due("rests, done", x.rests(1, 14), STATE);
    }

    private static void refusalsChangeNothing() {
        SecondSilence x = Due.in(ALL_KINDS);
        x.touch(0, 1, true);
        x.choose(2, 2);
        x.hear(3, 4);
        x.rests(2, 0);
        x.image();
        long kept = x.digest();
        x.choose(2, 3);
        x.touch(1, 2, true);
        x.wind(3, 7);
        refuseWhatIsOutside(x);
        everyNumberOfABidder(x, 5);
        DUE.refused(x, "touch(1, 1, true)", () -> x.touch(1, 1, true), UNKNOWN);
        DUE.refused(x, "touch(2, 2, false)", () -> x.touch(2, 2, false), UNKNOWN);
        DUE.refused(x, "hall() of no letters", x::hall, STATE);
        x.letter('b');
        DUE.refused(x, "hall() of a letter", x::hall, STATE);
        x.blank();
        x.restore();
        due("digest as the image was kept", x.digest(), kept);

        SecondSilence none = Due.with("b100");
        refuseWhatIsOutside(none);
        everyNumberOfABidder(none, 0);
        DUE.refused(none, "saying(1)", () -> none.saying(1), STATE);
        DUE.refused(none, "lot(0)", () -> none.lot(0), STATE);
        DUE.refused(none, "rests(1, 0)", () -> none.rests(1, 0), STATE);
        DUE.refused(none, "touched(0)", () -> none.touched(0), STATE);
        DUE.refused(none, "sales(1, 0, 0)", () -> none.sales(1, 0, 0), STATE);
        DUE.refused(none, "image()", none::image, STATE);
        DUE.refused(none, "restore()", none::restore, STATE);
        DUE.refused(none, "hall()", none::hall, STATE);
    }

    private static void refuseWhatIsOutside(SecondSilence x) {
        boolean hall = x.count(0) > 0;
        int ofABidder = hall ? OUTSIDE : UNKNOWN;
        for (int far : new int[] {Integer.MIN_VALUE, -2, 127, Integer.MAX_VALUE}) {
            DUE.refused(x, "letter(" + far + ")", () -> x.letter(far), OUTSIDE);
            DUE.refused(x, "about(0, " + far + ")", () -> x.about(0, far), ofABidder);
            DUE.refused(x, "as(0, " + far + ")", () -> x.as(0, far), ofABidder);
            DUE.refused(x, "choose(0, " + far + ")", () -> x.choose(0, far), ofABidder);
            DUE.refused(x, "wind(0, " + far + ")", () -> x.wind(0, far), ofABidder);
            DUE.refused(x, "saying(" + far + ")", () -> x.saying(far), OUTSIDE);
            DUE.refused(x, "lot(" + far + ")", () -> x.lot(far), OUTSIDE);
            DUE.refused(x, "best(0, " + far + ")", () -> x.best(0, far), ofABidder);
            DUE.refused(x, "rests(" + far + ", 0)", () -> x.rests(far, 0), OUTSIDE);
            DUE.refused(x, "rests(1, " + far + ")", () -> x.rests(1, far), OUTSIDE);
            DUE.refused(x, "hear(0, " + far + ")", () -> x.hear(0, far), ofABidder);
            DUE.refused(x, "touched(" + far + ")", () -> x.touched(far), OUTSIDE);
            DUE.refused(x, "sales(" + far + ", 0, 0)", () -> x.sales(far, 0, 0), OUTSIDE);
            DUE.refused(x, "sales(1, 0, " + far + ")", () -> x.sales(1, 0, far), OUTSIDE);
            DUE.refused(x, "count(" + far + ")", () -> x.count(far), OUTSIDE);
        }
        DUE.refused(x, "sales(1, -1, 0)", () -> x.sales(1, -1, 0), OUTSIDE);
    }

    private TermsEdgesTest() {
    }
}
