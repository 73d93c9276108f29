/** Promise by promise: ordinary inputs, the edges that the document names, wrong inputs; worked out by hand. */
public final class PromisesTest {
    private static final int NO = CheeseFirst.NO;
    private static final int LOT_BEHIND_1 = 1103527590;

    private static final String STILL = " whole 0 0 0 cut 0 0 0 sign 0 0 0 0;";
    private static final String SORT0 = "sort 10 20 30 5 whole 5 0 10 cut 10 3 0 sign 0 2 5 10;";
    private static final String SORT1 = "sort 7 9 50 0 whole 1 2 3 cut 4 5 6 sign 10 10 10 10;";
    private static final String HOUSE = "weeks 3;" + SORT0 + SORT1
            + "wheel 0 2;wheel 1 1;open 1;warm 0 2;warm 1 5;price 0 8;price 2 99;";
    private static final String ONE = "weeks 2;" + SORT0 + "wheel 0 2;";

    private final Due due = new Due();

    private void due(String call, long got, long want) {
        due.due(call, got, want);
    }

    private void newObject() {
        CheeseFirst x = new CheeseFirst();
        due("1 sorts", x.count(0), 0);
        due("1 wheels", x.count(1), 0);
        due("1 W", x.count(2), 6);
        due("1 M", x.count(3), 3);
        due("1 text", x.count(4), 0);
        due("1 thought", x.count(5), 0);
        for (int what = 0; what <= 6; what++) {
            due("1 now " + what, x.now(what), 0);
        }
        for (int t = 0; t < 8; t++) {
            due("1 warmth", x.week(t, 0), 0);
            due("1 price", x.week(t, 1), 0);
        }
        due("1 trace", x.trace(), 0);
        due("1 lot", x.lot(5), 1);
        due("1 image", x.back(0), -2);
        due("1 value", x.value(4), 0);
        due("1 brings", x.brings(6), 0);
        due("1 play", x.play(4), 0);
        due("1 over", x.now(5), 1);
    }

    private void typing() {
        CheeseFirst x = new CheeseFirst();
        due("2 n 0", x.type(65, 0), -1);
        due("2 n 9", x.type(65, 9), -1);
        due("2 n below 0", x.type(65, -1), -1);
        due("2 n least", x.type(65, Integer.MIN_VALUE), -1);
        due("2 lowest bytes", x.type(0x77FF6F70656E2033L, 6), 6);
        due("2 one byte", x.type(0xFFFFFFFFFFFFFF3BL, 1), 7);
        due("2 read", x.cellar(), 1);
        due("2 it was open 3", x.count(3), 3);
        for (int i = 1; i <= 50; i++) {
            due("2 eight", x.type(-1L, 8), 8 * i);
        }
        due("2 full", x.type(1, 1), -3);
        due("2 bad ahead of full", x.type(1, 9), -1);
        due("2 still 400", x.count(4), 400);
        x.clear();
        for (int i = 0; i < 49; i++) {
            x.type(0, 8);
        }
        due("2 up to 399", x.type(0, 7), 399);
        due("2 one too many", x.type(0, 2), -3);
        due("2 unchanged", x.count(4), 399);
        due("2 the last", x.type(0, 1), 400);
    }

    private void clearing() {
        CheeseFirst x = Due.of(HOUSE);
        due("3 nothing", x.clear(), 0);
        x.type(59, 3);
        due("3 three", x.clear(), 3);
        due("3 none then", x.count(4), 0);
        due("3 the cellar stays", x.count(1), 2);
    }

    private void fault(String text, int place) {
        CheeseFirst x = Due.of(HOUSE);
        due("4 fault of '" + text + "'", Due.read(x, text), -10 - place);
        due("4 text stays", x.count(4), text.length());
        due("4 wheels stay", x.count(1), 2);
        due("4 weeks stay", x.count(2), 3);
        due("4 M stays", x.count(3), 1);
        due("4 price stays", x.week(2, 1), 99);
        due("4 sort stays", x.sort(0, 2), 30);
    }

    private void faults() {
        fault("weeks 3", 7);
        fault("weeks 3  ", 9);
        fault("weeks", 5);
        fault("weeks 0;", 6);
        fault("weeks 9;", 6);
        fault("weeks ;", 6);
        fault("weeks 3 4;", 8);
        fault("weeks 3;weeks 3;", 8);
        fault("open 1; weeks 3;", 8);
        fault("  Weeks 3;", 2);
        fault("week 3;", 0);
        fault("weekss 3;", 0);
        fault(";", 0);
        fault("open 1;;", 7);
        fault("3;", 0);
        fault("open 0;", 5);
        fault("open 4;", 5);
        fault("open open;", 5);
        fault("open 100;", 5);
        fault("open 01;", 5);
        fault("open 00;", 5);
        fault("open 99999999999999999999;", 5);
        fault("open -1;", 5);
        fault("open 1,", 6);
        fault("open 1\n;", 6);
        fault("open 1;\u00c8", 7);
        fault("cut 1;", 0);
        fault("sign", 0);
        fault("whole 1;", 0);
        fault("warm 8 0;", 5);
        fault("warm 0 6;", 7);
        fault("warm 0;", 6);
        fault("price 8 1;", 6);
        fault("price 7 100;", 8);
        fault("price 7 99", 10);
    }

    private void moreFaults() {
        int n = SORT0.length();
        fault("wheel 0 1;", 6);
        fault(SORT0 + "wheel 1 1;", n + 6);
        fault(SORT0 + "wheel 0 0;", n + 8);
        fault(SORT0 + "wheel 0 4;", n + 8);
        fault(SORT0 + "wheel 0;", n + 7);
        fault(SORT0 + "wheel 0 1;wheel 0 1;wheel 0 1;wheel 0 1;", n + 30);
        fault("sort 1 2 3;", 10);
        fault("sort 1 2 3 4 5", 13);
        fault("sort 1 2 3 whole", 11);
        fault("sort 1 2 3 4 cut", 13);
        fault("sort 1 2 3 4 whole 11", 19);
        fault("sort 1 2 3 4 whole 1 2 10 whole", 26);
        fault("sort 1 2 3 4 whole 1 2 3 cut 1 2 11", 33);
        fault("sort 1 2 3 4 whole 1 2 3 cut 1 2 3 sign 1 2 3;", 45);
        fault("sort 1 2 3 4 whole 1 2 3 cut 1 2 3 sign 1 2 3 11;", 46);
        fault("sort 1 2 3 4 whole 1 2 3 cut 1 2 3 sign 1 2 3 4 5;", 48);
        fault("sort 1 2 3 4 whole 1 2 3 cut 1 2 3 sign 1 2 3 4 ", 48);
        String four = "sort 1 2 3 4 whole 1 2 3 cut 1 2 3 sign 1 2 3 4;";
        fault(four + four + four + four + four, 4 * four.length());
        CheeseFirst x = new CheeseFirst();
        due("4 four sorts", Due.read(x, four + four + four + four), 4);
        due("4 four sorts", x.count(0), 4);
    }

    private void reading() {
        CheeseFirst x = new CheeseFirst();
        due("4 items", Due.read(x, HOUSE), 10);
        due("4 text is empty", x.count(4), 0);
        due("4 empty text", x.cellar(), 0);
        due("4 no wheels then", x.count(1), 0);
        due("4 blanks alone", Due.read(x, "   "), 0);
        due("4 blanks", Due.read(x, "  weeks  8 ; open 2;open  1  ;  "), 3);
        due("4 later counts", x.count(3), 1);
        due("4 W", x.count(2), 8);
        due("4 told again", Due.read(x, "warm 3 5;price 3 7;warm 3 0;price 3 8;"), 4);
        due("4 W at first", x.count(2), 6);
        due("4 M at first", x.count(3), 3);
        due("4 warm again", x.week(3, 0), 0);
        due("4 price again", x.week(3, 1), 8);
        due("4 no blanks needed", Due.read(x, "weeks4;open2;"), 2);
    }

    private void readAnew() {
        CheeseFirst x = Due.of(HOUSE);
        x.eat(0);
        x.stop(0);
        x.next();
        x.eat(0);
        x.keep(0);
        x.lot(77);
        x.thought(1);
        x.aged();
        x.note(0, 0);
        due("4 anew", Due.read(x, HOUSE), 10);
        due("4 week", x.now(0), 0);
        due("4 act", x.now(1), 0);
        due("4 good", x.now(2), 0);
        due("4 portions", x.now(4), 3);
        due("4 step", x.wheel(0, 2), 0);
        due("4 stopped", x.wheel(0, 5), 0);
        due("4 images are gone", x.back(0), -2);
        due("4 thought", x.count(5), 0);
        due("4 thought anew", x.thinks(0, 1), 1);
        due("4 the lot stays", x.lot(1), 77);
        due("4 the trace stays", x.trace(), 1);
    }

    private void sorts() {
        CheeseFirst x = Due.of(HOUSE);
        int[] first = {10, 20, 30, 5, 5, 0, 10, 10, 3, 0, 0, 2, 5, 10};
        for (int what = 0; what < 14; what++) {
            due("5 sort 0 " + what, x.sort(0, what), first[what]);
        }
        due("5 sort 1", x.sort(1, 6), 3);
        due("5 no sort", x.sort(2, 0), -1);
        due("5 below", x.sort(-1, 0), -1);
        due("5 what 14", x.sort(0, 14), -1);
        due("5 what below", x.sort(0, -1), -1);
        due("5 none", new CheeseFirst().sort(0, 0), -1);
    }

    private void wheels() {
        CheeseFirst x = Due.of(HOUSE);
        int[] first = {0, 2, 0, 2, 0, 0, 10, 7};
        for (int what = 0; what < 8; what++) {
            due("6 wheel 0 " + what, x.wheel(0, what), first[what]);
        }
        due("6 of sort 1", x.wheel(1, 0), 1);
        x.place(0, 1, 1);
        int[] then = {0, 2, 1, 1, 1, 0, 20, 5};
        for (int what = 0; what < 8; what++) {
            due("6 then " + what, x.wheel(0, what), then[what]);
        }
        x.place(0, 1, 2);
        due("6 what is 0 stays 0", x.wheel(0, 7), 0);
        x.place(0, 2, 2);
        due("6 10 at most", x.wheel(0, 7), 10);
        x.place(0, 3, 2);
        due("6 step 3", x.wheel(0, 7), 0);
        x.place(0, 0, 0);
        due("6 no portions", x.wheel(0, 7), 0);
        due("6 none is not open", x.wheel(0, 4), 0);
        x.place(0, 0, 2);
        x.stop(0);
        due("6 stopped", x.wheel(0, 5), 1);
        due("6 stopped stays", x.wheel(0, 7), 0);
        due("6 no wheel", x.wheel(2, 0), -1);
        due("6 below", x.wheel(-1, 0), -1);
        due("6 what 8", x.wheel(0, 8), -1);
        due("6 what below", x.wheel(0, -1), -1);
    }

    private void weeks() {
        CheeseFirst x = Due.of(HOUSE);
        due("7 warmth", x.week(1, 0), 5);
        due("7 price", x.week(2, 1), 99);
        due("7 beyond W", x.week(7, 0), 0);
        due("7 week 8", x.week(8, 0), -1);
        due("7 below", x.week(-1, 1), -1);
        due("7 what 2", x.week(0, 2), -1);
        due("7 what below", x.week(0, -1), -1);
    }

    private void placing() {
        CheeseFirst x = Due.of(HOUSE);
        due("8 as it was", x.place(0, 3, 1), 2);
        due("8 as it was then", x.place(0, 0, 0), 31);
        due("8 nothing had", x.now(2), 0);
        due("8 no act", x.now(1), 0);
        due("8 step 4", x.place(0, 4, 1), -1);
        due("8 step below", x.place(0, -1, 1), -1);
        due("8 portions", x.place(0, 1, 3), -1);
        due("8 portions of N 1", x.place(1, 1, 2), -1);
        due("8 portions below", x.place(0, 1, -1), -1);
        due("8 no wheel", x.place(2, 0, 0), -1);
        due("8 unchanged", x.place(0, 1, 1), 0);
    }

    private void eating() {
        CheeseFirst x = Due.of(HOUSE);
        due("9 no wheel", x.eat(2), -1);
        due("9 below", x.eat(-1), -1);
        due("9 eaten", x.eat(0), 10);
        due("9 portions", x.wheel(0, 3), 1);
        due("9 good", x.now(2), 10);
        due("9 act is done", x.eat(0), -2);
        due("9 bad ahead of state", x.eat(7), -1);
        due("9 cut goes on for sure", x.next(), 1);
        due("9 one is open, M is 1", x.eat(1), -2);
        due("9 the open one", x.eat(0), 20);
        due("9 both had", x.now(2), 30);
        x.next();
        due("9 none left", x.eat(0), -2);
        due("9 none is open now", x.eat(1), x.wheel(1, 6));
        x.next();
        x.place(0, 0, 2);
        due("9 over", x.eat(0), -2);
    }

    private void openAtOnce() {
        CheeseFirst x = Due.of("open 2;sort 1 1 1 1" + STILL + "wheel 0 3;wheel 0 3;wheel 0 3;");
        x.eat(0);
        x.next();
        due("9 the second", x.eat(1), 1);
        x.next();
        due("9 the third", x.eat(2), -2);
        due("9 open", x.now(6), 2);
        x.place(0, 0, 0);
        due("9 an empty one is not open", x.eat(2), 1);
        x = Due.of("open 1;sort 1 1 1 1" + STILL + "wheel 0 3;wheel 0 3;wheel 0 1;");
        x.place(0, 0, 1);
        x.place(1, 0, 1);
        due("9 more than M", x.eat(2), -2);
    }

    private void selling() {
        CheeseFirst x = Due.of(HOUSE);
        due("10 no wheel", x.sell(2), -1);
        due("10 below", x.sell(-1), -1);
        x.place(0, 2, 2);
        due("10 step 2", x.sell(0), -2);
        x.place(0, 1, 1);
        due("10 not whole", x.sell(0), -2);
        x.place(0, 1, 0);
        due("10 empty", x.sell(0), -2);
        x.place(0, 1, 2);
        due("10 sold", x.sell(0), 16);
        due("10 none then", x.wheel(0, 3), 0);
        due("10 step stays", x.wheel(0, 2), 1);
        due("10 coins", x.now(3), 16);
        due("10 no good", x.now(2), 0);
        due("10 act is done", x.sell(1), -2);
        due("10 for eating too", x.eat(1), -2);
        x.next();
        x.place(1, 0, 1);
        due("10 price 0", x.sell(1), 0);
        due("10 an act all the same", x.now(1), 1);
        x.next();
        x.next();
        x.place(0, 0, 2);
        due("10 over", x.sell(0), -2);
    }

    private void stopping() {
        CheeseFirst x = Due.of(HOUSE);
        due("11 first", x.stop(0), 1);
        due("11 again", x.stop(0), 0);
        due("11 no act", x.now(1), 0);
        due("11 no wheel", x.stop(2), -1);
        due("11 below", x.stop(-1), -1);
        x.place(0, 2, 2);
        x.eat(0);
        x.next();
        due("11 never goes on", x.wheel(0, 2), 2);
        x.next();
        x.next();
        due("11 any time", x.stop(1), 1);
    }

    private void goingOn() {
        CheeseFirst x = Due.of("weeks 2;sort 1 2 3 4 whole 9 8 0 cut 1 1 1 sign 0 0 0 0;wheel 0 1;wheel 0 1;wheel 0 1;");
        x.place(1, 1, 1);
        x.place(2, 3, 1);
        due("12 lots 8 and 6: below 9, below 8", x.next(), 2);
        due("12 the first went", x.wheel(0, 2), 1);
        int second = LOT_BEHIND_1 * 1103515245 + 12345;
        due("12 two lots", x.lot(1), second);
        due("12 the second went", x.wheel(1, 2), 2);
        due("12 step 3 stays", x.wheel(2, 2), 3);
        due("12 week", x.now(0), 1);
        x.eat(2);
        x.place(1, 2, 1);
        x.stop(0);
        due("12 none", x.next(), 0);
        due("12 no lot for what has none or is stopped, one for tenths 0", x.lot(1), LOT_BEHIND_1);
        due("12 act is not done any more", x.now(1), 0);
        due("12 over", x.next(), -2);
        due("12 no lot then", x.lot(1), 1);
        CheeseFirst y = Due.of("sort 1 2 3 4 whole 10 8 0 cut 1 1 1 sign 0 0 0 0;wheel 0 1;");
        y.lot(-1);
        due("12 upper bits of a lot below 0", y.next(), 1);
        due("12 below 0", y.lot(0), -1103515245 + 12345);
        CheeseFirst warm = Due.of("sort 1 2 3 4 whole 8 8 0 cut 1 1 1 sign 0 0 0 0;wheel 0 1;warm 0 1;");
        due("12 warmth: 8 is below 9", warm.next(), 1);
        CheeseFirst cold = Due.of("sort 1 2 3 4 whole 8 8 0 cut 1 1 1 sign 0 0 0 0;wheel 0 1;warm 1 1;");
        due("12 none: 8 is not below 8", cold.next(), 0);
    }

    private void nowAndLot() {
        CheeseFirst x = Due.of(HOUSE);
        x.eat(0);
        int[] now = {0, 1, 10, 0, 2, 0, 1};
        for (int what = 0; what < 7; what++) {
            due("13 now " + what, x.now(what), now[what]);
        }
        due("13 what 7", x.now(7), -1);
        due("13 below", x.now(-1), -1);
        x.next();
        x.next();
        due("13 not over", x.now(5), 0);
        x.next();
        due("13 over", x.now(5), 1);
        due("13 week W", x.now(0), 3);
        CheeseFirst y = new CheeseFirst();
        due("14 lot", y.lot(Integer.MIN_VALUE), 1);
        due("14 lot", y.lot(0), Integer.MIN_VALUE);
    }

    private void values() {
        CheeseFirst x = Due.of(ONE);
        for (int rule = 0; rule <= 4; rule++) {
            due("15 value " + rule, x.value(rule), 30000);
            due("16 left " + rule, x.left(rule), 0);
            due("17 choice " + rule, x.choice(rule), 0);
        }
        due("15 rule 5", x.value(5), -1);
        due("15 below", x.value(-1), -1);
        due("16 rule 5", x.left(5), -1);
        due("16 below", x.left(-1), -1);
        due("17 rule 5", x.choice(5), -1);
        due("17 below", x.choice(-1), -1);
        x.eat(0);
        due("15 the act is done", x.value(0), 20000);
        due("15 the act is done", x.value(4), 20000);
        due("17 the act is done", x.choice(4), 6);
        x.next();
        x.next();
        due("15 over", x.value(4), 0);
        due("16 over", x.left(4), 1000);
        due("16 over", x.left(0), 1000);
        due("17 over", x.choice(0), 6);
    }

    private void rounding() {
        CheeseFirst x = Due.of("weeks 7;sort 0 0 0 99 whole 1 1 1 cut 0 0 0 sign 0 0 0 0;wheel 0 1;");
        x.place(0, 2, 1);
        due("15 rounded down week by week", x.value(4), 46386);
        due("20 rounded down once", x.blind(-1), 46387);
        due("21 less", x.know(), -1);
        for (int k = 0; k < 6; k++) {
            due("20 nothing first", x.blind(k), 6);
        }
        due("20 the last week", x.blind(6), 0);
        due("17 it waits", x.choice(4), 6);
        due("22 stopped", x.spare(0), -46386);
    }

    private void rules() {
        String still = "sort 5 5 5 5" + STILL + "sort 9 8 7 6" + STILL;
        CheeseFirst x = Due.of("weeks 1;" + still + "wheel 0 1;wheel 1 1;wheel 1 1;price 0 9;");
        x.place(1, 2, 1);
        x.place(2, 2, 1);
        int[] codes = {0, 1, 0, 1, 3};
        int[] values = {5000, 7000, 5000, 7000, 9000};
        for (int rule = 0; rule <= 4; rule++) {
            due("17 choice " + rule, x.choice(rule), codes[rule]);
            due("15 value " + rule, x.value(rule), values[rule]);
            due("16 left " + rule, x.left(rule), 2000);
        }
        x.place(1, 3, 1);
        int[] then = {0, 1, 0, 2, 3};
        for (int rule = 0; rule <= 4; rule++) {
            due("17 then " + rule, x.choice(rule), then[rule]);
        }
        x.place(0, 0, 0);
        x.place(1, 0, 0);
        x.place(2, 0, 0);
        for (int rule = 0; rule <= 4; rule++) {
            due("17 none " + rule, x.choice(rule), 6);
            due("16 none " + rule, x.left(rule), 0);
        }
        CheeseFirst tie = Due.of("weeks 1;" + still + "wheel 0 1;wheel 0 1;price 0 5;");
        due("17 the first code of several", tie.choice(4), 0);
        tie.place(0, 0, 0);
        due("17 eat ahead of sell", tie.choice(4), 1);
    }

    private void openRules() {
        CheeseFirst x = Due.of("weeks 2;open 1;sort 5 5 5 5" + STILL + "sort 9 8 7 6" + STILL + "wheel 0 2;wheel 1 2;");
        x.place(0, 0, 1);
        due("17 a whole one may not be eaten", x.choice(3), 0);
        due("15 one, then the other", x.value(3), 14000);
        due("16 left", x.left(3), 1000);
        due("20 the same", x.blind(-1), 14000);
        due("20 row", x.blind(0), 0);
        due("20 row", x.blind(1), 1);
        due("18 may not be", x.brings(1), NO);
    }

    private void bringing() {
        CheeseFirst x = Due.of(ONE + "price 0 3;");
        due("18 eat", x.brings(0), 30000);
        due("18 no such wheel", x.brings(1), NO);
        due("18 sell", x.brings(3), 6000);
        due("18 no such wheel to sell", x.brings(5), NO);
        due("18 nothing", x.brings(6), 15000);
        due("18 code 7", x.brings(7), NO);
        due("18 below", x.brings(-1), NO);
        x.place(0, 2, 2);
        due("18 may not be sold", x.brings(3), NO);
        x.eat(0);
        due("18 the act is done", x.brings(0), NO);
        due("18 nothing, then BEST", x.brings(6), 30000);
        x.next();
        x.next();
        due("18 over", x.brings(0), NO);
        due("18 over", x.brings(6), 0);
    }

    private void playing() {
        CheeseFirst x = Due.of("weeks 4;sort 10 20 30 40 whole 10 10 10 cut 10 10 10 sign 0 0 0 0;wheel 0 3;wheel 0 1;price 1 90;");
        x.keep(0);
        due("19 rule 5", x.play(5), -1);
        due("19 below", x.play(-1), -1);
        due("19 nothing changed", x.now(0), 0);
        due("19 old", x.play(0), 100);
        due("19 over", x.now(5), 1);
        due("19 good", x.now(2), 100);
        due("19 again", x.play(0), 0);
        x.back(0);
        due("15 best", x.value(4), 310000);
        due("19 best", x.play(4), 310);
        due("19 coins", x.now(3), 270);
        due("19 good", x.now(2), 40);
        x.back(0);
        x.eat(0);
        due("19 the act is done", x.play(0), 90);
        due("19 with what was had", x.now(2), 100);
        CheeseFirst eight = Due.of("weeks 8;sort 1 1 1 1" + STILL + "wheel 0 3;wheel 0 3;wheel 0 3;");
        due("19 eight weeks", eight.play(4), 8);
        due("19 to the end", eight.now(0), 8);
    }

    private void blindRows() {
        CheeseFirst x = Due.of(ONE);
        due("20 value", x.blind(-1), 30000);
        due("20 length", x.blind(-2), 2);
        due("20 first", x.blind(0), 0);
        due("20 second", x.blind(1), 0);
        due("20 no third", x.blind(2), NO);
        due("20 below", x.blind(-3), NO);
        due("20 least", x.blind(Integer.MIN_VALUE), NO);
        due("20 most", x.blind(Integer.MAX_VALUE), NO);
        due("21 know", x.know(), 0);
        x.eat(0);
        due("20 one week is left", x.blind(-2), 1);
        due("20 its value", x.blind(-1), 20000);
        x.next();
        x.eat(0);
        due("20 none is left", x.blind(-2), 0);
        due("20 nothing", x.blind(-1), 0);
        due("20 no code", x.blind(0), NO);
        CheeseFirst waits = Due.of("weeks 2;sort 10 30 0 0 whole 5 0 0 cut 0 0 0 sign 0 0 0 0;sort 12 12 12 12" + STILL
                + "wheel 0 1;wheel 1 1;");
        due("20 12, then 20", waits.blind(-1), 32000);
        due("20 row", waits.blind(0), 1);
        due("20 row", waits.blind(1), 0);
        CheeseFirst nought = Due.of("weeks 2;sort 0 0 0 0" + STILL + "wheel 0 1;");
        due("20 the first by codes", nought.blind(0), 0);
        due("20 then nothing", nought.blind(1), 6);
    }

    private void knowing() {
        // to wait is right if it went on in the first week, not if it did not
        CheeseFirst x = Due.of("weeks 3;sort 10 30 0 0 whole 5 10 0 cut 0 0 0 sign 0 0 0 0;wheel 0 1;");
        due("15 best: 30 in half, else 20 in the mean", x.value(4), 25000);
        due("20 blind", x.blind(-1), 20000);
        due("20 row", x.blind(0), 6);
        due("20 row", x.blind(1), 0);
        due("20 row", x.blind(2), 6);
        due("21 know", x.know(), 5000);
        due("22 spare", x.spare(0), -15000);
        due("22 no wheel", x.spare(1), NO);
        due("22 below", x.spare(-1), NO);
        x.stop(0);
        due("22 stopped already", x.spare(0), 0);
        due("15 stopped", x.value(4), 10000);
        due("20 stopped", x.blind(-1), 10000);
        CheeseFirst worse = Due.of("weeks 2;sort 30 10 0 0 whole 5 10 0 cut 5 0 0 sign 0 0 0 0;wheel 0 2;");
        due("22 worth to stop", worse.spare(0), 10000);
    }

    private void standing() {
        CheeseFirst x = Due.of("weeks 1;sort 1 2 3 4 whole 5 2 1 cut 10 10 5 sign 0 0 0 0;wheel 0 2;warm 0 1;warm 7 5;");
        due("23 now", x.stands(0, 0, 0, 0), 1);
        due("23 now", x.stands(0, 0, 0, 1), 1);
        due("23 none is 0 of 1", x.stands(0, 0, 3, 0), 0);
        due("23 none is 0 of 1", x.stands(0, 0, 3, 1), 1);
        due("23 with warmth", x.stands(0, 1, 1, 0), 3);
        due("23 with warmth", x.stands(0, 1, 1, 1), 5);
        due("23 beyond W: 6/10 8/10 + 4/10 5/10", x.stands(0, 2, 1, 0), 17);
        due("23 beyond W", x.stands(0, 2, 1, 1), 25);
        x.place(0, 0, 1);
        due("23 cut", x.stands(0, 2, 2, 0), 1);
        due("23 cut", x.stands(0, 3, 3, 1), 2);
        x.place(0, 0, 0);
        due("23 none left", x.stands(0, 8, 0, 0), 1);
        x.place(0, 0, 2);
        x.stop(0);
        due("23 stopped", x.stands(0, 8, 0, 0), 1);
        due("23 n 9", x.stands(0, 9, 0, 0), -1);
        due("23 n below", x.stands(0, -1, 0, 0), -1);
        due("23 step 4", x.stands(0, 0, 4, 0), -1);
        due("23 step below", x.stands(0, 0, -1, 0), -1);
        due("23 what 2", x.stands(0, 0, 0, 2), -1);
        due("23 what below", x.stands(0, 0, 0, -1), -1);
        due("23 no wheel", x.stands(1, 0, 0, 0), -1);
        CheeseFirst late = Due.of("weeks 8;sort 1 2 3 4 whole 5 5 5 cut 5 5 5 sign 0 0 0 0;wheel 0 1;warm 7 5;");
        for (int i = 0; i < 7; i++) {
            late.next();
        }
        late.place(0, 0, 1);
        due("23 week 7 is warm", late.stands(0, 1, 1, 1), 1);
        due("23 beyond week 7 is not", late.stands(0, 2, 1, 1), 2);
    }

    private void thoughts() {
        CheeseFirst x = Due.of(HOUSE);
        due("27 at first", x.thinks(0, 0), 1);
        due("27 mean", x.thinks(4, 0), 10);
        due("26 all would be 0", x.shown(1), -2);
        due("26 nothing changed", x.thinks(0, 0), 1);
        due("25 aged, no warmth", x.aged(), 1);
        due("27 half", x.thinks(1, 1), 2);
        due("27 mean 15", x.thinks(4, 0), 15);
        due("26 shown", x.shown(1), 1);
        due("27 surely step 1", x.thinks(1, 0), 1);
        due("27 surely step 1", x.thinks(1, 1), 1);
        due("27 mean 20", x.thinks(4, 0), 20);
        due("24 of sort 1", x.thought(1), 1);
        due("24 sort", x.count(5), 1);
        due("24 anew", x.thinks(0, 1), 1);
        due("26 not shown: all 0", x.shown(0), -2);
        due("26 shown 2", x.shown(2), -1);
        due("26 shown below", x.shown(-1), -1);
        x.aged();
        due("25 nine tenths", x.thinks(0, 0), 9);
        due("27 in least terms: (9*7+9)/10", x.thinks(4, 0), 36);
        due("27 in least terms", x.thinks(4, 1), 5);
        due("24 again", x.thought(1), 1);
        due("24 again anew", x.thinks(0, 0), 1);
        due("24 no sort", x.thought(2), -1);
        due("24 below", x.thought(-1), -1);
        due("24 unchanged", x.count(5), 1);
        due("27 step 5", x.thinks(5, 0), -1);
        due("27 step below", x.thinks(-1, 0), -1);
        due("27 what 2", x.thinks(0, 2), -1);
        due("27 what below", x.thinks(0, -1), -1);
    }

    private void thoughtsWithoutSort() {
        CheeseFirst x = new CheeseFirst();
        due("24 none", x.thought(0), -1);
        due("25 none", x.aged(), -2);
        due("26 none", x.shown(0), -2);
        due("26 bad ahead of state", x.shown(2), -1);
        due("27 none", x.thinks(0, 0), -1);
        due("27 none", x.thinks(4, 1), -1);
    }

    private void fullThought() {
        CheeseFirst x = Due.of("sort 1 0 0 0 whole 1 0 0 cut 0 0 0 sign 9 9 0 0;");
        for (int i = 0; i < 12; i++) {
            due("25 aged " + i, x.aged(), 1);
        }
        due("25 9 to the 13th is too much", x.aged(), -3);
        due("25 nothing changed", x.thinks(0, 0), 282429536481L);
        due("25 nothing changed", x.thinks(0, 1), 1000000000000L);
        due("26 made least again", x.shown(1), 1);
        due("26 the same", x.thinks(0, 0), 282429536481L);
        CheeseFirst y = Due.of("sort 1 0 0 0 whole 1 0 0 cut 0 0 0 sign 10 7 0 0;");
        for (int i = 0; i < 12; i++) {
            y.aged();
        }
        due("26 full", y.shown(1), -3);
        due("26 nothing changed", y.thinks(0, 0), 282429536481L);
    }

    private void greatestWeight() {
        CheeseFirst edge = Due.of("sort 1 0 0 0 whole 5 0 0 cut 0 0 0 sign 10 1 0 0;");
        edge.aged();
        for (int i = 0; i < 12; i++) {
            due("26 shown " + i, edge.shown(1), 1);
        }
        due("26 1000000000000 is not above it", edge.thinks(0, 0), 1000000000000L);
        due("26 1000000000000 and 1", edge.thinks(0, 1), 1000000000001L);
        due("26 ten times that is", edge.shown(1), -3);
        String[] signs = {"10 1 1 1", "1 10 1 1", "1 1 10 1", "1 1 1 10"};
        int[] shares = {1, 3, 3, 1};
        for (int step = 0; step < 4; step++) {
            CheeseFirst x = Due.of("sort 1 0 0 0 whole 5 5 5 cut 0 0 0 sign " + signs[step] + ";");
            x.aged();
            x.aged();
            x.aged();
            int often = shares[step] == 1 ? 12 : 11;
            for (int i = 0; i < often; i++) {
                due("26 shown " + i, x.shown(1), 1);
            }
            due("26 full by step " + step, x.shown(1), -3);
        }
    }

    private void longTexts() {
        fault(";".repeat(400), 0);
        fault("open 1;" + ";".repeat(393), 7);
        fault(" ".repeat(399) + "x", 399);
        fault(" ".repeat(396) + "open", 400);
        fault(" ".repeat(394) + "open 1", 400);
        CheeseFirst x = new CheeseFirst();
        due("4 400 bytes", Due.read(x, "open2;".repeat(66) + "    "), 66);
        due("4 400 blanks", Due.read(x, " ".repeat(400)), 0);
    }

    /** What was worked out before must not be told again once something is another. */
    private void askedAgain() {
        CheeseFirst x = Due.of(ONE);
        due("15 at first", x.value(4), 30000);
        due("20 at first", x.blind(-1), 30000);
        x.place(0, 2, 2);
        due("15 placed", x.value(4), 60000);
        due("20 placed", x.blind(-1), 60000);
        x.place(0, 0, 2);
        x.stop(0);
        due("15 stopped", x.value(4), 20000);
        due("15 stopped, old", x.value(0), 20000);
        due("20 stopped", x.blind(-1), 20000);
        x.keep(0);
        x.eat(0);
        due("15 eaten", x.value(4), 10000);
        due("20 eaten", x.blind(-1), 10000);
        x.next();
        due("20 the next week", x.blind(-1), 10000);
        due("20 its length", x.blind(-2), 1);
        x.back(0);
        due("15 back", x.value(4), 20000);
        due("20 back", x.blind(-2), 2);
        Due.read(x, "weeks 2;sort 1 2 3 4" + STILL + "wheel 0 2;");
        due("15 another cellar", x.value(4), 2000);
        due("15 another cellar, old", x.value(0), 2000);
        due("20 another cellar", x.blind(-1), 2000);
        Due.read(x, "weeks 2;sort 1 2 3 4" + STILL + "wheel 0 2;wheel 0 2;wheel 0 2;price 0 7;");
        due("15 more wheels", x.value(4), 15000);
        due("16 more wheels", x.left(4), 3000);
        due("16 more wheels, old", x.left(0), 4000);
        Due.read(x, "weeks 8;sort 1 2 3 4" + STILL + "wheel 0 3;wheel 0 3;wheel 0 3;");
        due("15 more weeks", x.value(4), 8000);
        due("16 more weeks", x.left(4), 1000);
        due("20 more weeks", x.blind(-1), 8000);
        Due.read(x, "weeks 8;sort 1 2 3 4" + STILL + "wheel 0 3;");
        due("15 fewer", x.value(4), 3000);
        due("16 fewer", x.left(3), 0);
    }

    private void notes() {
        CheeseFirst x = Due.of(HOUSE + "wheel 0 3;");
        x.place(2, 1, 2);
        int[] notes = {2, 3, 40, 42, 0, 9};
        long[] traces = {1, 12, 113, 1214, 11215, 111226};
        for (int kind = 0; kind <= 5; kind++) {
            due("28 note " + kind, x.note(kind, 2), notes[kind]);
            due("32 trace " + kind, x.trace(), traces[kind]);
        }
        x.place(2, 1, 0);
        due("28 below 0", x.note(4, 2), -2);
        due("32 trace", x.trace(), 121227);
        due("28 kind 6", x.note(6, 0), NO);
        due("28 below", x.note(-1, 0), NO);
        due("28 no wheel", x.note(0, 3), NO);
        due("28 wheel below", x.note(0, -1), NO);
        due("32 no trace of what is refused", x.trace(), 121227);
    }

    private void images() {
        CheeseFirst x = Due.of(HOUSE);
        due("30 none kept", x.back(1), -2);
        due("29 kept", x.keep(0), 0);
        due("30 the other is not", x.back(1), -2);
        x.next();
        x.place(0, 1, 2);
        x.eat(0);
        x.stop(1);
        x.lot(99);
        due("29 the week", x.keep(1), 1);
        due("29 image 2", x.keep(2), -1);
        due("29 below", x.keep(-1), -1);
        due("30 image 2", x.back(2), -1);
        due("30 below", x.back(-1), -1);
        x.note(0, 0);
        x.thought(1);
        due("30 back", x.back(0), 0);
        due("30 act", x.now(1), 0);
        due("30 portions", x.wheel(0, 3), 2);
        due("30 step", x.wheel(0, 2), 0);
        due("30 stopped", x.wheel(1, 5), 0);
        due("30 good", x.now(2), 0);
        due("30 lot", x.lot(5), 1);
        due("30 not the trace", x.trace(), 1);
        due("30 not the thought", x.count(5), 1);
        due("30 the other", x.back(1), 1);
        due("30 act", x.now(1), 1);
        due("30 portions", x.wheel(0, 3), 1);
        due("30 step", x.wheel(0, 2), 1);
        due("30 stopped", x.wheel(1, 5), 1);
        due("30 good", x.now(2), 20);
        due("30 lot", x.lot(5), 99);
        due("30 as often as one likes", x.back(0), 0);
        due("30 lot", x.lot(5), 1);
        x.sell(0);
        x.keep(0);
        x.back(1);
        x.back(0);
        due("29 kept anew", x.now(3), 16);
    }

    private void counts() {
        CheeseFirst x = Due.of(HOUSE);
        x.type(1, 3);
        int[] counts = {2, 2, 3, 1, 3, 0};
        for (int what = 0; what < 6; what++) {
            due("31 count " + what, x.count(what), counts[what]);
        }
        due("31 what 6", x.count(6), -1);
        due("31 below", x.count(-1), -1);
    }

    public static void main(String[] args) {
        PromisesTest t = new PromisesTest();
        t.newObject();
        t.typing();
        t.clearing();
        t.faults();
        t.moreFaults();
        t.reading();
        t.readAnew();
        t.sorts();
        t.wheels();
        t.weeks();
        t.placing();
        t.eating();
        t.openAtOnce();
        t.selling();
        t.stopping();
        t.goingOn();
        t.nowAndLot();
        t.values();
        t.rounding();
        t.rules();
        t.openRules();
        t.bringing();
        t.playing();
        t.blindRows();
        t.knowing();
        t.standing();
        t.thoughts();
        t.thoughtsWithoutSort();
        t.fullThought();
        t.greatestWeight();
        t.longTexts();
        t.askedAgain();
        t.notes();
        t.images();
        t.counts();
        t.due.end("PromisesTest");
    }
}
