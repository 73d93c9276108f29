/** Sentences of '3 From NOW on' that name an edge; promises 15 to 22. */
final class ValueEdges {
    private static final int NO = CheeseFirst.NO;
    private static final int MOST = Integer.MAX_VALUE;
    private static final int LEAST = Integer.MIN_VALUE;
    private static final int[] NO_RULES = {-1, 5, 6, LEAST, MOST};
    private static final String STILL = " whole 0 0 0 cut 0 0 0 sign 0 0 0 0;";
    private static final String SURE = " whole 10 10 10 cut 10 10 10 sign 0 0 0 0;";
    private static final String FIVE_SIX_SEVEN = "sort 5 5 5 5" + STILL + "sort 6 6 6 6" + STILL + "sort 7 7 7 7" + STILL;
    // at STEP 3 alone it is GOOD, and each STEP is taken by one tenth
    private static final String SLOW = "sort 0 0 0 1 whole 1 1 1 cut 0 0 0 sign 0 0 0 0;";
    private static final String LONG = "weeks 8;sort 1 1 1 1" + STILL + "wheel 0 3;wheel 0 3;wheel 0 3;";

    private final Due due;

    ValueEdges(Due due) {
        this.due = due;
    }

    void run() {
        fromNowOn();
        mean();
        roundedDown();
        best();
        firstSuchCode();
        rules();
        rulesThatMayNot();
        rulesLikewise();
        left();
        leftRoundedDown();
        blindWeeks();
        blindMayBe();
        blindValue();
        blindLater();
        blindRoundedDown();
        blindFirst();
        know();
        spare();
        askedAgain();
        askedOfAllWays();
        value();
        choice();
        brings();
        play();
        blind();
        knowAndSpare();
    }

    private void fromNowOn() {
        due.sentence("From NOW on (what stands how is seen; the ACT of this WEEK, if it is done, is done)");
        CheeseFirst x = Due.of("weeks 2;sort 5 30 9 9" + SURE + "wheel 0 3;");
        due.due("5, then 30", x.value(4), 35000);
        due.due("the same by OLD", x.value(0), 35000);
        x.place(0, 2, 3);
        due.due("as it stands", x.value(4), 18000);
        x.place(0, 0, 3);
        x.eat(0);
        due.due("what was had does not count", x.value(4), 30000);
        due.due("OLD", x.value(0), 30000);
        due.due("LEFT", x.left(4), 1000);
        due.due("BLIND", x.blind(-1), 30000);
        due.due("brings(6)", x.brings(6), 30000);
        x.next();
        due.due("a new ACT", x.value(4), 30000);
        x.eat(0);
        due.due("the last ACT is done", x.value(4), 0);
        due.due("the last ACT is done, OLD", x.value(0), 0);
        due.due("the last ACT is done, LEFT", x.left(4), 1000);
        due.due("the last ACT is done, BLIND", x.blind(-1), 0);
        due.due("the last ACT is done, brings(6)", x.brings(6), 0);
        due.sentence("VALUES in thousandths");
        due.due("99 coins for each of three", Due.of("weeks 1;sort 1 1 1 1" + STILL + "wheel 0 3;price 0 99;").value(4), 297000);
        due.due("GOOD 1", Due.of("weeks 1;sort 1 1 1 1" + STILL + "wheel 0 3;").value(4), 1000);
    }

    private void mean() {
        due.sentence("MEAN of what follows a WEEK: over all ways in which WHEELS GO ON or stay, each way's weight (of each of three "
                + "WHEELS its tenths, or 10 less these; 0 of what can't GO ON), times the VALUE there, added, by 1000");
        String sorts = "weeks 2;sort 0 10 0 0 whole 1 0 0 cut 0 0 0 sign 0 0 0 0;sort 0 20 0 0 whole 2 0 0 cut 0 0 0 sign 0 0 0 0;"
                + "sort 0 40 0 0 whole 5 0 0 cut 0 0 0 sign 0 0 0 0;";
        CheeseFirst x = Due.of(sorts + "wheel 0 1;wheel 1 1;wheel 2 1;");
        due.due("40 by 1/2, else 20 by 1/5, else 10 by 1/10", x.brings(6), 22400);
        due.due("without WHEEL 0", x.brings(0), 22000);
        due.due("without WHEEL 1", x.brings(1), 20500);
        due.due("without WHEEL 2", x.brings(2), 4800);
        x.stop(2);
        due.due("WHEEL 2 is STOPPED", x.brings(6), 4800);
        x.place(0, 0, 0);
        due.due("WHEEL 0 has none", x.brings(6), 4000);
        x.place(1, 3, 1);
        due.due("WHEEL 1 is at STEP 3", x.brings(6), 0);
        due.due("one WHEEL alone", Due.of(sorts + "wheel 0 1;").brings(6), 1000);
        due.due("two WHEELS", Due.of(sorts + "wheel 0 1;wheel 1 1;").brings(6), 4800);
        x = Due.of(sorts + "wheel 0 1;wheel 1 1;wheel 2 1;warm 0 5;warm 1 1;");
        due.due("tenths 6, 7, 10 by warmth", x.brings(6), 40000);
        due.due("WHEELS 0 and 1: 7/10, else 6/10", x.brings(2), 15800);
        x = Due.of("weeks 2;sort 0 40 0 0 whole 1 0 0 cut 0 0 0 sign 0 0 0 0;sort 0 0 0 0 whole 1 0 0 cut 0 0 0 sign 0 0 0 0;"
                + "wheel 0 1;wheel 1 1;wheel 1 1;");
        due.due("the way of weight 1 * 1 * 1, too", x.brings(6), 4000);
    }

    private void roundedDown() {
        due.sentence("rounded down (over at WEEK W: 0)");
        // chances to be at STEP 3 in the last WEEK, in thousandths: 1, 3.7, 8.56; rounded down in each WEEK on the way
        int[] values = {0, 0, 0, 1, 3, 7};
        for (int w = 1; w <= 6; w++) {
            due.due("W " + w, Due.of("weeks " + w + ";" + SLOW + "wheel 0 1;").value(4), values[w - 1]);
        }
        String rest = " 0 cut 0 0 0 sign 0 0 0 0;";
        CheeseFirst near = Due.of("weeks 3;sort 0 1 2 0 whole 1 1" + rest + "sort 0 4 9 0 whole 1 9" + rest + "sort 0 1 9 0 whole 1 3" + rest
                + "wheel 0 1;wheel 1 1;wheel 2 1;");
        due.due("1739999 by 1000", near.brings(6), 1739);
        CheeseFirst x = Due.of("weeks 1;sort 9 9 9 9" + STILL + "wheel 0 3;wheel 0 3;wheel 0 3;price 0 1;");
        due.due("in the last WEEK the MEAN is 0", x.brings(6), 0);
        due.due("what is had alone", x.brings(0), 9000);
        x.next();
        for (int rule = 0; rule <= 4; rule++) due.due("over, value(" + rule + ")", x.value(rule), 0);
    }

    private void best() {
        due.sentence("BEST: of all ACTS that may be (EAT 0, 1, 2, SELL 0, 1, 2, nothing: in this order, codes 0 .. 6) the greatest of "
                + "what is had, times 1000, and the MEAN behind it");
        CheeseFirst x = Due.of("weeks 1;" + FIVE_SIX_SEVEN + "wheel 0 1;wheel 1 2;wheel 2 3;price 0 4;");
        int[] brings = {5000, 6000, 7000, 4000, 8000, 12000, 0};
        for (int code = 0; code <= 6; code++) due.due("brings(" + code + ")", x.brings(code), brings[code]);
        int[][] stands = {{1, 1, 3, 5}, {1, 2, 2, 4}, {1, 0, 2, 2}, {0, 0, 2, 2}, {1, 1, 0, 1}, {1, 0, 0, 0}, {0, 0, 0, 6}};
        int[] values = {12000, 8000, 7000, 7000, 6000, 5000, 0};
        for (int i = 0; i < stands.length; i++) {
            for (int w = 0; w < 3; w++) x.place(w, 0, stands[i][w]);
            due.due("choice(4)", x.choice(4), stands[i][3]);
            due.due("value(4)", x.value(4), values[i]);
        }
        CheeseFirst sold = Due.of("weeks 1;" + FIVE_SIX_SEVEN + "wheel 0 3;wheel 1 2;wheel 2 1;price 0 40;");
        due.due("SELL 0", sold.choice(4), 3);
        sold.place(0, 1, 3);
        due.due("SELL 0 at STEP 1", sold.choice(4), 3);
        sold.place(0, 2, 3);
        due.due("not at STEP 2: SELL 1", sold.choice(4), 4);
        sold.place(1, 0, 1);
        due.due("not what is cut: SELL 2", sold.choice(4), 5);
        sold.place(2, 0, 0);
        due.due("none to SELL: EAT 1", sold.choice(4), 1);
        CheeseFirst waits = Due.of("weeks 2;sort 5 6 0 0" + SURE + "wheel 0 1;");
        due.due("nothing, then 6", waits.choice(4), 6);
        due.due("nothing, then 6", waits.value(4), 6000);
    }

    private void firstSuchCode() {
        due.sentence("its CHOICE: the first such code");
        String same = "sort 6 6 6 6" + STILL;
        due.due("EAT 0 of 0, 1, 2", Due.of("weeks 1;" + same + "wheel 0 1;wheel 0 1;wheel 0 1;").choice(4), 0);
        CheeseFirst x = Due.of("weeks 1;" + same + "wheel 0 1;wheel 0 1;wheel 0 1;price 0 6;");
        due.due("EAT 0 of all six", x.choice(4), 0);
        x.place(0, 0, 0);
        due.due("EAT 1 of 1, 2, 4, 5", x.choice(4), 1);
        x.place(1, 0, 0);
        due.due("EAT 2 of 2, 5", x.choice(4), 2);
        due.due("SELL 0 of 3, 4, 5", Due.of("weeks 1;" + same + "wheel 0 1;wheel 0 1;wheel 0 1;price 0 7;").choice(4), 3);
        due.due("SELL 1 of 4, 5", Due.of("weeks 1;" + same + "wheel 0 1;wheel 0 2;wheel 0 2;price 0 7;").choice(4), 4);
        due.due("EAT now of now and later", Due.of("weeks 2;" + same + "wheel 0 1;").choice(4), 0);
        due.due("SELL now of now and later", Due.of("weeks 2;" + same + "wheel 0 1;price 0 7;price 1 7;").choice(4), 3);
        due.due("EAT what is GOOD 0", Due.of("weeks 1;sort 0 0 0 0" + STILL + "wheel 0 1;").choice(4), 0);
    }

    private void ruleRow(CheeseFirst x, int[] codes, int[] values) {
        for (int rule = 0; rule <= 3; rule++) {
            due.due("choice(" + rule + ")", x.choice(rule), codes[rule]);
            due.due("value(" + rule + ")", x.value(rule), values[rule]);
        }
    }

    private void rules() {
        due.sentence("0 OLD: EAT the first WHEEL that may be EATEN. 1 WORST: the one at the greatest STEP, of several the first. "
                + "2 SAVE: the one that is least GOOD now, of several the first. 3 FINE: the most GOOD");
        String sorts = "weeks 1;" + FIVE_SIX_SEVEN;
        CheeseFirst x = Due.of(sorts + "wheel 0 1;wheel 2 1;wheel 2 1;");
        x.place(0, 1, 1);
        x.place(2, 1, 1);
        ruleRow(x, new int[] {0, 0, 0, 1}, new int[] {5000, 5000, 5000, 7000});
        x = Due.of(sorts + "wheel 2 1;wheel 0 1;wheel 0 1;");
        x.place(1, 2, 1);
        x.place(2, 2, 1);
        ruleRow(x, new int[] {0, 1, 1, 0}, new int[] {7000, 5000, 5000, 7000});
        x = Due.of(sorts + "wheel 1 1;wheel 0 1;wheel 2 1;");
        x.place(0, 1, 1);
        x.place(2, 3, 1);
        ruleRow(x, new int[] {0, 2, 1, 2}, new int[] {6000, 7000, 5000, 7000});
        CheeseFirst now = Due.of("weeks 1;sort 9 2 3 4" + STILL + "wheel 0 1;wheel 0 1;wheel 0 1;");
        now.place(1, 1, 1);
        now.place(2, 3, 1);
        ruleRow(now, new int[] {0, 2, 1, 0}, new int[] {9000, 4000, 2000, 9000});
        CheeseFirst nought = Due.of("weeks 1;sort 0 0 0 0" + STILL + "wheel 0 1;wheel 0 1;");
        ruleRow(nought, new int[] {0, 0, 0, 0}, new int[] {0, 0, 0, 0});
        CheeseFirst later = Due.of("weeks 3;sort 1 2 4 8" + SURE + "sort 16 16 16 16" + STILL + "wheel 0 2;wheel 1 1;");
        due.due("OLD: 1, 2, 16", later.value(0), 19000);
        due.due("WORST: 1, 2, 16", later.value(1), 19000);
        due.due("SAVE: 1, 2, 16", later.value(2), 19000);
        due.due("FINE: 16, 2, 4", later.value(3), 22000);
        due.due("BEST: 16, 2, 4", later.value(4), 22000);
    }

    private void rulesThatMayNot() {
        due.sentence("(0 .. 3: nothing, if none may be EATEN; no SELLING.)");
        CheeseFirst x = Due.of("weeks 1;open 1;" + FIVE_SIX_SEVEN + "wheel 0 2;wheel 1 2;wheel 2 2;price 0 99;");
        x.place(1, 0, 1);
        ruleRow(x, new int[] {1, 1, 1, 1}, new int[] {6000, 6000, 6000, 6000});
        due.due("BEST SELLS", x.choice(4), 3);
        x.place(1, 0, 0);
        ruleRow(x, new int[] {0, 0, 0, 2}, new int[] {5000, 5000, 5000, 7000});
        x.place(0, 0, 0);
        ruleRow(x, new int[] {2, 2, 2, 2}, new int[] {7000, 7000, 7000, 7000});
        x.place(2, 0, 0);
        ruleRow(x, new int[] {6, 6, 6, 6}, new int[] {0, 0, 0, 0});
        due.due("BEST", x.choice(4), 6);
        ruleRow(new CheeseFirst(), new int[] {6, 6, 6, 6}, new int[] {0, 0, 0, 0});
    }

    private void rulesLikewise() {
        due.sentence("4 BEST.");
        CheeseFirst x = Due.of("weeks 2;sort 5 30 9 9" + SURE + "wheel 0 1;");
        due.due("choice(4)", x.choice(4), 6);
        due.due("value(4)", x.value(4), 30000);
        due.due("left(4)", x.left(4), 0);
        due.due("play(4)", x.play(4), 30);
        due.sentence("VALUE of a RULE likewise");
        // what is EATEN in the fifth WEEK is at STEP 3 by 3.7 of 1000
        CheeseFirst slow = Due.of("weeks 5;sort 0 0 0 0" + STILL + SLOW + "wheel 0 3;wheel 0 1;wheel 1 1;");
        due.due("OLD, rounded down", slow.value(0), 3);
        CheeseFirst half = Due.of("weeks 2;sort 5 30 9 9 whole 0 0 0 cut 5 0 0 sign 0 0 0 0;wheel 0 2;");
        for (int rule = 0; rule <= 4; rule++) due.due("5, then the mean of 5 and 30", half.value(rule), 22500);
        half.eat(0);
        for (int rule = 0; rule <= 4; rule++) due.due("the ACT is done", half.value(rule), 17500);
    }

    private void left() {
        due.sentence("LEFT: PORTIONS that are left at the end, likewise in thousandths (at WEEK W: 1000 for each)");
        CheeseFirst x = Due.of(LONG);
        for (int rule = 0; rule <= 4; rule++) due.due("left(" + rule + ") of nine in eight WEEKS", x.left(rule), 1000);
        x.eat(0);
        for (int rule = 0; rule <= 4; rule++) due.due("left(" + rule + "), one is EATEN", x.left(rule), 1000);
        x.next();
        x.next();
        for (int rule = 0; rule <= 4; rule++) due.due("left(" + rule + "), a WEEK without an ACT", x.left(rule), 2000);
        for (int i = 0; i < 6; i++) x.next();
        for (int rule = 0; rule <= 4; rule++) due.due("left(" + rule + ") at WEEK W", x.left(rule), 8000);
        x.place(0, 3, 3);
        for (int rule = 0; rule <= 4; rule++) due.due("left(" + rule + ") at WEEK W", x.left(rule), 9000);
        for (int w = 0; w < 3; w++) x.place(w, 0, 0);
        for (int rule = 0; rule <= 4; rule++) due.due("left(" + rule + ") of none", x.left(rule), 0);
        CheeseFirst sold = Due.of("weeks 1;sort 1 1 1 1" + STILL + "wheel 0 3;wheel 0 1;price 0 9;");
        due.due("BEST SELLS three", sold.left(4), 1000);
        due.due("OLD EATS one", sold.left(0), 3000);
        due.due("none at all", new CheeseFirst().left(4), 0);
    }

    private void leftRoundedDown() {
        due.sentence("likewise in thousandths");
        // it waits to be SOLD whole in the last WEEK; at STEP 2 it can't be any more and is EATEN from then on
        String text = ";sort 0 0 0 0 whole 0 1 0 cut 0 0 0 sign 0 0 0 0;wheel 0 3;price ";
        int[] lefts = {0, 200, 280, 252, 226};
        for (int w = 1; w <= 5; w++) {
            CheeseFirst x = Due.of("weeks " + w + text + (w - 1) + " 99;");
            x.place(0, 1, 3);
            due.due("W " + w, x.left(4), lefts[w - 1]);
        }
    }

    private void blindWeeks() {
        due.sentence("BLIND: a row of ACTS told ahead for all WEEKS that are left (this one, too, if its ACT is not done)");
        for (int w = 1; w <= 8; w++) {
            CheeseFirst x = Due.of("weeks " + w + ";sort 1 1 1 1" + STILL + "wheel 0 3;wheel 0 3;wheel 0 3;");
            for (int t = 0; t < w; t++) {
                due.due("W " + w + ", WEEK " + t, x.blind(-2), w - t);
                x.keep(0);
                x.place(0, 0, 3);
                x.eat(0);
                due.due("its ACT is done", x.blind(-2), w - t - 1);
                x.back(0);
                x.next();
            }
            due.due("W " + w + ", over", x.blind(-2), 0);
            due.due("over", x.blind(-1), 0);
            due.due("over", x.blind(0), NO);
        }
        due.due("no WHEELS", new CheeseFirst().blind(-2), 6);
        for (int k = 0; k < 6; k++) due.due("no WHEELS", new CheeseFirst().blind(k), 6);
    }

    private void row(CheeseFirst x, int value, int... codes) {
        due.due("its VALUE", x.blind(-1), value);
        due.due("its length", x.blind(-2), codes.length);
        for (int k = 0; k < codes.length; k++) due.due("code " + k, x.blind(k), codes[k]);
        due.due("no code behind it", x.blind(codes.length), NO);
    }

    private void blindMayBe() {
        due.sentence("of each EAT 0, 1, 2 or nothing (code 6), such that each may be");
        row(Due.of("weeks 3;sort 5 5 5 5" + STILL + "wheel 0 1;price 0 99;"), 5000, 0, 6, 6);
        row(Due.of("weeks 3;" + FIVE_SIX_SEVEN + "wheel 0 1;wheel 1 1;wheel 2 1;"), 18000, 0, 1, 2);
        row(Due.of("weeks 2;" + FIVE_SIX_SEVEN + "wheel 0 1;wheel 1 1;wheel 2 1;"), 13000, 1, 2);
        CheeseFirst x = Due.of("weeks 2;open 1;" + FIVE_SIX_SEVEN + "wheel 0 2;wheel 2 2;");
        row(x, 14000, 1, 1);
        x.place(0, 0, 1);
        row(x, 12000, 0, 1);
        x.place(0, 0, 0);
        row(x, 14000, 1, 1);
        x = Due.of("weeks 2;open 2;" + FIVE_SIX_SEVEN + "wheel 0 2;wheel 2 2;");
        x.place(0, 0, 1);
        row(x, 14000, 1, 1);
        x = Due.of("weeks 2;open 1;" + FIVE_SIX_SEVEN + "wheel 0 3;wheel 1 3;wheel 2 1;");
        x.place(0, 0, 2);
        row(x, 10000, 0, 0);
        x.place(0, 0, 3);
        row(x, 13000, 2, 1);
    }

    private void blindValue() {
        due.sentence("VALUE: for each PORTION the mean GOOD of its WHEEL then (as it stands NOW, whole till it is cut by the row, then cut)");
        row(Due.of("weeks 2;sort 10 20 30 5 whole 5 0 10 cut 10 3 0 sign 0 2 5 10;wheel 0 2;"), 30000, 0, 0);
        row(Due.of("weeks 3;sort 0 10 50 0 whole 10 0 0 cut 0 10 0 sign 0 0 0 0;wheel 0 2;"), 60000, 6, 0, 0);
        String cutAlone = "weeks 2;sort 3 7 7 7 whole 0 0 0 cut 10 0 0 sign 0 0 0 0;wheel 0 3;";
        CheeseFirst x = Due.of(cutAlone);
        row(x, 10000, 0, 0);
        x.place(0, 0, 1);
        row(x, 7000, 6, 0);
        x.place(0, 0, 2);
        x.stop(0);
        row(x, 6000, 0, 0);
        x = Due.of(cutAlone);
        x.eat(0);
        row(x, 7000, 0);
        CheeseFirst other = Due.of("weeks 2;sort 3 7 7 7 whole 10 0 0 cut 0 0 0 sign 0 0 0 0;wheel 0 3;wheel 0 1;");
        other.eat(1);
        row(other, 7000, 0);
        CheeseFirst placed = Due.of("weeks 3;sort 1 2 4 8 whole 5 5 5 cut 0 0 0 sign 0 0 0 0;wheel 0 1;warm 0 5;");
        row(placed, 3000, 6, 6, 0);
        placed.place(0, 2, 1);
        row(placed, 8000, 6, 0, 6);
        placed.place(0, 3, 1);
        row(placed, 8000, 0, 6, 6);
        placed.place(0, 3, 0);
        row(placed, 0, 6, 6, 6);
    }

    private void blindLater() {
        due.sentence("as it stands NOW");
        CheeseFirst x = Due.of("weeks 3;sort 0 10 50 0 whole 5 5 0 cut 0 5 0 sign 0 0 0 0;wheel 0 2;warm 1 5;warm 0 1;");
        x.next();
        x.place(0, 0, 2);
        row(x, 10000, 6, 0);
        x.place(0, 1, 2);
        row(x, 60000, 0, 0);
        x.place(0, 1, 1);
        row(x, 50000, 6, 0);
        x.next();
        x.place(0, 1, 2);
        row(x, 10000, 0);
        // at STEP 3 behind seven WEEKS: 99 of 128
        row(Due.of("weeks 8;sort 0 0 0 9 whole 5 5 5 cut 0 0 0 sign 0 0 0 0;wheel 0 1;"), 6960, 6, 6, 6, 6, 6, 6, 6, 0);
    }

    private void blindRoundedDown() {
        due.sentence("in thousandths, rounded down, added");
        due.due("3.7", Due.of("weeks 5;" + SLOW + "wheel 0 1;").blind(-1), 3);
        row(Due.of("weeks 6;" + SLOW + "wheel 0 1;"), 8, 6, 6, 6, 6, 6, 0);
        row(Due.of("weeks 6;" + SLOW + "wheel 0 1;wheel 0 1;"), 11, 6, 6, 6, 6, 0, 1);
    }

    private void blindFirst() {
        due.sentence("The greatest; its row: of several the first by codes");
        row(Due.of("weeks 3;sort 5 5 5 5" + STILL + "wheel 0 1;wheel 0 1;"), 10000, 0, 1, 6);
        row(Due.of("weeks 4;sort 5 5 5 5" + STILL + "wheel 0 1;wheel 0 1;wheel 0 1;"), 15000, 0, 1, 2, 6);
        row(Due.of("weeks 3;sort 0 0 0 0" + STILL + "wheel 0 1;wheel 0 1;"), 0, 0, 1, 6);
        row(Due.of("weeks 8;sort 5 5 5 5" + STILL + "wheel 0 3;wheel 0 3;wheel 0 3;"), 40000, 0, 0, 0, 1, 1, 1, 2, 2);
        row(Due.of("weeks 2;sort 5 6 5 5" + SURE + "sort 5 5 5 5" + STILL + "wheel 0 1;wheel 1 1;"), 11000, 1, 0);
    }

    private void know() {
        due.sentence("KNOW: BEST less BLIND");
        CheeseFirst x = Due.of("weeks 3;sort 10 30 0 0 whole 5 10 0 cut 0 0 0 sign 0 0 0 0;wheel 0 1;");
        due.due("it is EATEN as soon as it is at STEP 1", x.know(), 5000);
        due.due("rounded down week by week, and once", Due.of("weeks 6;" + SLOW + "wheel 0 1;").know(), -1);
        due.due("BEST SELLS", Due.of("weeks 1;sort 1 1 1 1" + STILL + "wheel 0 3;price 0 9;").know(), 26000);
        due.due("the same", Due.of(LONG).know(), 0);
    }

    private void spare() {
        due.sentence("SPARE of a WHEEL: BEST, were it STOPPED now, less BEST");
        CheeseFirst x = Due.of("weeks 2;sort 30 10 0 0 whole 5 10 0 cut 5 0 0 sign 0 0 0 0;sort 0 8 0 0" + SURE + "wheel 0 2;wheel 1 1;");
        due.due("30 and 30, not 30 and 20", x.spare(0), 10000);
        due.due("it is not STOPPED by that", x.wheel(0, 5), 0);
        due.due("8 is not waited for", x.spare(1), 0);
        x.place(0, 0, 0);
        due.due("8 is lost", x.spare(1), -8000);
        due.due("one that has none", x.spare(0), 0);
        x.stop(1);
        due.due("STOPPED already", x.spare(1), 0);
        x = Due.of("weeks 2;sort 30 10 0 0 whole 5 10 0 cut 5 0 0 sign 0 0 0 0;wheel 0 2;");
        x.eat(0);
        due.due("the ACT is done", x.spare(0), 10000);
        x.next();
        due.due("in the last WEEK", x.spare(0), 0);
        x.next();
        due.due("over", x.spare(0), 0);
    }

    /** What was worked out before must not be told again once something is another. */
    private void askedAgain() {
        due.sentence("what stands how is seen");
        String flat = "sort 7 7 7 7" + STILL + "wheel 0 2;";
        CheeseFirst x = Due.of("weeks 2;sort 10 20 30 40" + STILL + "wheel 0 2;");
        asked("at first", x, 20000);
        Due.read(x, "weeks 2;" + flat);
        asked("another SORT", x, 14000);
        Due.read(x, "weeks 1;" + flat);
        asked("another W", x, 7000);
        Due.read(x, "weeks 3;" + flat + "wheel 0 2;");
        asked("more WHEELS", x, 21000);
        Due.read(x, "weeks 2;sort 10 20 30 40" + SURE + "wheel 0 2;");
        asked("going on", x, 30000);
        x.place(0, 1, 2);
        asked("placed", x, 50000);
        x.stop(0);
        asked("STOPPED", x, 40000);
        x.keep(0);
        x.eat(0);
        asked("EATEN", x, 20000);
        x.back(0);
        x.place(0, 1, 1);
        asked("as if EATEN, the ACT is not done", x, 20000);
        due.due("its length", x.blind(-2), 2);
        x.eat(0);
        x.place(0, 1, 1);
        due.due("the ACT is done", x.blind(-2), 1);
        x.back(0);
        asked("back", x, 40000);
        x.next();
        asked("the next WEEK", x, 20000);
        due.due("its length", x.blind(-2), 1);
    }

    /** Two of three WHEELS in all ways, one way after the other on one object: two PORTIONS are EATEN, the best ones. */
    private void askedOfAllWays() {
        int[] good = {1, 2, 4, 8, 16, 32, 64, 99};
        String sorts = "weeks 2;sort 1 2 4 8" + STILL + "sort 16 32 64 99" + STILL;
        for (int none = 0; none < 3; none++) {
            int a = none == 0 ? 1 : 0;
            int b = none == 2 ? 1 : 2;
            CheeseFirst x = Due.of(sorts + (none == 0 ? "wheel 0 3;wheel 0 3;wheel 1 3;" : none == 1 ? "wheel 0 3;wheel 1 1;wheel 1 3;"
                    : "wheel 0 3;wheel 1 3;wheel 1 2;"));
            x.place(none, 0, 0);
            for (int i = 3; i < 16; i++) {
                x.place(a, i / 4, i % 4);
                for (int k = 3; k < 16; k++) {
                    x.place(b, k / 4, k % 4);
                    int fromB = Math.min(2, k % 4);
                    int fromA = Math.min(2 - fromB, i % 4);
                    int value = fromB * good[4 + k / 4] + fromA * good[i / 4];
                    due.due("STEPS " + i / 4 + ", " + k / 4 + ", PORTIONS " + i % 4 + ", " + k % 4, x.value(4), 1000 * value);
                }
            }
        }
    }

    /** GOOD alone is had, so that each RULE and BLIND bring the same. */
    private void asked(String what, CheeseFirst x, int value) {
        for (int rule = 4; rule >= 0; rule--) due.due(what + ", value(" + rule + ")", x.value(rule), value);
        due.due(what + ", blind(-1)", x.blind(-1), value);
        due.due(what + ", know()", x.know(), 0);
    }

    private void value() {
        due.sentence("VALUE of a RULE (0 .. 4) from NOW on. BAD");
        CheeseFirst x = Due.of(LONG);
        for (int rule = 0; rule <= 4; rule++) due.due("value(" + rule + ")", x.value(rule), 8000);
        for (int rule : NO_RULES) due.due("value(" + rule + ")", x.value(rule), -1);
        for (int rule : NO_RULES) due.due("of a new object", new CheeseFirst().value(rule), -1);
        due.sentence("LEFT by a RULE. BAD");
        for (int rule = 0; rule <= 4; rule++) due.due("left(" + rule + ")", x.left(rule), 1000);
        for (int rule : NO_RULES) due.due("left(" + rule + ")", x.left(rule), -1);
    }

    private void choice() {
        due.sentence("What a RULE does NOW: the code; 6, if the ACT is done, or it is over. BAD");
        CheeseFirst x = Due.of(LONG);
        for (int rule = 0; rule <= 4; rule++) due.due("choice(" + rule + ")", x.choice(rule), 0);
        for (int rule : NO_RULES) due.due("choice(" + rule + ")", x.choice(rule), -1);
        x.eat(2);
        for (int rule = 0; rule <= 4; rule++) due.due("the ACT is done", x.choice(rule), 6);
        for (int rule : NO_RULES) due.due("BAD, the ACT is done", x.choice(rule), -1);
        for (int i = 0; i < 7; i++) x.next();
        for (int rule = 0; rule <= 4; rule++) due.due("in the last WEEK", x.choice(rule), 0);
        x.next();
        for (int rule = 0; rule <= 4; rule++) due.due("over", x.choice(rule), 6);
        for (int rule : NO_RULES) due.due("BAD, over", x.choice(rule), -1);
    }

    private void brings() {
        due.sentence("What an ACT (0 .. 6) NOW, then BEST brings");
        CheeseFirst x = Due.of("weeks 2;sort 5 30 9 9" + SURE + "sort 4 4 4 4" + STILL + "wheel 0 3;wheel 1 1;price 0 2;");
        int[] brings = {35000, 34000, NO, 10000, 32000, NO, 30000};
        for (int code = 0; code <= 6; code++) due.due("brings(" + code + ")", x.brings(code), brings[code]);
        due.sentence("NO: BAD, or it may not be (6 may always; others not, if the ACT is done or it is over)");
        for (int code : new int[] {-1, 7, 8, LEAST, MOST}) due.due("brings(" + code + ")", x.brings(code), NO);
        x.place(0, 2, 3);
        due.due("SELL at STEP 2", x.brings(3), NO);
        x.place(0, 0, 2);
        due.due("SELL what is cut", x.brings(3), NO);
        x.place(1, 0, 0);
        due.due("EAT what has none", x.brings(1), NO);
        due.due("SELL what has none", x.brings(4), NO);
        x.place(1, 0, 1);
        x.eat(1);
        for (int code = 0; code <= 5; code++) due.due("the ACT is done, brings(" + code + ")", x.brings(code), NO);
        due.due("the ACT is done, brings(6)", x.brings(6), 30000);
        x.next();
        x.next();
        x.place(0, 0, 3);
        x.place(1, 0, 1);
        for (int code = 0; code <= 5; code++) due.due("over, brings(" + code + ")", x.brings(code), NO);
        due.due("over, brings(6)", x.brings(6), 0);
        due.due("no WHEELS, brings(6)", new CheeseFirst().brings(6), 0);
        due.due("no WHEELS, brings(0)", new CheeseFirst().brings(0), NO);
        due.due("no WHEELS, brings(3)", new CheeseFirst().brings(3), NO);
        CheeseFirst open = Due.of("open 1;sort 1 1 1 1" + STILL + "wheel 0 2;wheel 0 1;");
        open.place(0, 0, 1);
        due.due("EAT what is whole, M others are OPEN", open.brings(1), NO);
    }

    private void play() {
        due.sentence("THE WINTER goes on to its end by a RULE and THE LOT: GOOD and coins that are had by it. BAD");
        CheeseFirst x = Due.of("weeks 3;sort 10 20 30 40 whole 0 0 0 cut 7 7 7 sign 0 0 0 0;wheel 0 3;");
        for (int rule : NO_RULES) due.due("play(" + rule + ")", x.play(rule), -1);
        due.due("nothing changed", x.now(0), 0);
        x.keep(0);
        due.due("lots 8, 6: 10, 10, 20", x.play(0), 40);
        due.due("two LOTS", x.lot(1), -1770082073);
        due.due("over", x.now(5), 1);
        due.due("WEEK W", x.now(0), 3);
        due.due("GOOD had", x.now(2), 40);
        due.due("over already", x.play(0), 0);
        due.due("nothing more was had", x.now(2), 40);
        due.due("no LOT", x.lot(1), 1);
        x.back(0);
        due.due("EAT", x.eat(0), 10);
        due.due("the ACT is done: 10, 20", x.play(0), 30);
        due.due("GOOD had, ahead, too", x.now(2), 40);
        CheeseFirst sold = Due.of("weeks 4;sort 10 20 30 40" + SURE + "wheel 0 3;wheel 0 1;price 1 90;");
        due.due("coins and GOOD", sold.play(4), 310);
        due.due("coins", sold.now(3), 270);
        due.due("GOOD", sold.now(2), 40);
        for (int rule = 0; rule <= 4; rule++) {
            CheeseFirst eight = Due.of(LONG);
            due.due("eight WEEKS, play(" + rule + ")", eight.play(rule), 8);
            due.due("WEEK W", eight.now(0), 8);
            CheeseFirst one = Due.of("weeks 1;" + FIVE_SIX_SEVEN + "wheel 1 1;wheel 0 1;wheel 2 1;");
            one.place(2, 1, 1);
            due.due("one WEEK, play(" + rule + ")", one.play(rule), new int[] {6, 7, 5, 7, 7}[rule]);
            due.due("no WHEELS", new CheeseFirst().play(rule), 0);
        }
        for (int rule : NO_RULES) due.due("BAD, over", x.play(rule), -1);
    }

    private void blind() {
        due.sentence("BLIND: VALUE (k = -1), how many ACTS its row has (-2), the k-th code. NO: BAD");
        CheeseFirst x = Due.of(LONG);
        due.due("blind(-1)", x.blind(-1), 8000);
        due.due("blind(-2)", x.blind(-2), 8);
        due.due("blind(0)", x.blind(0), 0);
        due.due("blind(7)", x.blind(7), 2);
        for (int k : new int[] {-3, -4, 8, 9, LEAST, MOST}) due.due("blind(" + k + ")", x.blind(k), NO);
        x.eat(0);
        due.due("the ACT is done, blind(6)", x.blind(6), 2);
        due.due("the ACT is done, blind(7)", x.blind(7), NO);
        for (int i = 0; i < 8; i++) x.next();
        for (int k : new int[] {-3, 0, 1, LEAST, MOST}) due.due("over, blind(" + k + ")", x.blind(k), NO);
    }

    private void knowAndSpare() {
        due.sentence("KNOW.");
        CheeseFirst x = Due.of("weeks 2;sort 1 1 1 1" + STILL + "wheel 0 3;price 0 9;");
        due.due("27 by SELLING, not 2", x.know(), 25000);
        x.eat(0);
        due.due("the ACT is done", x.know(), 0);
        x.next();
        x.next();
        due.due("over", x.know(), 0);
        due.due("no WHEELS", new CheeseFirst().know(), 0);
        due.sentence("SPARE. NO: BAD");
        CheeseFirst two = Due.of("sort 1 1 1 1" + STILL + "wheel 0 3;wheel 0 3;");
        due.due("spare(1)", two.spare(1), 0);
        for (int w : new int[] {-1, 2, 3, LEAST, MOST}) due.due("spare(" + w + ")", two.spare(w), NO);
        due.due("no WHEELS", new CheeseFirst().spare(0), NO);
    }
}
