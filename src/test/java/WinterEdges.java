/** Sentences of '2 THE WINTER', of WHEELS that GO ON, of IMAGES; promises 8 to 14, 29 and 30. */
final class WinterEdges {
    private static final int MOST = Integer.MAX_VALUE;
    private static final int LEAST = Integer.MIN_VALUE;
    private static final int[] NO_WHEELS = {-1, 3, 4, LEAST, MOST};
    private static final String STILL = " whole 0 0 0 cut 0 0 0 sign 0 0 0 0;";
    private static final String SURE = " whole 10 10 10 cut 10 10 10 sign 0 0 0 0;";
    private static final String HOUSE = "weeks 4;sort 10 20 30 40 whole 1 2 3 cut 4 5 6 sign 0 0 0 0;"
            + "sort 5 0 99 1" + STILL + "wheel 0 3;wheel 1 2;wheel 0 1;price 0 9;price 1 99;price 3 7;";
    // from LOT 1 on: the LOTS that follow, whose upper bits left over by 10 are 8, 6, 3, 3
    private static final int[] LOTS = {1103527590, -1770082073, 662824084, -999580867};

    private final Due due;

    WinterEdges(Due due) {
        this.due = due;
    }

    void run() {
        wholeAndOpen();
        goesOn();
        goesOnAsItIsThen();
        oneAct();
        mayEat();
        maySell();
        stopping();
        theLot();
        belowTheTenths();
        theEnd();
        place();
        eat();
        sell();
        stop();
        next();
        now();
        lot();
        images();
        nothingElse();
        readAnew();
        keepAndBack();
    }

    private void wholeAndOpen() {
        due.sentence("A WHEEL is whole as long as it has all its PORTIONS, OPEN if it has some, but not all");
        CheeseFirst x = Due.of("sort 1 1 1 1 whole 1 1 1 cut 2 2 2 sign 0 0 0 0;wheel 0 1;wheel 0 2;wheel 0 3;");
        for (int w = 0; w < 3; w++) {
            for (int portions = 0; portions <= w + 1; portions++) {
                x.place(w, 0, portions);
                String at = portions + " of " + (w + 1);
                due.due("OPEN: " + at, x.wheel(w, 4), portions > 0 && portions <= w ? 1 : 0);
                due.due("tenths: " + at, x.wheel(w, 7), portions == 0 ? 0 : portions == w + 1 ? 1 : 2);
                due.due("how many are OPEN: " + at, x.now(6), portions > 0 && portions <= w ? 1 : 0);
            }
        }
        x.place(1, 0, 1);
        x.place(2, 0, 1);
        due.due("two are OPEN", x.now(6), 2);
        x.place(2, 0, 3);
        due.due("whole again", x.wheel(2, 4), 0);
        due.due("one is OPEN", x.now(6), 1);
    }

    private void goesOn() {
        due.sentence("with that WEEK's warmth (10 at most; what is 0 stays 0)");
        int[][] warmed = {{0, 5, 0}, {0, 0, 0}, {1, 0, 1}, {1, 5, 6}, {4, 5, 9}, {5, 5, 10}, {6, 5, 10}, {10, 5, 10}, {9, 1, 10}, {10, 0, 10}};
        for (int[] row : warmed) {
            String tenths = " " + row[0] + " " + row[0] + " " + row[0];
            CheeseFirst x = Due.of("weeks 2;sort 1 1 1 1 whole" + tenths + " cut" + tenths + " sign 0 0 0 0;wheel 0 2;warm 0 " + row[1] + ";");
            for (int step = 0; step < 3; step++) {
                for (int portions = 1; portions <= 2; portions++) {
                    x.place(0, step, portions);
                    due.due(row[0] + " and " + row[1] + " more", x.wheel(0, 7), row[2]);
                    due.due("so STANDS has it", 10 / x.stands(0, 1, step, 1) * x.stands(0, 1, step, 0), 10 - row[2]);
                }
            }
            x.next();
            x.place(0, 0, 1);
            due.due("the next WEEK has none", x.wheel(0, 7), row[0]);
        }
        due.sentence("if it has PORTIONS, is not STOPPED, not at STEP 3");
        CheeseFirst x = Due.of("weeks 3;sort 1 1 1 1" + SURE + "wheel 0 1;wheel 0 1;wheel 0 1;");
        x.place(0, 0, 0);
        x.stop(1);
        x.place(2, 3, 1);
        due.due("none of them", x.next(), 0);
        due.due("has none", x.wheel(0, 2), 0);
        due.due("STOPPED", x.wheel(1, 2), 0);
        due.due("at STEP 3", x.wheel(2, 2), 3);
        for (int w = 0; w < 3; w++) due.due("tenths", x.wheel(w, 7), 0);
        x.place(0, 2, 1);
        x.place(2, 2, 1);
        due.due("two of them", x.next(), 2);
        due.due("has one again", x.wheel(0, 2), 3);
        due.due("still STOPPED", x.wheel(1, 2), 0);
        due.due("from STEP 2", x.wheel(2, 2), 3);
    }

    private void goesOnAsItIsThen() {
        due.sentence("how likely it goes on to the next STEP in a WEEK");
        CheeseFirst sure = Due.of("sort 0 0 0 0" + SURE + "wheel 0 1;");
        for (int t = 1; t <= 4; t++) {
            sure.next();
            due.due("one STEP in a WEEK", sure.wheel(0, 2), Math.min(3, t));
        }
        due.sentence("GOES ON in a WEEK: by WHOLE or CUT of its STEP and its SORT (as it is then)");
        CheeseFirst x = Due.of("sort 0 0 0 0 whole 1 2 3 cut 4 5 6 sign 0 0 0 0;sort 0 0 0 0 whole 7 8 9 cut 10 0 1 sign 0 0 0 0;"
                + "wheel 0 2;wheel 1 2;");
        int[][] tenths = {{4, 5, 6, 1, 2, 3}, {10, 0, 1, 7, 8, 9}};
        for (int w = 0; w < 2; w++) {
            for (int portions = 1; portions <= 2; portions++) {
                for (int step = 0; step < 3; step++) {
                    x.place(w, step, portions);
                    due.due("wheel(" + w + ", 7)", x.wheel(w, 7), tenths[w][3 * portions - 3 + step]);
                }
            }
        }
        CheeseFirst cut = Due.of("sort 1 1 1 1 whole 0 0 0 cut 10 10 10 sign 0 0 0 0;wheel 0 2;");
        due.due("whole: never", cut.next(), 0);
        cut.eat(0);
        due.due("cut this WEEK: for sure", cut.next(), 1);
        CheeseFirst eaten = Due.of("sort 1 1 1 1" + SURE + "wheel 0 1;");
        eaten.eat(0);
        due.due("the last PORTION is EATEN", eaten.next(), 0);
    }

    private void oneAct() {
        due.sentence("WEEK 0 at first; in each WEEK one ACT at most");
        CheeseFirst x = Due.of(HOUSE);
        due.due("now(0)", x.now(0), 0);
        due.due("EAT", x.eat(0), 10);
        due.due("EAT the same", x.eat(0), -2);
        due.due("EAT another", x.eat(1), -2);
        due.due("SELL behind EAT", x.sell(1), -2);
        due.due("only one was EATEN", x.now(4), 5);
        x.next();
        due.due("SELL", x.sell(1), 198);
        due.due("SELL another", x.sell(2), -2);
        due.due("EAT behind SELL", x.eat(0), -2);
        due.due("only one was SOLD", x.now(3), 198);
        x.next();
        x.next();
        due.due("WEEKS without an ACT, then EAT", x.eat(0) > 0 ? 1 : 0, 1);
    }

    private void mayEat() {
        due.sentence("EAT a WHEEL: one PORTION less, GOOD of its STEP is had (not, if it has none, or is whole and M others are OPEN)");
        for (int m = 1; m <= 3; m++) {
            for (int open = 0; open <= 2; open++) {
                for (int n = 1; n <= 3; n++) {
                    CheeseFirst x = Due.of("open " + m + ";sort 7 8 9 10" + STILL + "wheel 0 3;wheel 0 2;wheel 0 " + n + ";");
                    for (int w = 0; w < open; w++) x.place(w, 0, 1);
                    due.due("M " + m + ", " + open + " others OPEN, N " + n, x.eat(2), open < m ? 7 : -2);
                    due.due("PORTIONS", x.wheel(2, 3), open < m ? n - 1 : n);
                    due.due("GOOD had", x.now(2), open < m ? 7 : 0);
                }
                CheeseFirst x = Due.of("open " + m + ";sort 7 8 9 10" + STILL + "wheel 0 3;wheel 0 2;wheel 0 2;");
                for (int w = 0; w < open; w++) x.place(w, 0, 1);
                x.place(2, 3, 1);
                due.due("not whole itself: M " + m, x.eat(2), 10);
                due.due("the last PORTION", x.wheel(2, 3), 0);
                x.next();
                due.due("it has none", x.eat(2), -2);
            }
        }
        CheeseFirst x = Due.of("open 1;sort 7 8 9 10" + STILL + "wheel 0 3;wheel 0 2;");
        x.place(0, 0, 0);
        due.due("one without PORTIONS is not OPEN", x.eat(1), 7);
    }

    private void maySell() {
        due.sentence("SELL: a whole WHEEL at STEP 0 or 1: its PORTIONS times the WEEK's price are had, it has none then");
        for (int n = 1; n <= 3; n++) {
            for (int step = 0; step <= 3; step++) {
                for (int portions = 0; portions <= n; portions++) {
                    CheeseFirst x = Due.of("sort 1 1 1 1" + STILL + "wheel 0 " + n + ";price 0 99;price 1 5;");
                    x.place(0, step, portions);
                    boolean may = portions == n && step <= 1;
                    due.due("STEP " + step + ", " + portions + " of " + n, x.sell(0), may ? 99 * n : -2);
                    due.due("PORTIONS", x.wheel(0, 3), may ? 0 : portions);
                    due.due("coins", x.now(3), may ? 99 * n : 0);
                    due.due("the ACT is done", x.now(1), may ? 1 : 0);
                    due.due("no GOOD", x.now(2), 0);
                    due.due("its STEP stays", x.wheel(0, 2), step);
                }
            }
        }
        CheeseFirst x = Due.of("sort 1 1 1 1" + STILL + "wheel 0 2;wheel 0 3;price 0 99;price 1 5;");
        x.next();
        due.due("that WEEK's price", x.sell(0), 10);
        x.next();
        due.due("a WEEK without a price", x.sell(1), 0);
        due.due("it has none all the same", x.wheel(1, 3), 0);
        due.due("an ACT all the same", x.now(1), 1);
        CheeseFirst open = Due.of("open 1;sort 1 1 1 1" + STILL + "wheel 0 2;wheel 0 3;price 0 99;");
        open.place(0, 0, 1);
        due.due("though M others are OPEN", open.sell(1), 297);
    }

    private void stopping() {
        due.sentence("STOP (no ACT; any time): a WHEEL never GOES ON from now on");
        CheeseFirst x = Due.of("weeks 3;sort 5 6 7 8" + SURE + "wheel 0 2;wheel 0 2;wheel 0 2;price 0 3;");
        due.due("ahead of the ACT", x.stop(0), 1);
        due.due("no ACT", x.now(1), 0);
        due.due("a STOPPED one may be EATEN", x.eat(0), 5);
        due.due("behind the ACT", x.stop(1), 1);
        due.due("one goes on", x.next(), 1);
        due.due("cut, too, it stays", x.wheel(0, 2), 0);
        due.due("a STOPPED one may be SOLD", x.sell(1), 0);
        x.next();
        x.next();
        due.due("never", x.wheel(0, 2), 0);
        due.due("it is over", x.now(5), 1);
        due.due("when it is over", x.stop(2), 1);
        due.due("one that has none", x.wheel(1, 5), 1);
        x.place(0, 1, 2);
        due.due("placed anew it is STOPPED still", x.wheel(0, 5), 1);
        due.due("placed anew it stays", x.wheel(0, 7), 0);
    }

    private void theLot() {
        due.sentence("NEXT: WHEEL by WHEEL, if it may GO ON: THE LOT goes on (times 1103515245 and 12345, wrapped)");
        String five = "weeks 8;sort 1 1 1 1 whole 5 5 5 cut 5 5 5 sign 0 0 0 0;";
        for (int wheels = 0; wheels <= 3; wheels++) {
            CheeseFirst x = Due.of(five + "wheel 0 1;".repeat(wheels));
            due.due("of lots 8, 6, 3 the third is below 5", x.next(), wheels == 3 ? 1 : 0);
            due.due("one LOT for each", x.lot(0), wheels == 0 ? 1 : LOTS[wheels - 1]);
            for (int w = 0; w < wheels; w++) due.due("STEP of WHEEL " + w, x.wheel(w, 2), w == 2 ? 1 : 0);
        }
        String three = five + "wheel 0 1;wheel 0 1;wheel 0 1;";
        CheeseFirst x = Due.of(three);
        x.stop(0);
        due.due("none for a STOPPED one: 8, 6", x.next(), 0);
        due.due("two LOTS", x.lot(1), LOTS[1]);
        x.place(1, 3, 1);
        due.due("none for one at STEP 3: 8", x.next(), 0);
        due.due("one LOT", x.lot(1), LOTS[0]);
        x.place(2, 0, 0);
        due.due("none for one that has none", x.next(), 0);
        due.due("no LOT", x.lot(1), 1);
        x = Due.of("sort 1 1 1 1" + SURE + "wheel 0 1;");
        due.due("tenths 10 go on for sure", x.next(), 1);
        due.due("but by a LOT", x.lot(-1), LOTS[0]);
        x.next();
        due.due("wrapped", x.lot(0), -1103502900);
        x.next();
        due.due("of 0", x.lot(MOST), 12345);
        // read so: what has PORTIONS, is not STOPPED and not at STEP 3 may GO ON, though its tenths are 0
        x = Due.of("sort 1 1 1 1" + STILL + "wheel 0 1;");
        due.due("tenths 0 never go on", x.next(), 0);
        due.due("but by a LOT", x.lot(1), LOTS[0]);
    }

    /** A LOT whose next one has these upper bits left over by 10, with or without the highest bit. */
    private static int lotAhead(int digit, boolean highest) {
        for (int v = 0; ; v++) {
            int next = v * 1103515245 + 12345;
            int upper = next >>> 16;
            if (upper % 10 == digit && upper >= 32768 == highest) return v;
        }
    }

    private void belowTheTenths() {
        due.sentence("it does, if its upper 16 bits (0 .. 65535), left over by 10, are below the tenths");
        for (int tenths = 0; tenths <= 10; tenths++) {
            CheeseFirst x = Due.of("weeks 8;sort 1 1 1 1 whole " + tenths + " 0 0 cut 0 0 0 sign 0 0 0 0;wheel 0 1;");
            x.keep(0);
            for (int digit = 0; digit <= 9; digit++) {
                for (int highest = 0; highest <= 1; highest++) {
                    x.back(0);
                    x.lot(lotAhead(digit, highest == 1));
                    due.due(digit + " below " + tenths, x.next(), digit < tenths ? 1 : 0);
                    due.due("STEP", x.wheel(0, 2), digit < tenths ? 1 : 0);
                }
            }
        }
    }

    private void theEnd() {
        due.sentence("then it is the next WEEK. At WEEK W it is over");
        for (int w = 1; w <= 8; w++) {
            CheeseFirst x = Due.of("weeks " + w + ";sort 1 1 1 1" + STILL + "wheel 0 3;price " + (w - 1) + " 2;");
            for (int t = 0; t < w; t++) {
                due.due("WEEK", x.now(0), t);
                due.due("not over", x.now(5), 0);
                x.place(0, 0, 3);
                due.due("an ACT", t == w - 1 ? x.sell(0) : x.eat(0), t == w - 1 ? 6 : 1);
                due.due("done", x.now(1), 1);
                due.due("next()", x.next(), 0);
                due.due("not done any more", x.now(1), 0);
            }
            due.due("WEEK W", x.now(0), w);
            due.due("over", x.now(5), 1);
            due.due("next()", x.next(), -2);
            due.due("still WEEK W", x.now(0), w);
            x.place(0, 0, 3);
            due.due("EAT", x.eat(0), -2);
            due.due("SELL", x.sell(0), -2);
        }
    }

    private void place() {
        due.sentence("A WHEEL is at a STEP, has PORTIONS (0 .. N) from now on: 10 times its STEP as it was and its PORTIONS. BAD");
        CheeseFirst x = Due.of(HOUSE);
        int was = 3;
        for (int step = 0; step <= 3; step++) {
            for (int portions = 0; portions <= 3; portions++) {
                due.due("place(0, " + step + ", " + portions + ")", x.place(0, step, portions), was);
                due.due("STEP", x.wheel(0, 2), step);
                due.due("PORTIONS", x.wheel(0, 3), portions);
                was = 10 * step + portions;
            }
        }
        due.due("other WHEELS stay", x.place(2, 0, 1), 1);
        for (int step : new int[] {-1, 4, 5, LEAST, MOST}) due.due("STEP " + step, x.place(1, step, 1), -1);
        for (int portions : new int[] {-1, 3, 4, LEAST, MOST}) due.due("PORTIONS " + portions + " of 2", x.place(1, 1, portions), -1);
        due.due("PORTIONS 2 of 1", x.place(2, 1, 2), -1);
        for (int w : NO_WHEELS) due.due("WHEEL " + w, x.place(w, 0, 1), -1);
        due.due("nothing changed", x.place(1, 0, 2), 2);
        due.due("nothing was had", x.now(2) + x.now(3), 0);
        due.due("no ACT", x.now(1), 0);
        x.eat(1);
        due.due("behind an ACT", x.place(1, 0, 2), 1);
        due.due("which stays done", x.now(1), 1);
        due.due("which was had", x.now(2), 5);
        for (int i = 0; i < 4; i++) x.next();
        due.due("when it is over", x.place(1, 3, 0), 2);
    }

    private void eat() {
        due.sentence("EAT: GOOD that is had. BAD; STATE: it may not be, the ACT is done, or it is over");
        CheeseFirst x = Due.of(HOUSE);
        x.keep(0);
        int[] good = {5, 0, 99, 1};
        for (int step = 0; step <= 3; step++) {
            x.back(0);
            x.place(1, step, 2);
            due.due("GOOD at STEP " + step, x.eat(1), good[step]);
            due.due("had", x.now(2), good[step]);
            due.due("the ACT is done", x.now(1), 1);
            due.due("the ACT is done", x.eat(1), -2);
        }
        x.back(0);
        for (int w : NO_WHEELS) due.due("eat(" + w + ")", x.eat(w), -1);
        x.place(1, 0, 0);
        due.due("it may not be", x.eat(1), -2);
        due.due("no ACT was done", x.now(1), 0);
        x.eat(0);
        for (int w : NO_WHEELS) due.due("BAD ahead of STATE", x.eat(w), -1);
        for (int i = 0; i < 4; i++) x.next();
        due.due("over", x.eat(2), -2);
        due.due("BAD, when it is over", x.eat(3), -1);
        due.due("no WHEEL at all", new CheeseFirst().eat(0), -1);
    }

    private void sell() {
        due.sentence("SELL: coins. BAD; STATE likewise");
        CheeseFirst x = Due.of(HOUSE);
        for (int w : NO_WHEELS) due.due("sell(" + w + ")", x.sell(w), -1);
        x.place(1, 2, 2);
        due.due("it may not be", x.sell(1), -2);
        due.due("no ACT was done", x.now(1), 0);
        due.due("coins", x.sell(0), 27);
        due.due("the ACT is done", x.sell(2), -2);
        for (int w : NO_WHEELS) due.due("BAD ahead of STATE", x.sell(w), -1);
        x.next();
        due.due("coins", x.sell(2), 99);
        due.due("coins of all", x.now(3), 126);
        for (int i = 0; i < 3; i++) x.next();
        x.place(0, 0, 3);
        due.due("over", x.sell(0), -2);
        due.due("BAD, when it is over", x.sell(3), -1);
        due.due("no WHEEL at all", new CheeseFirst().sell(0), -1);
    }

    private void stop() {
        due.sentence("STOP: whether it was not STOPPED. BAD");
        CheeseFirst x = Due.of(HOUSE);
        for (int w = 0; w < 3; w++) {
            due.due("first", x.stop(w), 1);
            due.due("again", x.stop(w), 0);
            due.due("STOPPED", x.wheel(w, 5), 1);
            if (w < 2) due.due("the next one is not", x.wheel(w + 1, 5), 0);
        }
        for (int w : NO_WHEELS) due.due("stop(" + w + ")", x.stop(w), -1);
        due.due("no WHEEL at all", new CheeseFirst().stop(0), -1);
    }

    private void next() {
        due.sentence("NEXT: how many WHEELS went on. STATE: it is over");
        CheeseFirst x = Due.of("weeks 4;sort 1 1 1 1" + SURE + "wheel 0 1;wheel 0 1;wheel 0 1;");
        x.place(0, 2, 1);
        x.place(1, 1, 1);
        due.due("three", x.next(), 3);
        due.due("two", x.next(), 2);
        due.due("one", x.next(), 1);
        due.due("none", x.next(), 0);
        due.due("over", x.next(), -2);
        int lot = x.lot(5);
        due.due("over", x.next(), -2);
        due.due("nothing changes", x.lot(lot), 5);
        due.due("nothing changes", x.now(0), 4);
        CheeseFirst none = new CheeseFirst();
        for (int i = 0; i < 6; i++) due.due("no WHEEL at all", none.next(), 0);
        due.due("W is 6 at first", none.next(), -2);
    }

    private void now() {
        due.sentence("0 WEEK, 1 whether its ACT is done, 2 GOOD had, 3 coins had, 4 PORTIONS left of all, 5 whether it is over, "
                + "6 how many are OPEN. BAD");
        CheeseFirst x = Due.of(HOUSE);
        x.eat(0);
        x.next();
        x.sell(2);
        int[] now = {1, 1, 10, 99, 4, 0, 1};
        for (int what = 0; what < 7; what++) due.due("now(" + what + ")", x.now(what), now[what]);
        for (int what : new int[] {-1, 7, 8, LEAST, MOST}) due.due("now(" + what + ")", x.now(what), -1);
        for (int i = 0; i < 3; i++) x.next();
        int[] end = {4, 0, 10, 99, 4, 1, 1};
        for (int what = 0; what < 7; what++) due.due("over, now(" + what + ")", x.now(what), end[what]);
        x.place(1, 0, 1);
        due.due("two are OPEN", x.now(6), 2);
        x.place(0, 0, 0);
        x.place(1, 0, 0);
        due.due("none is left", x.now(4), 0);
        due.due("none is OPEN", x.now(6), 0);
    }

    private void lot() {
        due.sentence("THE LOT becomes v: what it was");
        CheeseFirst x = new CheeseFirst();
        int was = 1;
        for (int v : new int[] {0, -1, LEAST, MOST, 65536, 1}) {
            due.due("lot(" + v + ")", x.lot(v), was);
            was = v;
        }
    }

    private void images() {
        due.sentence("IMAGES 0, 1 keep all of THE WINTER (WEEK, whether its ACT is done, STEPS, PORTIONS, what is STOPPED, "
                + "what was had, THE LOT)");
        CheeseFirst x = Due.of(HOUSE);
        x.sell(2);
        x.next();
        x.eat(0);
        x.place(1, 2, 1);
        x.stop(1);
        x.lot(-77);
        due.due("keep(0)", x.keep(0), 1);
        x.next();
        x.eat(1);
        x.next();
        x.place(0, 0, 3);
        x.place(2, 0, 1);
        x.stop(0);
        x.stop(2);
        x.lot(5);
        x.sell(2);
        x.place(2, 3, 1);
        due.due("keep(1)", x.keep(1), 3);
        due.due("back(0)", x.back(0), 1);
        int[] now = {1, 1, x.wheel(0, 6), 9, 3, 0, 2};
        for (int what = 0; what < 7; what++) due.due("now(" + what + ")", x.now(what), now[what]);
        due.due("PORTIONS", x.wheel(0, 3), 2);
        due.due("STEP", x.wheel(1, 2), 2);
        due.due("PORTIONS", x.wheel(1, 3), 1);
        due.due("none", x.wheel(2, 3), 0);
        due.due("not STOPPED", x.wheel(0, 5), 0);
        due.due("STOPPED", x.wheel(1, 5), 1);
        due.due("not STOPPED", x.wheel(2, 5), 0);
        due.due("THE LOT", x.lot(0), -77);
        due.due("the ACT is done", x.eat(0), -2);
        due.due("back(1)", x.back(1), 3);
        due.due("the ACT is done, of another WEEK", x.now(1), 1);
        due.due("GOOD had", x.now(2) - now[2], 99);
        due.due("coins had", x.now(3), 16);
        due.due("PORTIONS", x.now(4), 4);
        due.due("STEP", x.wheel(2, 2), 3);
        due.due("STOPPED", x.wheel(2, 5), 1);
        due.due("THE LOT", x.lot(0), 5);
    }

    private void nothingElse() {
        due.sentence("nothing else");
        CheeseFirst x = Due.of(HOUSE);
        x.keep(0);
        x.keep(1);
        x.note(5, 0);
        x.thought(1);
        Due.type(x, "open 2;");
        due.due("back(0)", x.back(0), 0);
        due.due("not THE TRACE", x.trace(), 100011);
        due.due("not the SORT of THE THOUGHT", x.count(5), 1);
        due.due("not THE TEXT", x.count(4), 7);
        x.thought(0);
        x.aged();
        x.back(1);
        due.due("not THE THOUGHT's weights", x.thinks(0, 0), 9);
        x.next();
        x.keep(1);
        x.back(0);
        due.due("not the other IMAGE", x.back(1), 1);
    }

    private void readAnew() {
        due.sentence("(A CELLAR read anew: THE WINTER begins, but THE LOT; IMAGES are gone; THE THOUGHT is of SORT 0.)");
        CheeseFirst x = Due.of(HOUSE);
        x.eat(0);
        x.next();
        x.sell(1);
        x.stop(0);
        x.stop(2);
        x.keep(0);
        x.keep(1);
        x.thought(1);
        x.thought(0);
        x.aged();
        x.lot(4711);
        x.note(0, 0);
        due.due("the same CELLAR again", Due.read(x, HOUSE), 9);
        int[] now = {0, 0, 0, 0, 6, 0, 0};
        for (int what = 0; what < 7; what++) due.due("now(" + what + ")", x.now(what), now[what]);
        for (int w = 0; w < 3; w++) {
            due.due("STEP", x.wheel(w, 2), 0);
            due.due("PORTIONS", x.wheel(w, 3), 3 - w);
            due.due("STOPPED", x.wheel(w, 5), 0);
        }
        due.due("IMAGE 0 is gone", x.back(0), -2);
        due.due("IMAGE 1 is gone", x.back(1), -2);
        due.due("THE THOUGHT begins, too", x.thinks(0, 1), 1);
        due.due("THE LOT stays", x.lot(1), 4711);
        due.due("THE TRACE stays", x.trace(), 1);
        x.thought(1);
        Due.read(x, HOUSE);
        due.due("SORT of THE THOUGHT", x.count(5), 0);
        x.keep(0);
        x.thought(1);
        due.due("a CELLAR with a FAULT", Due.read(x, "x"), -10);
        due.due("leaves IMAGES", x.back(0), 0);
        due.due("leaves THE THOUGHT", x.count(5), 1);
        due.due("an empty text is a CELLAR, too", Due.read(x, ""), 0);
        due.due("IMAGES are gone", x.back(0), -2);
        due.due("no WHEEL", x.wheel(0, 0), -1);
    }

    private void keepAndBack() {
        due.sentence("An IMAGE is kept: the WEEK. BAD");
        CheeseFirst x = Due.of(HOUSE);
        int[] none = {-1, 2, 3, LEAST, MOST};
        for (int image : none) due.due("keep(" + image + ")", x.keep(image), -1);
        due.due("nothing was kept", x.back(0), -2);
        due.due("nothing was kept", x.back(1), -2);
        for (int t = 0; t <= 4; t++) {
            due.due("keep(0)", x.keep(0), t);
            due.due("keep(1)", x.keep(1), t);
            x.next();
        }
        due.sentence("All of that becomes as an IMAGE has it: the WEEK. BAD; STATE: none was kept");
        x = Due.of(HOUSE);
        for (int image : none) due.due("back(" + image + ")", x.back(image), -1);
        due.due("none was kept", x.back(0), -2);
        due.due("none was kept", x.back(1), -2);
        x.keep(1);
        due.due("none was kept in 0", x.back(0), -2);
        x.next();
        due.due("back(1)", x.back(1), 0);
        x.next();
        x.next();
        due.due("as often as one likes", x.back(1), 0);
        x.next();
        x.keep(0);
        x.next();
        x.keep(0);
        due.due("what is kept later counts", x.back(0), 2);
        due.due("the other one stays", x.back(1), 0);
        for (int image : none) due.due("back(" + image + ")", x.back(image), -1);
        CheeseFirst empty = new CheeseFirst();
        due.due("keep(0) of a new object", empty.keep(0), 0);
        empty.next();
        due.due("back(0) of a new object", empty.back(0), 0);
    }
}
