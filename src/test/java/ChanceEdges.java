/** Sentences of '4 STANDS, KINDS, IMAGES' that name an edge, but for IMAGES; promises 23 to 28 and 32. */
final class ChanceEdges {
    private static final int NO = CheeseFirst.NO;
    private static final int MOST = Integer.MAX_VALUE;
    private static final int LEAST = Integer.MIN_VALUE;
    private static final int[] NEITHER_0_NOR_1 = {-1, 2, 3, LEAST, MOST};
    private static final String CUTS = " cut 0 0 0 sign 0 0 0 0;";

    private final Due due;

    ChanceEdges(Due due) {
        this.due = due;
    }

    void run() {
        standsFarOn();
        standsByWarmth();
        standsAsItIs();
        thoughtAtFirst();
        aging();
        showing();
        madeLeast();
        full();
        fullAtEachStep();
        allWouldBeNought();
        thinking();
        kinds();
        stands();
        thought();
        aged();
        shown();
        thinks();
        note();
        trace();
        calls();
    }

    private void fraction(String what, CheeseFirst x, int n, int step, long upper, long lower) {
        due.due(what + ", upper", x.stands(0, n, step, 0), upper);
        due.due(what + ", lower", x.stands(0, n, step, 1), lower);
    }

    private void thinks(String what, CheeseFirst x, int step, long upper, long lower) {
        due.due(what + ", upper", x.thinks(step, 0), upper);
        due.due(what + ", lower", x.thinks(step, 1), lower);
    }

    private void standsFarOn() {
        due.sentence("STANDS: how likely a WHEEL as it is now, nothing EATEN, is at a STEP n WEEKS on (0 .. 8");
        CheeseFirst x = Due.of("weeks 8;sort 0 0 0 0 whole 1 1 1" + CUTS + "wheel 0 1;");
        fraction("0 WEEKS on", x, 0, 0, 1, 1);
        fraction("0 WEEKS on", x, 0, 1, 0, 1);
        fraction("8 WEEKS on, STEP 0", x, 8, 0, 43046721, 100000000);
        fraction("8 WEEKS on, STEP 1", x, 8, 1, 4782969, 12500000);
        fraction("8 WEEKS on, STEP 2", x, 8, 2, 3720087, 25000000);
        fraction("8 WEEKS on, STEP 3", x, 8, 3, 3809179, 100000000);
        fraction("STEP 3 is far", x, 2, 3, 0, 1);
        fraction("STEP 3 is near", x, 3, 3, 1, 1000);
        due.sentence("a fraction in least terms");
        x = Due.of("sort 0 0 0 0 whole 5 2 10" + CUTS + "wheel 0 1;");
        fraction("5 of 10", x, 1, 0, 1, 2);
        fraction("5 of 10", x, 1, 1, 1, 2);
        fraction("25 of 100", x, 2, 0, 1, 4);
        fraction("25 and 40 of 100", x, 2, 1, 13, 20);
        fraction("10 of 100", x, 2, 2, 1, 10);
        fraction("none", x, 2, 3, 0, 1);
        x.place(0, 2, 1);
        fraction("all", x, 1, 3, 1, 1);
        fraction("all", x, 8, 3, 1, 1);
        fraction("none", x, 8, 2, 0, 1);
    }

    private void standsByWarmth() {
        due.sentence("each from this WEEK on with its warmth, beyond WEEK 7 none");
        CheeseFirst x = Due.of("weeks 8;sort 0 0 0 0 whole 1 1 0" + CUTS + "wheel 0 1;warm 0 1;warm 1 2;warm 6 3;warm 7 5;");
        fraction("8/10", x, 1, 0, 4, 5);
        fraction("8/10 7/10", x, 2, 0, 14, 25);
        x.next();
        x.place(0, 0, 1);
        fraction("WEEK 1: 7/10", x, 1, 0, 7, 10);
        fraction("WEEKS 1, 2: 7/10 9/10", x, 2, 0, 63, 100);
        for (int i = 0; i < 5; i++) x.next();
        x.place(0, 0, 1);
        fraction("WEEK 6: 6/10", x, 1, 0, 3, 5);
        fraction("WEEKS 6, 7: 6/10 4/10", x, 2, 0, 6, 25);
        fraction("WEEKS 6 to 8: 6/10 4/10 9/10", x, 3, 0, 27, 125);
        x.next();
        x.place(0, 0, 1);
        fraction("WEEK 7: 4/10", x, 1, 0, 2, 5);
        fraction("WEEKS 7, 8: 4/10 9/10", x, 2, 0, 9, 25);
        x.next();
        x.place(0, 0, 1);
        fraction("WEEK 8: 9/10", x, 1, 0, 9, 10);
        x.place(0, 2, 1);
        fraction("what is 0 stays 0", x, 8, 2, 1, 1);
        due.sentence("beyond W, too");
        x = Due.of("weeks 1;sort 0 0 0 0 whole 1 1 0" + CUTS + "wheel 0 1;warm 0 1;warm 1 2;");
        fraction("8/10 7/10", x, 2, 0, 14, 25);
        fraction("8/10 7/10 9/10", x, 3, 0, 63, 125);
        x.next();
        x.place(0, 0, 1);
        fraction("over: 7/10", x, 1, 0, 7, 10);
        due.due("so wheel() has it", x.wheel(0, 7), 3);
    }

    private void standsAsItIs() {
        due.sentence("as it is now, nothing EATEN");
        CheeseFirst x = Due.of("sort 0 0 0 0 whole 1 1 1 cut 2 2 2 sign 0 0 0 0;wheel 0 2;");
        fraction("whole", x, 2, 0, 81, 100);
        x.place(0, 1, 1);
        fraction("cut", x, 2, 1, 16, 25);
        fraction("not behind its STEP", x, 2, 0, 0, 1);
        x.place(0, 1, 0);
        fraction("has none", x, 8, 1, 1, 1);
        fraction("has none", x, 8, 2, 0, 1);
        x.place(0, 1, 2);
        x.stop(0);
        fraction("STOPPED", x, 8, 1, 1, 1);
        fraction("STOPPED", x, 8, 2, 0, 1);
        x.place(0, 3, 2);
        fraction("at STEP 3", x, 8, 3, 1, 1);
    }

    private void thoughtAtFirst() {
        due.sentence("A THOUGHT of a SORT: weights of four STEPS (1, 0, 0, 0 at first)");
        CheeseFirst x = Due.of("sort 7 0 0 0 whole 1 1 1" + CUTS);
        thinks("STEP 0", x, 0, 1, 1);
        for (int step = 1; step <= 3; step++) thinks("STEP " + step, x, step, 0, 1);
        thinks("mean", x, 4, 7, 1);
    }

    private void aging() {
        due.sentence("AGED: a WEEK goes by (whole, no warmth): weights, times 10, go on by tenths");
        CheeseFirst x = Due.of("sort 0 0 0 0 whole 1 2 3 cut 9 9 9 sign 0 0 0 0;wheel 0 2;warm 0 5;warm 1 5;");
        x.aged();
        thinks("9/10", x, 0, 9, 10);
        thinks("1/10", x, 1, 1, 10);
        x.aged();
        thinks("81/100", x, 0, 81, 100);
        thinks("17/100", x, 1, 17, 100);
        thinks("2/100", x, 2, 1, 50);
        thinks("none", x, 3, 0, 1);
        x.aged();
        thinks("6/1000", x, 3, 3, 500);
        due.due("no WEEK of THE WINTER goes by", x.now(0), 0);
        due.due("no WHEEL goes on", x.wheel(0, 2), 0);
        due.due("no LOT", x.lot(1), 1);
        x = Due.of("sort 1 2 3 4 whole 10 10 10" + CUTS);
        for (int step = 1; step <= 4; step++) {
            x.aged();
            thinks("surely", x, Math.min(3, step), 1, 1);
            thinks("no more", x, step - 1, step == 4 ? 1 : 0, 1);
        }
        x = Due.of("sort 1 2 3 4 whole 0 10 10" + CUTS);
        x.aged();
        thinks("it stays", x, 0, 1, 1);
    }

    private void showing() {
        due.sentence("how likely the rind shows");
        CheeseFirst likely = Due.of("sort 0 0 0 0 whole 5 0 0 cut 0 0 0 sign 1 9 0 0;");
        likely.aged();
        likely.shown(1);
        thinks("9 of 10", likely, 1, 9, 10);
        due.sentence("SHOWN: the rind showed (1) or not (0): each weight times SIGN, or 10 less it");
        String half = "sort 0 0 0 0 whole 5 0 0 cut 0 0 0 sign 1 3 0 0;";
        CheeseFirst x = Due.of(half);
        x.aged();
        x.shown(1);
        thinks("1 of 4", x, 0, 1, 4);
        thinks("3 of 4", x, 1, 3, 4);
        x.shown(0);
        thinks("9 of 30", x, 0, 3, 10);
        thinks("21 of 30", x, 1, 7, 10);
        x = Due.of("sort 0 0 0 0 whole 5 0 0 cut 0 0 0 sign 0 10 0 0;");
        x.aged();
        x.shown(1);
        thinks("SIGN 10: surely", x, 1, 1, 1);
        x.thought(0);
        x.aged();
        x.shown(0);
        thinks("SIGN 0: surely", x, 0, 1, 1);
        x = Due.of("sort 0 0 0 0 whole 5 5 5 cut 0 0 0 sign 1 2 3 4;");
        for (int i = 0; i < 3; i++) x.aged();
        x.shown(1);
        // weights 1, 3, 3, 1 times 1, 2, 3, 4
        thinks("1 of 20", x, 0, 1, 20);
        thinks("6 of 20", x, 1, 3, 10);
        thinks("9 of 20", x, 2, 9, 20);
        thinks("4 of 20", x, 3, 1, 5);
    }

    private void madeLeast() {
        due.sentence("Behind each all four are made least (by their greatest common part)");
        CheeseFirst x = Due.of("sort 0 0 0 0 whole 0 0 0 cut 0 0 0 sign 5 5 5 5;");
        for (int i = 0; i < 40; i++) due.due("AGED, weights 10 and 0", x.aged(), 1);
        for (int i = 0; i < 40; i++) due.due("SHOWN, weights 5 and 0", x.shown(i % 2), 1);
        thinks("still 1", x, 0, 1, 1);
        x = Due.of("sort 0 0 0 0 whole 5 5 5 cut 0 0 0 sign 6 6 6 6;");
        for (int i = 0; i < 3; i++) x.aged();
        for (int i = 0; i < 40; i++) due.due("SHOWN, weights 6, 18, 18, 6", x.shown(1), 1);
        thinks("3 of 8", x, 2, 3, 8);
    }

    private void full() {
        due.sentence("FULL: one would be above 1000000000000");
        CheeseFirst x = Due.of("sort 1 0 0 0 whole 5 0 0 cut 0 0 0 sign 10 1 0 0;");
        x.aged();
        for (int i = 0; i < 12; i++) due.due("SHOWN " + i, x.shown(1), 1);
        thinks("1000000000000 is not above it", x, 0, 1000000000000L, 1000000000001L);
        due.due("ten times that is", x.shown(1), -3);
        thinks("nothing changes", x, 0, 1000000000000L, 1000000000001L);
        due.due("not SHOWN: 0 and 9 are made least", x.shown(0), 1);
        thinks("surely", x, 1, 1, 1);
        x = Due.of("sort 1 0 0 0 whole 1 0 0 cut 0 0 0 sign 1 10 0 0;");
        x.aged();
        for (int i = 0; i < 11; i++) x.shown(1);
        thinks("9 and 100000000000", x, 0, 9, 100000000009L);
        due.due("81 and 1000000000009", x.aged(), -3);
        thinks("nothing changes", x, 0, 9, 100000000009L);
        due.due("9 and 1000000000000", x.shown(1), 1);
        x = Due.of("sort 1 0 0 0 whole 1 0 0 cut 0 0 0 sign 9 9 0 0;");
        for (int i = 0; i < 12; i++) due.due("AGED " + i, x.aged(), 1);
        due.due("9 to the 13th", x.aged(), -3);
        thinks("nothing changes", x, 0, 282429536481L, 1000000000000L);
        due.due("made least ahead of that: nine times both", x.shown(1), 1);
        thinks("the same", x, 0, 282429536481L, 1000000000000L);
    }

    private void fullAtEachStep() {
        due.sentence("one would be above");
        String[] signs = {"10 1 1 1", "1 10 1 1", "1 1 10 1", "1 1 1 10"};
        int[] shares = {1, 3, 3, 1};
        for (int step = 0; step < 4; step++) {
            CheeseFirst x = Due.of("sort 1 0 0 0 whole 5 5 5 cut 0 0 0 sign " + signs[step] + ";");
            for (int i = 0; i < 3; i++) x.aged();
            int often = shares[step] == 1 ? 12 : 11;
            for (int i = 0; i < often; i++) due.due("SHOWN " + i, x.shown(1), 1);
            due.due("FULL by STEP " + step, x.shown(1), -3);
        }
    }

    private void allWouldBeNought() {
        due.sentence("(SHOWN by which all would be 0: STATE.)");
        CheeseFirst x = Due.of("sort 0 0 0 0 whole 5 0 0 cut 0 0 0 sign 0 10 0 0;");
        due.due("SIGN 0, SHOWN", x.shown(1), -2);
        thinks("nothing changes", x, 0, 1, 1);
        due.due("SIGN 0, not SHOWN", x.shown(0), 1);
        x.aged();
        due.due("one of them would not", x.shown(1), 1);
        due.due("SIGN 10, not SHOWN", x.shown(0), -2);
        thinks("nothing changes", x, 1, 1, 1);
        due.due("SIGN 10, SHOWN", x.shown(1), 1);
    }

    private void thinking() {
        due.sentence("THOUGHT: how likely a STEP is; its mean GOOD");
        CheeseFirst x = Due.of("sort 99 0 1 50 whole 5 5 5 cut 0 0 0 sign 0 0 0 10;");
        thinks("mean", x, 4, 99, 1);
        x.aged();
        thinks("mean of 99 and 0", x, 4, 99, 2);
        x.aged();
        thinks("mean of 99, 0, 0, 1", x, 4, 25, 1);
        x.aged();
        // weights 1, 3, 3, 1: 99 and 3 and 50
        thinks("mean of eight", x, 4, 19, 1);
        x.shown(1);
        thinks("mean", x, 4, 50, 1);
        CheeseFirst nought = Due.of("sort 0 0 0 0 whole 3 0 0" + CUTS);
        nought.aged();
        thinks("a mean of 0", nought, 4, 0, 1);
    }

    private void kinds() {
        due.sentence("KINDS are over one another: 0 RULE; 1 OLD, 2 BEST, 4 SAVE (each under RULE); 3 LOOK (under BEST); 5 WORST (under OLD)");
        CheeseFirst x = Due.of("sort 7 20 30 40 whole 0 0 0 cut 0 0 0 sign 6 2 5 10;wheel 0 1;");
        int[] notes = {1, 1, 7, 13, 1, 3};
        for (int kind = 0; kind <= 5; kind++) due.due("note(" + kind + ", 0)", x.note(kind, 0), notes[kind]);
        due.sentence("NOTE of a WHEEL as if of a KIND (numbers in brackets come to THE TRACE as often as note() asks that body; "
                + "\"up\" is what the KIND above does)");
        due.due("1, 11, 101, 1101, 10001, 100011", x.trace(), 111226);
        ofKind(0, "RULE PORTIONS left (1)", 1, 1, 2, 3, 0, 0);
        ofKind(1, "OLD up, and its STEP (10)", 11, 1, 3, 6, 2, 3);
        ofKind(2, "BEST up times GOOD now (100)", 101, 7, 40, 120, 0, 0);
        ofKind(3, "LOOK up, and SIGN of its STEP (1000)", 1101, 13, 42, 130, 5, 10);
        ofKind(4, "SAVE up less its number (10000)", 10001, 1, 1, 1, -2, -1);
        ofKind(5, "WORST three times up (100000)", 100011, 3, 9, 18, 6, 9);
    }

    /** NOTES of WHEELS that stand in five ways, and what each brings to THE TRACE. */
    private void ofKind(int kind, String sentence, int trace, int... notes) {
        due.sentence(sentence);
        CheeseFirst x = Due.of("sort 7 20 30 40 whole 0 0 0 cut 0 0 0 sign 6 2 5 10;wheel 0 1;wheel 0 2;wheel 0 3;");
        int[][] ways = {{0, 0, 1}, {1, 1, 2}, {2, 3, 3}, {2, 2, 0}, {1, 3, 0}};
        for (int i = 0; i < ways.length; i++) {
            int w = ways[i][0];
            x.place(w, ways[i][1], ways[i][2]);
            due.due("note(" + kind + ", " + w + ")", x.note(kind, w), notes[i]);
            due.due("trace()", x.trace(), (i + 1) * trace);
        }
    }

    private void stands() {
        due.sentence("STANDS: upper (what = 0), lower number (1). -1: BAD");
        CheeseFirst x = Due.of("sort 0 0 0 0 whole 1 1 1" + CUTS + "wheel 0 1;wheel 0 1;");
        due.due("stands(1, 1, 0, 0)", x.stands(1, 1, 0, 0), 9);
        due.due("stands(1, 1, 0, 1)", x.stands(1, 1, 0, 1), 10);
        for (int what : NEITHER_0_NOR_1) due.due("what " + what, x.stands(0, 0, 0, what), -1);
        for (int step : new int[] {-1, 4, 5, LEAST, MOST}) due.due("STEP " + step, x.stands(0, 0, step, 0), -1);
        for (int n : new int[] {-1, 9, 10, LEAST, MOST}) due.due("n " + n, x.stands(0, n, 0, 0), -1);
        for (int w : new int[] {-1, 2, 3, LEAST, MOST}) due.due("WHEEL " + w, x.stands(w, 0, 0, 0), -1);
        due.due("no WHEELS", new CheeseFirst().stands(0, 0, 0, 0), -1);
    }

    private void thought() {
        due.sentence("THE THOUGHT is of a SORT, anew: 1. BAD");
        String sort = "sort 5 0 0 0 whole 1 1 1" + CUTS;
        CheeseFirst x = Due.of(sort + sort + sort + "sort 9 0 0 0 whole 1 1 1" + CUTS);
        x.aged();
        due.due("the same SORT", x.thought(0), 1);
        thinks("anew", x, 0, 1, 1);
        x.aged();
        due.due("the last SORT", x.thought(3), 1);
        due.due("its SORT", x.count(5), 3);
        thinks("anew", x, 4, 9, 1);
        x.aged();
        for (int s : new int[] {-1, 4, 5, LEAST, MOST}) due.due("thought(" + s + ")", x.thought(s), -1);
        due.due("nothing changes", x.count(5), 3);
        thinks("nothing changes", x, 0, 9, 10);
        CheeseFirst one = Due.of(sort);
        due.due("a SORT that there is not", one.thought(1), -1);
        due.due("no SORT at all", new CheeseFirst().thought(0), -1);
    }

    private void aged() {
        due.sentence("AGED: 1. FULL; STATE: there is no SORT");
        CheeseFirst none = new CheeseFirst();
        due.due("no SORT", none.aged(), -2);
        Due.read(none, "weeks 3;");
        due.due("no SORT in THE CELLAR", none.aged(), -2);
        Due.read(none, "sort 0 0 0 0 whole 1 1 1" + CUTS);
        due.due("a SORT", none.aged(), 1);
        Due.read(none, "");
        due.due("no SORT any more", none.aged(), -2);
    }

    private void shown() {
        due.sentence("SHOWN (1) or not (0): 1. BAD; STATE; FULL");
        CheeseFirst x = new CheeseFirst();
        for (int v : NEITHER_0_NOR_1) due.due("no SORT, shown(" + v + ")", x.shown(v), -1);
        due.due("no SORT, shown(0)", x.shown(0), -2);
        due.due("no SORT, shown(1)", x.shown(1), -2);
        Due.read(x, "sort 0 0 0 0 whole 1 1 1 cut 0 0 0 sign 5 5 5 5;");
        due.due("shown(0)", x.shown(0), 1);
        due.due("shown(1)", x.shown(1), 1);
        for (int v : NEITHER_0_NOR_1) due.due("shown(" + v + ")", x.shown(v), -1);
    }

    private void thinks() {
        due.sentence("THOUGHT: how likely a STEP (0 .. 3), the mean GOOD (4): upper (what = 0), lower number (1), in least terms. "
                + "-1: BAD, or there is no SORT");
        CheeseFirst x = Due.of("sort 1 2 3 4 whole 10 10 10" + CUTS);
        for (int i = 0; i < 3; i++) x.aged();
        thinks("STEP 3", x, 3, 1, 1);
        thinks("mean GOOD", x, 4, 4, 1);
        for (int step : new int[] {-1, 5, 6, LEAST, MOST}) due.due("STEP " + step, x.thinks(step, 0), -1);
        for (int what : NEITHER_0_NOR_1) due.due("what " + what, x.thinks(0, what), -1);
        for (int step = 0; step <= 4; step++) {
            for (int what = 0; what <= 1; what++) due.due("no SORT", new CheeseFirst().thinks(step, what), -1);
        }
    }

    private void note() {
        due.sentence("NOTE. NO: BAD");
        CheeseFirst x = Due.of("sort 7 20 30 40 whole 0 0 0 cut 0 0 0 sign 6 2 5 10;wheel 0 1;wheel 0 2;");
        for (int kind : new int[] {-1, 6, 7, LEAST, MOST}) due.due("note(" + kind + ", 0)", x.note(kind, 0), NO);
        for (int kind = 0; kind <= 5; kind++) {
            for (int w : new int[] {-1, 2, 3, LEAST, MOST}) due.due("note(" + kind + ", " + w + ")", x.note(kind, w), NO);
        }
        due.due("no WHEELS", new CheeseFirst().note(0, 0), NO);
        due.due("no body was asked", x.trace(), 0);
    }

    private void trace() {
        due.sentence("THE TRACE.");
        CheeseFirst x = Due.of("sort 7 20 30 40 whole 0 0 0 cut 0 0 0 sign 6 2 5 10;wheel 0 1;");
        due.due("at first", x.trace(), 0);
        for (int kind = 0; kind <= 5; kind++) x.note(kind, 0);
        due.due("one of each KIND", x.trace(), 111226);
        due.due("asked again", x.trace(), 111226);
    }

    private void calls() {
        due.sentence("An object is used for at most 512 calls after it has been made");
        CheeseFirst x = Due.of("sort 7 20 30 40 whole 0 0 0 cut 0 0 0 sign 6 2 5 10;wheel 0 1;");
        // ten calls were made: clear(), eight of type(), cellar()
        for (int i = 10; i < 511; i++) x.note(5, 0);
        due.due("the 512th", x.trace(), 501L * 100011);
        CheeseFirst lots = new CheeseFirst();
        for (int i = 0; i < 511; i++) lots.lot(i);
        due.due("the 512th", lots.lot(0), 510);
    }
}
