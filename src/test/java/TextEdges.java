/** Sentences of '1 SORTS' that name an edge, and promises 1 to 7 and 31: what a text may tell, and its FAULT. */
final class TextEdges {
    private static final int MOST = Integer.MAX_VALUE;
    private static final int LEAST = Integer.MIN_VALUE;
    private static final String SORT = "sort 1 2 3 4 whole 1 2 3 cut 4 5 6 sign 7 8 9 10;";
    private static final String[] SORT_TOKENS = SORT.replace(";", " ;").split(" ");
    // where the 14 numbers of a SORT stand among its TOKENS
    private static final int[] TRAIT_AT = {1, 2, 3, 4, 6, 7, 8, 10, 11, 12, 14, 15, 16, 17};

    private final Due due;

    TextEdges(Due due) {
        this.due = due;
    }

    void run() {
        sorts();
        wheelsAndWeeks();
        bytesOfTheCellar();
        items();
        sortItem();
        otherItems();
        toldAgain();
        tokens();
        faultOfTokens();
        faultsNamed();
        faultOfBytes();
        numbersTooGreat();
        endsTooEarly();
        newObject();
        type();
        clear();
        cellar();
        sort();
        wheel();
        week();
        count();
    }

    /** The TOKEN between the two others is the FAULT. */
    private void fault(String ahead, String token, String behind) {
        String text = ahead + token + behind;
        CheeseFirst x = new CheeseFirst();
        due.due("cellar of '" + text + "'", Due.read(x, text), -10 - ahead.length());
        due.due("bytes of '" + text + "' behind it", x.count(4), text.length());
    }

    private void reads(String text, int items) {
        due.due("cellar of '" + text + "'", Due.read(new CheeseFirst(), text), items);
    }

    private static String join(String[] tokens, int from, int end) {
        StringBuilder b = new StringBuilder();
        for (int i = from; i < end; i++) b.append(tokens[i]).append(' ');
        return b.toString();
    }

    /** A SORT with another TOKEN at one place: what is ahead of it, and what is behind it. */
    private static String aheadOf(int token) {
        return join(SORT_TOKENS, 0, token);
    }

    private static String behind(int token) {
        return " " + join(SORT_TOKENS, token + 1, SORT_TOKENS.length);
    }

    private void traits(int from, int end, int most) {
        for (int trait = from; trait < end; trait++) {
            int token = TRAIT_AT[trait];
            for (int number : new int[] {0, 1, most - 1, most}) {
                CheeseFirst x = Due.of(aheadOf(token) + number + behind(token));
                due.due("sort(0, " + trait + ")", x.sort(0, trait), number);
            }
            fault(aheadOf(token), "" + (most + 1), behind(token));
        }
    }

    private void sorts() {
        due.sentence("(4 at most) have four STEPS 0 .. 3");
        CheeseFirst x = Due.of(SORT + SORT + SORT + "sort 5 6 7 8" + SORT.substring(12));
        due.due("four SORTS", x.count(0), 4);
        due.due("SORT 3 at STEP 0", x.sort(3, 0), 5);
        due.due("SORT 3 at STEP 3", x.sort(3, 3), 8);
        fault(SORT + SORT + SORT + SORT, "sort", SORT.substring(4));
        due.sentence("GOOD of each (0 .. 99)");
        traits(0, 4, 99);
        due.sentence("WHOLE and CUT of STEPS 0, 1, 2 (tenths 0 .. 10");
        traits(4, 10, 10);
        due.sentence("SIGN of each (tenths");
        traits(10, 14, 10);
    }

    private void wheelsAndWeeks() {
        due.sentence("WHEELS 0 .. (3 at most) are of a SORT, have N PORTIONS (1 .. 3)");
        CheeseFirst x = Due.of(SORT + SORT + "wheel 1 1;wheel 0 2;wheel 1 3;");
        due.due("three WHEELS", x.count(1), 3);
        int[] sorts = {1, 0, 1};
        for (int w = 0; w < 3; w++) {
            due.due("SORT of WHEEL " + w, x.wheel(w, 0), sorts[w]);
            due.due("N of WHEEL " + w, x.wheel(w, 1), w + 1);
            due.due("PORTIONS of WHEEL " + w, x.wheel(w, 3), w + 1);
        }
        fault(SORT + "wheel 0 1;wheel 0 1;wheel 0 1;", "wheel", " 0 1;");
        fault(SORT + "wheel 0 ", "0", ";");
        fault(SORT + "wheel 0 ", "4", ";");
        due.sentence("they are at STEP 0 at first");
        for (int w = 0; w < 3; w++) due.due("STEP of WHEEL " + w, x.wheel(w, 2), 0);
        due.sentence("THE WINTER has W WEEKS (1 .. 8; 6 at first)");
        for (int w = 1; w <= 8; w++) due.due("W", Due.of("weeks " + w + ";").count(2), w);
        fault("weeks ", "0", ";");
        fault("weeks ", "9", ";");
        fault("weeks ", "10", ";");
        due.due("W of a new object", new CheeseFirst().count(2), 6);
        x = Due.of("weeks 3;");
        Due.read(x, "open 1;");
        due.due("W of a CELLAR that tells none", x.count(2), 6);
    }

    private void bytesOfTheCellar() {
        due.sentence("THE CELLAR is a text (400 bytes at most)");
        CheeseFirst x = Due.of("open 1;" + " ".repeat(386) + "open 2;");
        due.due("the 400th byte is read, too", x.count(3), 2);
        x = new CheeseFirst();
        Due.type(x, "open 1;" + " ".repeat(393));
        due.due("byte 401", x.type(' ', 1), -3);
        due.due("400 bytes", x.cellar(), 1);
        reads(" ".repeat(400), 0);
        fault("", ";", ";".repeat(399));
        fault("open 1;", ";", ";".repeat(392));
        fault("", "1", " 1".repeat(199));
        reads("open 3;".repeat(57), 57);
        due.sentence("read byte by byte, blanks (32) between TOKENS");
        reads("  weeks   3  ;  open  2 ;   ", 2);
        reads("weeks 3;open 2;", 2);
        reads("weeks3;open2;", 2);
        reads("", 0);
        reads("   ", 0);
        fault("", "we", " eks 3;");
        fault("price 0 1 ", "0", ";");
        for (int b = 0; b < 256; b++) {
            String sign = "" + (char) b;
            if (b != ' ') fault("open 1;", sign, "open 2;");
        }
        reads("open 1; open 2;", 2);
    }

    private void items() {
        due.sentence("ITEMS, each ended by ;");
        reads("open 1;", 1);
        fault("open 1", "", "");
        fault("open 1 ", "open", " 1;");
        fault("open 1;", ";", "");
        fault("", ";", "open 1;");
        fault("weeks 3 ", "warm", " 0 1;");
        fault(SORT.substring(0, SORT.length() - 1) + " ", "wheel", " 0 1;");
        fault(SORT + "wheel 0 1 ", "open", " 1;");
        fault("warm 0 1 ", "price", " 0 1;");
        fault("price 0 1 ", "warm", " 0 1;");
        due.sentence("weeks W (the first of all, if it is told)");
        reads("weeks 3;open 1;", 2);
        reads("   weeks 3;", 1);
        reads("open 1;", 1);
        for (String item : new String[] {"open 1;", SORT, SORT + "wheel 0 1;", "warm 0 1;", "price 0 1;", "weeks 3;"}) {
            fault(item, "weeks", " 3;");
        }
    }

    private void sortItem() {
        due.sentence("sort g g g g whole x x x cut x x x sign x x x x");
        reads(SORT, 1);
        for (int token = 1; token < SORT_TOKENS.length; token++) {
            // a TOKEN is left out: the next one can't stand there, but for numbers of one row, where the last is missed
            int next = token + 1;
            boolean number = Character.isDigit(SORT_TOKENS[token].charAt(0));
            while (number && Character.isDigit(SORT_TOKENS[next].charAt(0))) next++;
            boolean last = next == SORT_TOKENS.length;
            String between = join(SORT_TOKENS, token + 1, next);
            fault(aheadOf(token) + between, last ? "" : SORT_TOKENS[next], last ? "" : behind(next));
        }
        for (int token : new int[] {5, 9, 13, 18}) {
            // one number too many at the end of each row
            fault(aheadOf(token), "1", " " + SORT_TOKENS[token] + behind(token));
        }
        fault("sort 1 2 3 4 ", "cut", " 4 5 6 whole 1 2 3 sign 7 8 9 10;");
        fault("sort 1 2 3 4 whole 1 2 3 ", "sign", " 7 8 9 10 cut 4 5 6;");
        fault("sort ", "whole", " 1 2 3 cut 4 5 6 sign 7 8 9 10;");
        fault("sort 1 2 3 4 whole 1 2 3 ", "whole", " 4 5 6 sign 7 8 9 10;");
    }

    private void otherItems() {
        due.sentence("wheel S N (a SORT told ahead)");
        fault("wheel ", "0", " 1;");
        fault("wheel ", "0", " 1;" + SORT);
        fault(SORT + "wheel ", "1", " 1;" + SORT);
        reads(SORT + "wheel 0 1;" + SORT + "wheel 1 1;", 4);
        reads(SORT + SORT + SORT + SORT + "wheel 3 1;", 5);
        fault(SORT + SORT + SORT + SORT + "wheel ", "4", " 1;");
        fault(SORT + "wheel 0", ";", "");
        fault(SORT + "wheel 0 1 ", "1", ";");
        due.sentence("open M (WHEELS that may be OPEN at once, 1 .. 3; 3 at first)");
        for (int m = 1; m <= 3; m++) due.due("M", Due.of("open " + m + ";").count(3), m);
        fault("open ", "0", ";");
        fault("open ", "4", ";");
        fault("open ", ";", "");
        fault("open 1 ", "2", ";");
        due.due("M of a new object", new CheeseFirst().count(3), 3);
        CheeseFirst x = Due.of("open 1;");
        Due.read(x, "weeks 1;");
        due.due("M of a CELLAR that tells none", x.count(3), 3);
        due.sentence("warm T A (WEEK T, 0 .. 7: A tenths more, 0 .. 5, for all that is above 0; 0 at first)");
        ofWeeks("warm", 0, 5);
        due.sentence("price T P (of WEEK T, 0 .. 99 coins; 0 at first)");
        ofWeeks("price", 1, 99);
    }

    private void ofWeeks(String word, int what, int most) {
        for (int t = 0; t < 8; t++) {
            CheeseFirst x = Due.of("weeks 1;" + word + " " + t + " " + most + ";");
            for (int other = 0; other < 8; other++) {
                due.due("week(" + other + ", " + what + ")", x.week(other, what), other == t ? most : 0);
                due.due("week(" + other + ", " + (1 - what) + ")", x.week(other, 1 - what), 0);
                due.due("at first", new CheeseFirst().week(other, what), 0);
            }
            Due.read(x, "weeks 1;");
            due.due("of a CELLAR that tells none", x.week(t, what), 0);
        }
        reads(word + " 0 0;", 1);
        fault(word + " ", "8", " 1;");
        fault(word + " ", "99", " 1;");
        fault(word + " 7 ", "" + (most + 1), ";");
        fault(word + " 7", ";", "");
        fault(word + " 7 1 ", "1", ";");
        fault(word + " ", ";", "");
    }

    private void toldAgain() {
        due.sentence("(told again, what is told later counts)");
        due.due("open", Due.of("open 1;open 3;open 2;").count(3), 2);
        due.due("warm", Due.of("warm 3 5;warm 3 2;").week(3, 0), 2);
        due.due("warm, 0 later", Due.of("warm 3 5;warm 3 0;").week(3, 0), 0);
        due.due("price", Due.of("price 3 99;price 4 1;price 3 7;").week(3, 1), 7);
        due.due("price, 0 later", Due.of("price 3 99;price 3 0;").week(3, 1), 0);
        due.due("each is an ITEM", Due.read(new CheeseFirst(), "open 1;open 1;warm 0 1;warm 0 1;"), 4);
    }

    private void tokens() {
        due.sentence("TOKENS are words of letters a .. z (weeks, sort, whole, cut, sign, wheel, open, warm, price), NUMBERS and ;");
        for (String word : new String[] {"weeks", "sort", "whole", "cut", "sign", "wheel", "open", "warm", "price"}) {
            boolean begins = !word.equals("whole") && !word.equals("cut") && !word.equals("sign");
            // behind a word that may begin an ITEM the text is too short; one that may not is the FAULT itself
            String text = SORT + (word.equals("weeks") ? "" : word);
            if (word.equals("weeks")) fault("weeks", "", "");
            else fault(begins ? text : SORT, begins ? "" : word, "");
            fault("", word + "z", " 1;");
            fault("", "a" + word, " 1;");
            fault("", word.substring(1), " 1;");
            fault("", word.substring(0, word.length() - 1), " 1;");
            for (int i = 0; i < word.length(); i++) {
                String other = word.substring(0, i) + "x" + word.substring(i + 1);
                fault("", other, " 1;");
            }
        }
        fault("", "1", ";");
        fault("", "O", "PEN 1;");
        fault("open 1", "x", ";");
    }

    private void faultOfTokens() {
        due.sentence("FAULT: the place of the first byte of the first TOKEN that can't stand there");
        fault("open ", "4", ";weeks 9;");
        fault("open 1;", "x", ";open 4;");
        fault("open ", "open", ";#");
        fault("   open   ", "77", "   ;");
        fault("open 1;", "whole", " 1;");
        fault("open 1;", "cut", " 1;");
        fault("open 1;", "sign", " 1;");
        fault("open 1;", "12", ";");
        fault(" ".repeat(399), ";", "");
    }

    private void faultsNamed() {
        due.sentence("a weeks behind another ITEM");
        fault("weeks 3;", "weeks", " 4;");
        fault("open 1;", "weeks", "");
        due.sentence("a fifth sort");
        fault(SORT + SORT + SORT + SORT, "sort", "");
        fault(SORT + SORT + "open 1;" + SORT + SORT + "open 1;", "sort", " x");
        due.sentence("a fourth wheel");
        fault(SORT + "wheel 0 1;wheel 0 1;open 1;wheel 0 1;", "wheel", "");
        fault(SORT + "wheel 0 1;wheel 0 1;wheel 0 1;", "wheel", " 7 x");
        due.sentence("a SORT that there is not yet");
        fault(SORT + SORT + SORT + "wheel ", "3", " 1;");
        fault(SORT + SORT + SORT + "wheel ", "99", " 1;");
        due.sentence("a NUMBER beyond what it may be, too");
        fault(SORT + "wheel 0 ", "99", ";");
        fault("weeks ", "99", ";");
        fault("open ", "99", ";");
        fault("warm 0 ", "99", ";");
    }

    private void faultOfBytes() {
        due.sentence("of a byte that begins none");
        for (int b = 0; b < 256; b++) {
            String sign = "" + (char) b;
            boolean begins = b == ' ' || b == ';' || b >= '0' && b <= '9' || b >= 'a' && b <= 'z';
            if (!begins) {
                fault("", sign, "");
                fault("open ", sign, "1;");
                fault("open 1", sign, ";");
                fault("open", sign, "1;");
            }
        }
        due.sentence("a word that is none of these");
        fault("", "x", "");
        fault("", "cheese", " 1;");
        fault("", "openopen", " 1;");
        fault("sort 1 2 3 4 ", "hole", " 1");
        fault("open ", "one", ";");
        fault("", "a".repeat(400), "");
    }

    private void numbersTooGreat() {
        due.sentence("a NUMBER above 99 or with a 0 ahead of others, that TOKEN's");
        reads("price 0 99;", 1);
        reads("price 0 0;", 1);
        // the greater ones are 1 again, if they are counted in an int or a long that wraps
        for (String number : new String[] {"100", "101", "110", "999", "1000", "4294967297", "18446744073709551617"}) {
            fault("price 0 ", number, ";");
            fault("open ", number, ";");
            fault("open 1;", number, ";");
        }
        fault("open ", "1".repeat(395), "");
        for (String number : new String[] {"00", "01", "09", "001", "010", "000"}) {
            fault("price 0 ", number, ";");
            fault("open ", number, ";");
            fault("warm ", number, " 1;");
        }
        fault("sort 1 2 3 4 whole 1 2 3 cut 4 5 6 sign 7 8 9 ", "010", ";");
    }

    /** A whole text, cut off behind each of its bytes: within a word that is the FAULT, else the text's length is. */
    private void endsTooEarly() {
        due.sentence("the text's length, if it ends too early");
        String text = "weeks 8;sort 10 20 30 40 whole 1 2 10 cut 4 5 6 sign 7 8 9 10;wheel 0 3;open 2;warm 7 5;price 7 99;";
        int items = 0;
        for (int end = 1; end <= text.length(); end++) {
            if (text.charAt(end - 1) == ';') {
                items++;
                reads(text.substring(0, end), items);
                continue;
            }
            int from = end;
            while (from > 0 && Character.isLetter(text.charAt(from - 1))) from--;
            boolean within = from < end && Character.isLetter(text.charAt(end));
            int place = within ? from : end;
            fault(text.substring(0, place), text.substring(place, end), "");
            if (!within) fault(text.substring(0, end) + "   ", "", "");
        }
    }

    private void newObject() {
        due.sentence("As told; THE LOT is 1; THE THOUGHT is of SORT 0");
        CheeseFirst x = new CheeseFirst();
        int[] counts = {0, 0, 6, 3, 0, 0};
        for (int what = 0; what < 6; what++) due.due("count(" + what + ")", x.count(what), counts[what]);
        for (int what = 0; what < 7; what++) due.due("now(" + what + ")", x.now(what), 0);
        due.due("trace()", x.trace(), 0);
        due.due("sort(0, 0)", x.sort(0, 0), -1);
        due.due("wheel(0, 0)", x.wheel(0, 0), -1);
        due.due("back(0)", x.back(0), -2);
        due.due("back(1)", x.back(1), -2);
        due.due("lot(1)", x.lot(1), 1);
        CheeseFirst y = new CheeseFirst();
        Due.read(y, SORT);
        due.due("the LOT is its own", x.lot(9), 1);
        due.due("nothing is shared", y.lot(1), 1);
        due.due("nothing is shared", x.count(0), 0);
    }

    private void type() {
        due.sentence("The lowest n (1 .. 8) bytes of v, the highest of them first, come to THE TEXT: how many it has");
        CheeseFirst x = new CheeseFirst();
        for (int n : new int[] {0, -1, 9, 10, LEAST, MOST, 256, 257}) due.due("type(.., " + n + ")", x.type(59, n), -1);
        String text = " open 2;";
        for (int n = 1; n <= 8; n++) {
            long v = 0x7878787878787878L;
            for (char c : text.substring(8 - n).toCharArray()) v = v << 8 | c;
            x.clear();
            for (int i = 0; i + n < 8; i++) x.type(text.charAt(i), 1);
            due.due("type(.., " + n + ")", x.type(v, n), 8);
            due.due("cellar()", x.cellar(), 1);
            due.due("count(3)", x.count(3), 2);
        }
        due.due("type(-1, 8)", x.type(-1L, 8), 8);
        due.due("bytes of 255", x.cellar(), -10);
        due.sentence("BAD; FULL");
        for (int n = 1; n <= 8; n++) {
            CheeseFirst full = new CheeseFirst();
            Due.type(full, " ".repeat(401 - n));
            due.due("beyond 400", full.type(59, n), -3);
            due.due("nothing changes", full.count(4), 401 - n);
            due.due("BAD is the first of these", full.type(59, 9), -1);
            if (n > 1) due.due("up to 400", full.type(0x2020202020202020L, n - 1), 400);
            due.due("400 bytes", full.count(4), 400);
            due.due("beyond 400", full.type(59, 1), -3);
            due.due("only blanks came", full.cellar(), 0);
        }
    }

    private void clear() {
        due.sentence("THE TEXT is empty: how many bytes it had");
        CheeseFirst x = Due.of(SORT);
        due.due("clear() of none", x.clear(), 0);
        Due.type(x, "o");
        due.due("clear() of one", x.clear(), 1);
        Due.type(x, "x".repeat(400));
        due.due("clear() of 400", x.clear(), 400);
        due.due("clear() again", x.clear(), 0);
        due.due("count(4)", x.count(4), 0);
        due.due("THE CELLAR stays", x.count(0), 1);
        Due.type(x, "open 1;");
        due.due("what was there is gone", x.cellar(), 1);
    }

    private void cellar() {
        due.sentence("THE TEXT becomes THE CELLAR, and is empty then: how many ITEMS");
        CheeseFirst x = new CheeseFirst();
        due.due("cellar()", Due.read(x, "weeks 2;" + SORT + "wheel 0 1;open 2;warm 0 1;price 0 1;"), 6);
        due.due("count(4)", x.count(4), 0);
        due.due("an empty text", x.cellar(), 0);
        due.due("nothing of the old CELLAR is left: SORTS", x.count(0), 0);
        due.due("WHEELS", x.count(1), 0);
        due.due("W", x.count(2), 6);
        due.due("M", x.count(3), 3);
        due.due("warmth", x.week(0, 0), 0);
        due.due("price", x.week(0, 1), 0);
        due.due("PORTIONS", x.now(4), 0);
        due.sentence("-10 less FAULT: nothing changes");
        due.due("FAULT 0", Due.read(x, ";"), -10);
        due.due("FAULT 399", Due.read(x, " ".repeat(399) + ";"), -409);
        due.due("FAULT 400", Due.read(x, " ".repeat(396) + "open"), -410);
        due.due("THE TEXT stays", x.count(4), 400);
        x.clear();
        Due.type(x, "open");
        due.due("too early", x.cellar(), -14);
        Due.type(x, " 2;");
        due.due("the same text, gone on with", x.cellar(), 1);
        due.due("M", x.count(3), 2);
    }

    private void sort() {
        due.sentence("Of a SORT: 0 .. 3 GOOD, 4 .. 6 WHOLE, 7 .. 9 CUT, 10 .. 13 SIGN. BAD");
        CheeseFirst x = Due.of(SORT + "sort 11 12 13 14 whole 5 6 7 cut 8 9 10 sign 3 2 1 0;");
        int[] second = {11, 12, 13, 14, 5, 6, 7, 8, 9, 10, 3, 2, 1, 0};
        for (int what = 0; what < 14; what++) due.due("sort(1, " + what + ")", x.sort(1, what), second[what]);
        for (int what : new int[] {-1, 14, 15, LEAST, MOST}) due.due("sort(0, " + what + ")", x.sort(0, what), -1);
        for (int i : new int[] {-1, 2, 3, 4, LEAST, MOST}) due.due("sort(" + i + ", 0)", x.sort(i, 0), -1);
        Due.read(x, SORT);
        due.due("SORT 1 is gone", x.sort(1, 0), -1);
    }

    private void wheel() {
        due.sentence("Of a WHEEL: 0 SORT, 1 N, 2 STEP, 3 PORTIONS left, 4 whether it is OPEN, 5 STOPPED, 6 GOOD now, "
                + "7 tenths by which it GOES ON this WEEK. BAD");
        CheeseFirst x = Due.of(SORT + "sort 11 12 13 14 whole 5 6 7 cut 8 9 10 sign 3 2 1 0;wheel 0 3;wheel 1 2;warm 0 1;");
        int[] second = {1, 2, 0, 2, 0, 0, 11, 6};
        for (int what = 0; what < 8; what++) due.due("wheel(1, " + what + ")", x.wheel(1, what), second[what]);
        x.place(1, 2, 1);
        int[] placed = {1, 2, 2, 1, 1, 0, 13, 10};
        for (int what = 0; what < 8; what++) due.due("placed, wheel(1, " + what + ")", x.wheel(1, what), placed[what]);
        x.stop(1);
        due.due("STOPPED", x.wheel(1, 5), 1);
        due.due("STOPPED, tenths", x.wheel(1, 7), 0);
        for (int what : new int[] {-1, 8, 9, LEAST, MOST}) due.due("wheel(0, " + what + ")", x.wheel(0, what), -1);
        for (int w : new int[] {-1, 2, 3, LEAST, MOST}) due.due("wheel(" + w + ", 0)", x.wheel(w, 0), -1);
        Due.read(x, SORT + "wheel 0 1;");
        due.due("WHEEL 1 is gone", x.wheel(1, 0), -1);
    }

    private void week() {
        due.sentence("Of a WEEK (0 .. 7): warmth (what = 0), price (1). BAD");
        CheeseFirst x = Due.of("weeks 1;warm 0 1;warm 7 5;price 0 3;price 7 99;");
        due.due("week(0, 0)", x.week(0, 0), 1);
        due.due("week(0, 1)", x.week(0, 1), 3);
        due.due("week(7, 0)", x.week(7, 0), 5);
        due.due("week(7, 1)", x.week(7, 1), 99);
        for (int t : new int[] {-1, 8, LEAST, MOST}) due.due("week(" + t + ", 0)", x.week(t, 0), -1);
        for (int what : new int[] {-1, 2, LEAST, MOST}) due.due("week(0, " + what + ")", x.week(0, what), -1);
    }

    private void count() {
        due.sentence("0 SORTS, 1 WHEELS, 2 W, 3 M, 4 bytes of THE TEXT, 5 SORT of THE THOUGHT. BAD");
        CheeseFirst x = Due.of("weeks 7;" + SORT + SORT + SORT + "wheel 0 1;wheel 0 1;open 1;");
        Due.type(x, "x".repeat(11));
        x.thought(2);
        int[] counts = {3, 2, 7, 1, 11, 2};
        for (int what = 0; what < 6; what++) due.due("count(" + what + ")", x.count(what), counts[what]);
        for (int what : new int[] {-1, 6, LEAST, MOST}) due.due("count(" + what + ")", x.count(what), -1);
    }
}
