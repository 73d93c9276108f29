import java.util.Random;

/** Many runs of calls by fixed seeds: CheeseFirst and Plain must answer alike, call by call. */
public final class AlikeTest {
    private static final int RUNS = 700;
    private static final int CALLS = 180;

    private final Due due = new Due();
    private final Random random = new Random(20261118L);
    private CheeseFirst cheese;
    private Plain plain;
    private int run;

    private int below(int n) {
        return random.nextInt(n);
    }

    private boolean once(int in) {
        return below(in) == 0;
    }

    private int tenths() {
        return once(4) ? 0 : once(6) ? 10 : below(11);
    }

    private String sortItem() {
        StringBuilder b = new StringBuilder("sort");
        boolean flat = once(4);
        int level = below(4);
        for (int i = 0; i < 4; i++) b.append(' ').append(flat ? level * 10 : below(100));
        b.append(" whole");
        for (int i = 0; i < 3; i++) b.append(' ').append(tenths());
        b.append(" cut");
        for (int i = 0; i < 3; i++) b.append(' ').append(tenths());
        b.append(" sign");
        for (int i = 0; i < 4; i++) b.append(' ').append(tenths());
        return b.append(';').toString();
    }

    private String cellarText() {
        StringBuilder b = new StringBuilder();
        if (!once(5)) b.append("weeks ").append(1 + below(once(12) ? 8 : 5)).append(';');
        else b.append("weeks 3 ;");
        int sorts = 1 + below(3);
        for (int i = 0; i < sorts; i++) b.append(sortItem());
        int wheels = once(6) ? below(3) : 3;
        for (int i = 0; i < wheels; i++) b.append("wheel ").append(below(sorts)).append(' ').append(1 + below(3)).append(';');
        if (once(2)) b.append(" open ").append(1 + below(3)).append(" ;");
        for (int i = below(4); i > 0; i--) b.append("warm ").append(below(8)).append(' ').append(below(6)).append(';');
        for (int i = below(4); i > 0; i--) b.append("price ").append(below(6)).append(' ').append(below(100)).append(';');
        String text = b.toString();
        return text.length() > 400 ? text.substring(0, text.lastIndexOf(';', 399) + 1) : text;
    }

    private static final String[] ODD = {
        " ", ";", "0", "1", "10", "99", "100", "07", "00", "weeks", "sort", "whole", "cut", "sign", "wheel", "open",
        "warm", "price", "A", "-1", ",", "\u00c8", "\t", "weeks 3;", "wheel 3 1;", "open 4;", "sorts", "c", " 4 ", ""};

    /** A text with a piece changed, left out or put in. */
    private String spoilt(String text) {
        int at = below(text.length() + 1);
        int end = Math.min(text.length(), at + below(4));
        String odd = ODD[below(ODD.length)];
        String got = text.substring(0, at) + odd + text.substring(end);
        return got.length() > 400 ? got.substring(0, 400) : got;
    }

    private void typeBoth(String text) {
        for (long[] call : Due.asCalls(text)) {
            same("type", cheese.type(call[0], (int) call[1]), plain.type(call[0], (int) call[1]));
        }
    }

    private void readBoth(String text) {
        same("clear", cheese.clear(), plain.clear());
        typeBoth(text);
        same("cellar of '" + text + "'", cheese.cellar(), plain.cellar());
    }

    private void same(String call, long got, long want) {
        due.due("run " + run + ": " + call, got, want);
    }

    private void actCall() {
        int w = below(4) == 3 ? below(5) - 1 : below(3);
        switch (below(9)) {
            case 0:
            case 1: same("eat " + w, cheese.eat(w), plain.eat(w)); break;
            case 2: same("sell " + w, cheese.sell(w), plain.sell(w)); break;
            case 3: if (once(3)) same("stop " + w, cheese.stop(w), plain.stop(w)); break;
            case 4:
            case 5: same("next", cheese.next(), plain.next()); break;
            case 6: {
                int step = below(5) - (once(4) ? 1 : 0);
                int portions = below(5) - (once(4) ? 1 : 0);
                if (once(2)) same("place", cheese.place(w, step, portions), plain.place(w, step, portions));
                break;
            }
            case 7: {
                int v = random.nextInt();
                same("lot", cheese.lot(v), plain.lot(v));
                break;
            }
            default: {
                int image = once(8) ? 2 : below(2);
                if (once(2)) same("keep", cheese.keep(image), plain.keep(image));
                else same("back", cheese.back(image), plain.back(image));
            }
        }
    }

    private void outlookCall() {
        int rule = once(15) ? 5 - 6 * below(2) : below(5);
        int code = once(15) ? 7 - 8 * below(2) : below(7);
        int w = once(10) ? 3 - 4 * below(2) : below(3);
        switch (below(9)) {
            case 0:
            case 1: same("value " + rule, cheese.value(rule), plain.value(rule)); break;
            case 2: same("left " + rule, cheese.left(rule), plain.left(rule)); break;
            case 3: same("choice " + rule, cheese.choice(rule), plain.choice(rule)); break;
            case 4: same("brings " + code, cheese.brings(code), plain.brings(code)); break;
            case 5: if (once(5)) same("play " + rule, cheese.play(rule), plain.play(rule)); break;
            case 6: {
                int k = below(12) - 3;
                same("blind " + k, cheese.blind(k), plain.blind(k));
                break;
            }
            case 7: same("know", cheese.know(), plain.know()); break;
            default: same("spare " + w, cheese.spare(w), plain.spare(w));
        }
    }

    private void thoughtCall() {
        int w = once(10) ? 3 - 4 * below(2) : below(3);
        int n = below(11) - 1;
        int step = below(6) - (once(8) ? 1 : 0);
        int what = once(10) ? 2 - 3 * below(2) : below(2);
        switch (below(7)) {
            case 0:
            case 1: same("stands", cheese.stands(w, n, step, what), plain.stands(w, n, step, what)); break;
            case 2: if (once(6)) same("thought " + w, cheese.thought(w), plain.thought(w)); break;
            case 3: same("aged", cheese.aged(), plain.aged()); break;
            case 4: same("shown " + what, cheese.shown(what), plain.shown(what)); break;
            default: same("thinks", cheese.thinks(step, what), plain.thinks(step, what));
        }
    }

    private void lookCall() {
        int a = below(6) - 1;
        int b = below(16) - 1;
        switch (below(8)) {
            case 0: same("sort", cheese.sort(a, b), plain.sort(a, b)); break;
            case 1: same("wheel", cheese.wheel(a, b), plain.wheel(a, b)); break;
            case 2: same("week", cheese.week(b - 3, a), plain.week(b - 3, a)); break;
            case 3: same("now", cheese.now(b), plain.now(b)); break;
            case 4: same("count", cheese.count(b), plain.count(b)); break;
            case 5: same("note", cheese.note(b - 4, a), plain.note(b - 4, a)); break;
            case 6: same("trace", cheese.trace(), plain.trace()); break;
            default: for (int what = 0; what < 8; what++) same("wheel " + what, cheese.wheel(a, what), plain.wheel(a, what));
        }
    }

    private void oneRun() {
        cheese = new CheeseFirst();
        plain = new Plain();
        String text = cellarText();
        for (int i = 0; i < 6; i++) readBoth(spoilt(text));
        if (!once(20)) readBoth(text);
        for (int i = 0; i < CALLS; i++) {
            int pick = below(40);
            if (pick < 12) actCall();
            else if (pick < 21) outlookCall();
            else if (pick < 31) thoughtCall();
            else if (pick < 39) lookCall();
            else if (once(4)) readBoth(cellarText());
        }
    }

    public static void main(String[] args) {
        AlikeTest test = new AlikeTest();
        int runs = args.length > 0 ? Integer.parseInt(args[0]) : RUNS;
        for (test.run = 0; test.run < runs; test.run++) {
            test.oneRun();
        }
        test.due.end("AlikeTest");
    }
}
