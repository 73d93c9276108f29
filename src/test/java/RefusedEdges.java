import java.util.LinkedHashMap;
import java.util.Map;

/**
 * "Refused, and nothing changes, the first of these: BAD, STATE, FULL": each call that is refused is made on one
 * of two objects that were used alike; then all that can be seen of the two must be alike.
 */
final class RefusedEdges {
    private interface Call {
        long on(CheeseFirst x);
    }

    private static final int NO = CheeseFirst.NO;
    private static final int MOST = Integer.MAX_VALUE;
    private static final int LEAST = Integer.MIN_VALUE;
    private static final String HOUSE = "weeks 3;sort 10 20 30 40 whole 1 2 3 cut 4 5 6 sign 0 1 2 10;"
            + "sort 5 0 99 1 whole 5 5 5 cut 9 9 9 sign 10 1 1 1;wheel 0 3;wheel 1 2;wheel 0 2;open 1;warm 1 2;price 0 9;price 1 99;";

    private final Due due;

    RefusedEdges(Due due) {
        this.due = due;
    }

    void run() {
        due.sentence("Refused, and nothing changes");
        refused("new", badCalls());
        refused("going", badCalls());
        refused("done", badCalls());
        refused("over", badCalls());
        refused("new", newCalls());
        refused("going", goingCalls());
        refused("done", doneCalls());
        refused("over", overCalls());
        refused("full", fullCalls());
        order();
    }

    /** An object that was used so far as its name says. */
    private static CheeseFirst made(String name) {
        CheeseFirst x = new CheeseFirst();
        if (name.equals("new")) {
            Due.type(x, "open 2;");
            return x;
        }
        Due.read(x, HOUSE);
        x.note(5, 0);
        x.sell(2);
        x.keep(0);
        x.next();
        x.thought(1);
        x.aged();
        x.lot(-12345);
        x.stop(2);
        x.place(0, 2, 2);
        if (name.equals("done")) x.eat(0);
        if (name.equals("over")) {
            x.next();
            x.next();
        }
        if (!name.equals("full")) {
            Due.type(x, "open 2;");
            return x;
        }
        Due.type(x, " ".repeat(400));
        for (int i = 0; i < 12; i++) x.aged();
        for (int i = 0; i < 50 && x.shown(1) == 1; i++) x.now(0);
        return x;
    }

    private void refused(String name, Map<String, Call> calls) {
        String want = Seen.of(made(name));
        for (Map.Entry<String, Call> call : calls.entrySet()) {
            CheeseFirst x = made(name);
            String[] words = call.getKey().split(" = ");
            due.due(name + ": " + words[0], call.getValue().on(x), Long.parseLong(words[1]));
            due.alike(name + ": all that is seen behind " + words[0], Seen.of(x), want);
        }
    }

    private static Map<String, Call> badCalls() {
        Map<String, Call> calls = new LinkedHashMap<>();
        for (int n : new int[] {0, 9, LEAST, MOST}) calls.put("type(59, " + n + ") = -1", x -> x.type(59, n));
        for (int w : new int[] {-1, 3, LEAST, MOST}) {
            calls.put("sort(" + w + "..) = -1", x -> x.sort(w == 3 ? 4 : w, 0));
            calls.put("wheel(" + w + "..) = -1", x -> x.wheel(w, 0));
            calls.put("week(" + w + "..) = -1", x -> x.week(w == 3 ? 8 : w, 0));
            calls.put("place(" + w + "..) = -1", x -> x.place(w, 1, 1));
            calls.put("place(0, " + w + "..) = -1", x -> x.place(0, w == 3 ? 4 : w, 1));
            calls.put("place(0, 0, " + w + ") = -1", x -> x.place(0, 0, w == 3 ? 4 : w));
            calls.put("eat(" + w + ") = -1", x -> x.eat(w));
            calls.put("sell(" + w + ") = -1", x -> x.sell(w));
            calls.put("stop(" + w + ") = -1", x -> x.stop(w));
            calls.put("now(" + w + ") = -1", x -> x.now(w == 3 ? 7 : w));
            calls.put("stands(" + w + "..) = -1", x -> x.stands(w, 1, 1, 1));
            calls.put("stands(0, " + w + "..) = -1", x -> x.stands(0, w == 3 ? 9 : w, 1, 1));
            calls.put("thought(" + w + ") = -1", x -> x.thought(w));
            calls.put("note(0, " + w + ") = " + NO, x -> x.note(0, w));
            calls.put("spare(" + w + ") = " + NO, x -> x.spare(w));
        }
        for (int rule : new int[] {-1, 5, LEAST, MOST}) {
            calls.put("value(" + rule + ") = -1", x -> x.value(rule));
            calls.put("left(" + rule + ") = -1", x -> x.left(rule));
            calls.put("choice(" + rule + ") = -1", x -> x.choice(rule));
            calls.put("play(" + rule + ") = -1", x -> x.play(rule));
            calls.put("brings(" + rule + ") = " + NO, x -> x.brings(rule == 5 ? 7 : rule));
            calls.put("blind(" + rule + ") = " + NO, x -> x.blind(rule == 5 ? 8 : rule == -1 ? -3 : rule));
            calls.put("shown(" + rule + ") = -1", x -> x.shown(rule));
            calls.put("thinks(" + rule + "..) = -1", x -> x.thinks(rule, 0));
            calls.put("thinks(0, " + rule + ") = -1", x -> x.thinks(0, rule));
            calls.put("note(" + rule + "..) = " + NO, x -> x.note(rule == 5 ? 6 : rule, 0));
            calls.put("keep(" + rule + ") = -1", x -> x.keep(rule));
            calls.put("back(" + rule + ") = -1", x -> x.back(rule));
            calls.put("count(" + rule + ") = -1", x -> x.count(rule == 5 ? 6 : rule));
        }
        return calls;
    }

    private static Map<String, Call> newCalls() {
        Map<String, Call> calls = new LinkedHashMap<>();
        calls.put("aged() = -2", x -> x.aged());
        calls.put("shown(0) = -2", x -> x.shown(0));
        calls.put("shown(1) = -2", x -> x.shown(1));
        calls.put("back(0) = -2", x -> x.back(0));
        calls.put("back(1) = -2", x -> x.back(1));
        calls.put("brings(0) = " + NO, x -> x.brings(0));
        calls.put("brings(5) = " + NO, x -> x.brings(5));
        return calls;
    }

    /** A text with a FAULT, ahead of which each kind of ITEM stands; then the text is as it was. */
    private static long badCellar(CheeseFirst x) {
        x.clear();
        Due.type(x, "weeks 8;sort 1 1 1 1 whole 1 1 1 cut 1 1 1 sign 1 1 1 1;wheel 0 1;open 3;warm 0 1;price 0 1;x");
        long got = x.cellar();
        x.clear();
        Due.type(x, "open 2;");
        return got;
    }

    private static Map<String, Call> goingCalls() {
        Map<String, Call> calls = new LinkedHashMap<>();
        calls.put("cellar() with a FAULT = -102", RefusedEdges::badCellar);
        calls.put("eat(1), 1 is OPEN = -2", x -> x.eat(1));
        calls.put("eat(2), it has none = -2", x -> x.eat(2));
        calls.put("sell(0), it is cut = -2", x -> x.sell(0));
        calls.put("sell(2), it has none = -2", x -> x.sell(2));
        calls.put("back(1), none was kept = -2", x -> x.back(1));
        calls.put("brings(1), may not be = " + NO, x -> x.brings(1));
        calls.put("brings(3), may not be = " + NO, x -> x.brings(3));
        calls.put("place(1, 1, 3), N is 2 = -1", x -> x.place(1, 1, 3));
        return calls;
    }

    private static Map<String, Call> doneCalls() {
        Map<String, Call> calls = new LinkedHashMap<>();
        calls.put("eat(0), the ACT is done = -2", x -> x.eat(0));
        calls.put("sell(1), the ACT is done = -2", x -> x.sell(1));
        calls.put("brings(0), the ACT is done = " + NO, x -> x.brings(0));
        calls.put("brings(4), the ACT is done = " + NO, x -> x.brings(4));
        return calls;
    }

    private static Map<String, Call> overCalls() {
        Map<String, Call> calls = new LinkedHashMap<>();
        calls.put("next(), over = -2", x -> x.next());
        calls.put("eat(0), over = -2", x -> x.eat(0));
        calls.put("sell(1), over = -2", x -> x.sell(1));
        calls.put("brings(0), over = " + NO, x -> x.brings(0));
        calls.put("blind(0), over = " + NO, x -> x.blind(0));
        calls.put("play(0), over = 0", x -> x.play(0));
        return calls;
    }

    private static Map<String, Call> fullCalls() {
        Map<String, Call> calls = new LinkedHashMap<>();
        calls.put("type(59, 1) = -3", x -> x.type(59, 1));
        calls.put("type(59, 8) = -3", x -> x.type(59, 8));
        calls.put("aged() = -3", x -> x.aged());
        calls.put("shown(1) = -3", x -> x.shown(1));
        return calls;
    }

    private void order() {
        due.sentence("the first of these: BAD (a number is not as told, or there is no such thing), STATE (as told), FULL");
        due.due("type(), BAD and FULL", made("full").type(59, 9), -1);
        due.due("type(), BAD and FULL", made("full").type(59, 0), -1);
        due.due("eat(), BAD and the ACT is done", made("done").eat(3), -1);
        due.due("sell(), BAD and the ACT is done", made("done").sell(-1), -1);
        due.due("eat(), BAD and over", made("over").eat(3), -1);
        due.due("sell(), BAD and over", made("over").sell(3), -1);
        due.due("shown(), BAD and no SORT", made("new").shown(2), -1);
        due.due("shown(), BAD and FULL", made("full").shown(2), -1);
        due.due("back(), BAD and none was kept", made("new").back(2), -1);
        due.sentence("`NO = -1000000`: What none is, where a number may be below 0");
        due.due("NO", CheeseFirst.NO, -1000000);
        CheeseFirst x = made("going");
        due.due("brings()", x.brings(7), -1000000);
        due.due("blind()", x.blind(-3), -1000000);
        due.due("spare()", x.spare(3), -1000000);
        due.due("note()", x.note(6, 0), -1000000);
    }
}
