/**
 * All that can be asked of an object, as one text: of two objects that were used alike it is the same.
 * Asking changes the object (IMAGES come back, THE TEXT is read), so an object is asked once, at its end.
 */
final class Seen {
    private final CheeseFirst x;
    private final StringBuilder told = new StringBuilder();

    private Seen(CheeseFirst x) {
        this.x = x;
    }

    static String of(CheeseFirst x) {
        Seen seen = new Seen(x);
        seen.cellar();
        seen.thought();
        seen.winter("now");
        for (int image = 0; image < 2; image++) {
            seen.told.append("back ").append(x.back(image)).append(' ');
            seen.winter("image");
        }
        seen.told.append("read ").append(x.cellar()).append(' ');
        seen.cellar();
        seen.winter("anew");
        return seen.told.toString();
    }

    private void put(long answer) {
        told.append(answer).append(' ');
    }

    private void cellar() {
        told.append("cellar ");
        for (int what = 0; what < 6; what++) put(x.count(what));
        for (int sort = 0; sort < x.count(0); sort++) {
            for (int what = 0; what < 14; what++) put(x.sort(sort, what));
        }
        for (int w = 0; w < 3; w++) {
            put(x.wheel(w, 0));
            put(x.wheel(w, 1));
        }
        for (int t = 0; t < 8; t++) {
            put(x.week(t, 0));
            put(x.week(t, 1));
        }
    }

    private void thought() {
        told.append("thought ");
        for (int step = 0; step < 5; step++) {
            put(x.thinks(step, 0));
            put(x.thinks(step, 1));
        }
    }

    private void winter(String name) {
        told.append(name).append(' ');
        for (int what = 0; what < 7; what++) put(x.now(what));
        for (int w = 0; w < 3; w++) {
            for (int what = 2; what < 8; what++) put(x.wheel(w, what));
        }
        put(x.value(4));
        put(x.blind(-1));
        put(x.trace());
        // THE LOT as it was: what an IMAGE has of it must come by the IMAGE alone
        put(x.lot(-5));
    }
}
