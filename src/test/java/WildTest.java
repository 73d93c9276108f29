import java.lang.management.ManagementFactory;
import java.util.Random;

/** Whatever is asked in whatever state: no call throws, every call ends, and one run stays in its room. */
public final class WildTest {
    private static final int CALLS = 512;
    private static final int RUNS = 400;
    // 7.3 million elements of at most 8 bytes are the room; a run on one object stays far below it
    private static final long MOST_BYTES = 4L * 1000 * 1000;

    private static final int[] ODD = {
        Integer.MIN_VALUE, Integer.MIN_VALUE + 1, -1000001, -10, -9, -4, -3, -2, -1, 0, 1, 2, 3, 4, 5, 6, 7, 8, 9, 13, 14, 16, 31, 32, 33,
        64, 400, 4096, 65536, Integer.MAX_VALUE - 1, Integer.MAX_VALUE};

    private static final String[] CELLARS = {
        "", "weeks 1;", "weeks 8;sort 9 9 9 9 whole 1 2 3 cut 4 5 6 sign 0 1 2 3;wheel 0 1;",
        "weeks 8;sort 10 99 50 1 whole 5 3 2 cut 8 6 4 sign 0 1 5 9;sort 30 40 99 2 whole 2 2 9 cut 4 4 9 sign 1 2 3 8;"
            + "sort 60 40 99 70 whole 2 2 9 cut 4 4 9 sign 1 2 3 8;wheel 0 3;wheel 1 3;wheel 2 3;price 0 30;price 1 50;price 7 44;warm 7 5;",
        "weeks 3;sort 0 0 0 0 whole 10 10 10 cut 0 0 0 sign 10 10 10 10;wheel 0 3;wheel 0 3;wheel 0 3;open 1;",
        "sort 99 99 99 99 whole 1 1 1 cut 9 9 9 sign 5 5 5 5;wheel 0 2;wheel 0 2;price 0 99;price 5 99;"};

    private final Random random = new Random(7L);

    private int odd() {
        return random.nextInt(5) == 0 ? random.nextInt() : random.nextInt(2) == 0 ? random.nextInt(4) : ODD[random.nextInt(ODD.length)];
    }

    private long callOne(CheeseFirst x) {
        int a = odd();
        int b = odd();
        switch (random.nextInt(33)) {
            case 0: return x.type(random.nextLong(), a);
            case 1: return x.clear();
            case 2: return x.cellar();
            case 3: return x.sort(a, b);
            case 4: return x.wheel(a, b);
            case 5: return x.week(a, b);
            case 6: return x.place(a, b, odd());
            case 7: return x.eat(a);
            case 8: return x.sell(a);
            case 9: return x.stop(a);
            case 10: return x.next();
            case 11: return x.now(a);
            case 12: return x.lot(a);
            case 13: return x.value(a);
            case 14: return x.left(a);
            case 15: return x.choice(a);
            case 16: return x.brings(a);
            case 17: return x.play(a);
            case 18: return x.blind(a);
            case 19: return x.know();
            case 20: return x.spare(a);
            case 21: return x.stands(a, b, odd(), odd());
            case 22: return x.thought(a);
            case 23: return x.aged();
            case 24: return x.shown(a);
            case 25: return x.thinks(a, b);
            case 26: return x.note(a, b);
            case 27: return x.keep(a);
            case 28: return x.back(a);
            case 29: return x.count(a);
            case 30: return x.trace();
            case 31: return x.back(random.nextInt(2));
            default: return random.nextInt(10) == 0 ? Due.read(x, CELLARS[random.nextInt(CELLARS.length)]) : 0;
        }
    }

    private static long allocated() {
        return ((com.sun.management.ThreadMXBean) ManagementFactory.getThreadMXBean())
                .getThreadAllocatedBytes(Thread.currentThread().getId());
    }

    /** The dearest calls, one after the other, so that no one finds what another has worked out. */
    private static long roomOfDearCalls() {
        long before = allocated();
        CheeseFirst x = new CheeseFirst();
        Due.read(x, CELLARS[3]);
        for (int i = 0; i < CALLS / 4; i++) {
            x.value(i % 5);
            x.left(4 - i % 5);
            x.spare(i % 3);
            x.know();
        }
        return allocated() - before;
    }

    /** Cellars that grow, so that rows which were made for one are too short for the next. */
    private static long roomOfGrowingCellars() {
        String sort = "sort 9 9 9 9 whole 1 2 3 cut 4 5 6 sign 0 1 2 3;";
        long before = allocated();
        CheeseFirst x = new CheeseFirst();
        for (int w = 1; w <= 8; w++) {
            for (int n = 1; n <= 3; n++) {
                Due.read(x, "weeks " + w + ";" + sort + "wheel 0 1;".repeat(Math.min(w, 2)) + "wheel 0 " + n + ";");
                x.value(4);
                x.left(0);
            }
        }
        return allocated() - before;
    }

    private static boolean staysInItsRoom() {
        long dear = roomOfDearCalls();
        long growing = roomOfGrowingCellars();
        System.out.println("a run of dear calls makes " + dear + " bytes, one of growing cellars " + growing);
        return dear < MOST_BYTES && growing < MOST_BYTES;
    }

    public static void main(String[] args) {
        WildTest t = new WildTest();
        for (int run = 0; run < RUNS; run++) {
            CheeseFirst x = new CheeseFirst();
            if (run % 4 != 0) {
                Due.read(x, CELLARS[run % CELLARS.length]);
            }
            for (int i = 0; i < CALLS; i++) {
                t.callOne(x);
            }
        }
        if (!staysInItsRoom()) {
            System.out.println("too much room");
            System.exit(1);
        }
        System.out.println("WildTest: " + RUNS * CALLS + " calls, none threw");
    }
}
