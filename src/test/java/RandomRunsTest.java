import java.util.Random;

/** All promises: runs of 512 calls, each of which must answer as the plain model does. */
public final class RandomRunsTest {
    private static final int RUNS = 1500;
    private static final int CALLS = 512;
    private static final int CALL_COUNT = 28;
    // How often each call is made, in several kinds of runs.
    private static final int[][] WEIGHTS = {
        // a bit of all
        {6, 2, 4, 3, 3, 3, 12, 6, 3, 8, 2, 6, 6, 4, 3, 4, 8, 5, 4, 6, 8, 6, 2, 3, 4, 5, 2, 2},
        // full machines: many pours and divisions, seldom a leave
        {8, 1, 3, 2, 2, 2, 8, 4, 9, 4, 1, 4, 4, 2, 1, 3, 9, 5, 5, 3, 5, 2, 1, 1, 14, 2, 1, 1},
        // swaps and vetoes
        {5, 1, 6, 1, 5, 9, 6, 3, 4, 18, 2, 4, 5, 1, 4, 1, 6, 1, 1, 9, 12, 1, 1, 1, 5, 3, 1, 1},
        // heirs come and leave, odd rounds
        {14, 9, 3, 7, 1, 1, 16, 14, 5, 2, 1, 7, 5, 4, 1, 7, 7, 6, 6, 1, 2, 1, 1, 1, 4, 3, 2, 2},
        // texts that are often wrong, undo and saved states
        {5, 2, 2, 3, 2, 2, 5, 4, 3, 3, 1, 3, 3, 3, 1, 2, 5, 1, 1, 1, 2, 30, 3, 9, 9, 12, 5, 7}};

    private static final Check check = new Check("RandomRunsTest");

    public static void main(String[] args) {
        int[] good = new int[CALL_COUNT];
        for (int run = 0; run < RUNS; run++) {
            new RandomRunsTest(run, good).play();
        }
        check.topic("the runs themselves");
        for (int call = 0; call < CALL_COUNT; call++) {
            check.holds(Calls.NAMES[call] + " was often answered without an error", good[call] > RUNS / 2);
        }
        check.end();
    }

    private final int run;
    private final int[] good;
    private final Random random;
    private final int[] weights;
    private final MarbleHeirs program = new MarbleHeirs();
    private final PlainModel model = new PlainModel();
    private int calls = 0;
    private boolean same = true;

    private RandomRunsTest(int run, int[] good) {
        this.run = run;
        this.good = good;
        random = new Random(run);
        weights = WEIGHTS[run % WEIGHTS.length];
    }

    private void play() {
        int reading = 150 + random.nextInt(150);
        while (same && calls < CALLS - reading) {
            int call = choose();
            if (call == 24 && random.nextInt(8) > 0) {
                write();
            }
            ask(call, argument(call, 0), argument(call, 1), argument(call, 2), argument(call, 3));
        }
        readAll();
    }

    private int choose() {
        int sum = 0;
        for (int weight : weights) {
            sum += weight;
        }
        int at = random.nextInt(sum);
        int call = 0;
        while (at >= weights[call]) {
            at -= weights[call];
            call++;
        }
        return call;
    }

    /** Writes a text of some items, seldom with a wrong character. */
    private void write() {
        ask(22, 0, 0, 0, 0);
        int items = 1 + random.nextInt(5);
        for (int i = 0; i < items; i++) {
            if (random.nextInt(3) > 0) {
                ask(21, '1' + random.nextInt(9), 0, 0, 0);
            }
            ask(21, "rgbywk".charAt(random.nextInt(6)), 0, 0, 0);
            ask(21, '1' + random.nextInt(9), 0, 0, 0);
        }
        if (random.nextInt(10) == 0) {
            ask(21, anyCode(), 0, 0, 0);
        }
    }

    private int anyCode() {
        return random.nextInt(4) > 0 ? "rgbywk123456789".charAt(random.nextInt(15))
                : 30 + random.nextInt(100);
    }

    private int argument(int call, int place) {
        if (random.nextInt(40) == 0) {
            int[] odd = {-1, 6, 7, 9, 10, 13, 40, 120, Integer.MIN_VALUE, Integer.MAX_VALUE};
            return odd[random.nextInt(odd.length)];
        }
        switch (call) {
            case 0: return random.nextInt(place == 0 ? 4 : 6);
            case 2: return random.nextInt(6);
            case 3: return random.nextInt(3);
            case 4: return random.nextInt(9);
            case 5: return random.nextInt(place == 0 ? 4 : 4 + random.nextInt(7));
            case 6: return place == 0 ? random.nextInt(6) : 1 + random.nextInt(9);
            case 9: case 19: return place % 2 == 0 ? heir() : placeInBag();
            case 12: return place == 0 ? heir() : place == 1 ? placeInBag() : random.nextInt(2);
            case 13: return random.nextInt(place == 0 ? 2 + total(1) : 2);
            case 14: return random.nextInt(4);
            case 16: return random.nextInt(13);
            case 17: return place == 0 ? heir() : random.nextInt(3);
            case 20: return random.nextInt(5);
            case 21: return anyCode();
            default: return place == 0 ? heir() : random.nextInt(6);
        }
    }

    private int heir() {
        return random.nextInt(Math.max(1, total(0)));
    }

    private int placeInBag() {
        return random.nextInt(2 + total(2) / Math.max(1, total(0)));
    }

    /** Asks the model, so that the program's calls stay 512. */
    private int total(int what) {
        return model.answer(16, what, 0, 0, 0);
    }

    /** Makes a call of both. */
    private void ask(int call, int a, int b, int c, int d) {
        if (!same || calls >= CALLS) {
            return;
        }
        calls++;
        int due = model.answer(call, a, b, c, d);
        int got = Calls.answer(program, call, a, b, c, d);
        if (got >= 0 || got == MarbleHeirs.NONE) {
            good[call]++;
        }
        same = got == due;
        check.topic("run " + run + ", call " + calls);
        check.due(Calls.NAMES[call] + " of " + a + ", " + b + ", " + c + ", " + d, got, due);
    }

    private void readAll() {
        for (int what = 0; what <= 12; what++) {
            ask(16, what, 0, 0, 0);
        }
        for (int place = 0; place < 6; place++) {
            ask(15, place, 0, 0, 0);
            ask(14, place, 0, 0, 0);
            for (int part = 0; part < 6; part++) {
                ask(11, place, part, 0, 0);
            }
        }
        for (int part = 0; part < 5; part++) {
            ask(20, part, 0, 0, 0);
        }
        for (int undone = 0; undone < 2; undone++) {
            for (int place = 0; place < 40 && calls < CALLS; place++) {
                ask(12, random.nextInt(7), random.nextInt(25), place % 2, 0);
                ask(13, place, place % 2, 0, 0);
            }
            ask(25, 0, 0, 0, 0);
            ask(16, 8, 0, 0, 0);
        }
    }
}
