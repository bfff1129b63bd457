import java.util.Random;

/** Long runs of calls, the same every time, on the class and on the model: each must answer alike. */
public final class ModelTest {
    private static final int RUNS = 1600;
    private static final int CALLS = 150;
    private static final int OUTSIDE_ONE_IN = 40;

    private final Random random;
    private final int packages;
    private final int versions;
    private final int usesMask;
    private final int names;
    private final int[] weights;
    private final BundleHall hall = new BundleHall();
    private final Model model = new Model();
    private final StringBuilder told = new StringBuilder();
    private int tooHard;

    // install, export, need, resolve, start, stop, level, uninstall, update, refresh,
    // register, get, giveBack, unregister, rank, event
    private static final int[] MIXED = {8, 10, 10, 5, 8, 3, 3, 2, 2, 4, 4, 4, 3, 2, 1, 3};
    private static final int[] WIRES = {10, 20, 20, 12, 6, 1, 1, 2, 5, 6, 0, 0, 0, 0, 0, 1};
    private static final int[] LIVES = {8, 6, 5, 2, 14, 4, 8, 2, 3, 6, 2, 2, 1, 1, 0, 5};
    private static final int[] SERVED = {5, 1, 1, 1, 10, 1, 2, 1, 1, 1, 30, 12, 8, 6, 4, 8};
    private static final int[][] KINDS = {MIXED, WIRES, LIVES, SERVED};

    private ModelTest(int seed) {
        random = new Random(seed);
        weights = KINDS[seed % KINDS.length];
        packages = 1 + random.nextInt(8);
        versions = 1 + random.nextInt(10);
        usesMask = random.nextInt(256);
        names = 3 + random.nextInt(4);
    }

    public static void main(String[] args) {
        int tooHard = 0;
        for (int seed = 0; seed < RUNS; seed++) {
            ModelTest run = new ModelTest(seed);
            String fault = run.go();
            if (fault != null) {
                System.out.println("run " + seed + ": " + fault + " after\n" + run.told);
                System.exit(1);
            }
            tooHard += run.tooHard;
        }
        System.out.println(RUNS + " runs answer as the model does; " + tooHard + " calls were too hard");
    }

    /** The first call that is answered in another way, or null. */
    private String go() {
        String early = weights == WIRES ? prepare() : null;
        if (early != null) {
            return early;
        }
        for (int i = 0; i < CALLS; i++) {
            String fault = same(nextCall());
            fault = fault == null ? sameView() : fault;
            if (fault != null) {
                return fault;
            }
        }
        return null;
    }

    /** Full manifests over few packages, which make long searches. */
    private String prepare() {
        int few = 3 + random.nextInt(4);
        for (int i = 0; i < 8; i++) {
            String fault = same("install " + i + " " + (random.nextBoolean() ? i % 6 : random.nextInt(6)) + " 1 0");
            for (int k = 0; k < 3 && fault == null; k++) {
                int uses = random.nextInt(3) == 0 ? 1 << random.nextInt(few) : 0;
                fault = same("export " + i + " " + (random.nextInt(few) + 8 * random.nextInt(2)) + " " + uses);
                String need = "need " + i + " " + random.nextInt(few) + " " + random.nextInt(5) / 4 + " 9";
                fault = fault == null ? same(need + (random.nextInt(6) == 0 ? " optional" : "")) : fault;
            }
            if (fault != null) {
                return fault;
            }
        }
        return null;
    }

    private String same(String call) {
        String want = model.answer(call);
        String got = Script.answer(hall, call);
        told.append(call).append(" -> ").append(want).append('\n');
        tooHard += want.equals("AE") && !call.startsWith("rank") ? 1 : 0;
        return got.equals(want) ? null : call + " answered " + got + ", the model " + want;
    }

    private String sameView() {
        for (int bundle = 0; bundle < 8; bundle++) {
            for (int what = 0; what < 8; what++) {
                String call = "about " + bundle + " " + what;
                if (!Script.answer(hall, call).equals(model.answer(call))) {
                    return call + " is " + Script.answer(hall, call) + ", in the model " + model.answer(call);
                }
            }
        }
        for (int what = 0; what < 6; what++) {
            String call = "count " + what;
            if (!Script.answer(hall, call).equals(model.answer(call))) {
                return call + " is " + Script.answer(hall, call) + ", in the model " + model.answer(call);
            }
        }
        return null;
    }

    private int one(int least, int most) {
        if (random.nextInt(OUTSIDE_ONE_IN) == 0) {
            int[] outside = {least - 1, most + 1, Integer.MIN_VALUE, Integer.MAX_VALUE};
            return outside[random.nextInt(4)];
        }
        return least + random.nextInt(most - least + 1);
    }

    private String nextCall() {
        int all = 0;
        for (int weight : weights) {
            all += weight;
        }
        int drawn = random.nextInt(all);
        int kind = 0;
        while (drawn >= weights[kind]) {
            drawn -= weights[kind];
            kind++;
        }
        return kind < 10 ? lifeCall(kind) : serviceCall(kind);
    }

    private String lifeCall(int kind) {
        int bundle = one(0, 7);
        switch (kind) {
            case 0: return "install " + bundle + " " + one(0, names - 1) + " " + one(1, 5 - random.nextInt(5))
                    + " " + (random.nextInt(3) == 0 ? one(0, 4) : 0);
            case 1: return "export " + bundle + " " + (one(0, packages - 1) + 8 * random.nextInt(versions))
                    + " " + (random.nextInt(20) == 0 ? one(0, 255) : random.nextInt(256) & usesMask);
            case 2: return "need " + bundle + " " + one(0, packages - 1) + " " + one(0, random.nextInt(versions))
                    + " " + one(random.nextInt(versions), versions - 1) + (random.nextInt(4) == 0 ? " optional" : "");
            case 3: return "resolve " + bundle;
            case 4: return "start " + bundle;
            case 5: return "stop " + bundle;
            case 6: return "level " + one(1, 5);
            case 7: return "uninstall " + bundle;
            case 8: return "update " + bundle;
            default: return "refresh";
        }
    }

    private String serviceCall(int kind) {
        int bundle = one(0, 7);
        switch (kind) {
            case 10: return "register " + bundle + " " + one(0, 3) + " " + rank();
            case 11: return "get " + bundle + " " + one(0, 3);
            case 12: return "giveBack " + bundle + " " + one(0, 40);
            case 13: return "unregister " + bundle + " " + one(0, 40);
            case 14: return "rank " + one(0, 3);
            default: return "event";
        }
    }

    private String rank() {
        switch (random.nextInt(12)) {
            case 0: return "1000.0";
            case 1: return "-1000.0";
            case 2: return "NaN";
            case 3: return "1000.0000001";
            case 4: return "0.1";
            default: return "" + (random.nextInt(9) - 4) / 4.0;
        }
    }
}
