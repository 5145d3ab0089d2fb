import java.util.Random;

/** Runs of 512 calls, chosen by a fixed seed: the class has to answer as the model does. */
final class RandomRunsTest {
    private static final int RUNS = 600;
    private static final int CALLS = 512;
    private static final int FIRST_CALL = 2;
    private static final int LAST_CALL = 27;
    // How far the arguments of a call go; a thousandth of them and of all others go farther.
    private static final int[][] BOUNDS = {{}, {}, {12, 6}, {6, 64}, {6}, {6, 6, 6}, {6, 6}, {6, 6, 25}, {6, 1001},
        {12, 4}, {12, 4}, {6, 2}, {6, 7}, {6, 24}, {6, 12, 1001}, {7}, {64}, {64, 12}, {6, 6, 4}, {64}, {6}, {2}, {},
        {}, {}, {}, {2}, {2}};
    private static final int[] FAR = {-1, -2, 6, 7, 12, 13, 25, 63, 64, 65, 1000, 1001, 1000000, 1000001,
        Integer.MIN_VALUE, Integer.MAX_VALUE};

    private final Due due = new Due("RandomRunsTest");
    private final Random random = new Random(20261119);
    private final int[] good = new int[LAST_CALL + 1];

    public static void main(String[] args) {
        new RandomRunsTest().runAll();
    }

    private void runAll() {
        for (int run = 0; run < RUNS; run++) runOne(run);
        for (int call = FIRST_CALL; call <= LAST_CALL; call++) {
            due.is("good answers of " + Calls.NAMES[call] + " enough", good[call] > RUNS ? 1 : 0, 1);
        }
        due.end();
    }

    private void runOne(int run) {
        TreadleKernels loom = new TreadleKernels();
        Model model = new Model();
        // In some runs few shafts are tied, so that few ways are made.
        boolean isNarrow = run % 2 == 0;
        boolean isWild = run % 5 == 4;
        for (int number = 0; number < CALLS; number++) {
            int call = pickCall();
            int a = argument(call, 0, isWild);
            int b = argument(call, 1, isWild);
            int c = argument(call, 2, isWild);
            if (call == 3 && isNarrow && random.nextInt(4) > 0) b = 1 << random.nextInt(6);
            long characters = isWild && random.nextInt(3) == 0 ? random.nextLong() >> random.nextInt(64) : text();
            int answer = Calls.ask(loom, call, a, b, c, characters);
            String told = "run " + run + ", call " + number + ": " + Calls.NAMES[call] + "(" + a + ", " + b + ", " + c + ", " + characters + ")";
            due.is(told, answer, model.answer(call, a, b, c, characters));
            if (answer >= 0 || answer == TreadleKernels.NONE) good[call]++;
        }
    }

    /** Texts are written and read more often than all else, so that drafts come to be. */
    private int pickCall() {
        int chance = random.nextInt(100);
        if (chance < 12) return 22;
        if (chance < 20) return 4;
        if (chance < 24) return 23;
        return FIRST_CALL + random.nextInt(LAST_CALL - FIRST_CALL + 1);
    }

    private int argument(int call, int index, boolean isWild) {
        if (random.nextInt(isWild ? 8 : 200) == 0) return FAR[random.nextInt(FAR.length)];
        if (index >= BOUNDS[call].length) return 0;
        int bound = BOUNDS[call][index];
        if (call == 7 && index == 2) return random.nextInt(4);
        if (bound > 1000 && random.nextInt(3) > 0) bound = 4;
        return random.nextInt(bound);
    }

    private long text() {
        String signs = random.nextInt(5) == 0 ? "abcdefABCDEF0123456789gG-" : "abcdefABCDEF";
        int length = 1 + random.nextInt(8);
        StringBuilder text = new StringBuilder();
        while (text.length() < length) {
            text.append(signs.charAt(random.nextInt(signs.length())));
            if (text.length() < length && random.nextInt(6) == 0) text.append((char) ('2' + random.nextInt(8)));
        }
        return Due.text(text.toString());
    }
}
