import java.util.function.Consumer;

/** States that tests begin from, and the ways to reach them. */
final class States {
    static final int[] BAD_SLOTS = {-1, 6, 7, -6, 96, 256, Integer.MAX_VALUE, Integer.MIN_VALUE};

    private States() {
    }

    static SimilarDelta after(Consumer<SimilarDelta> steps) {
        SimilarDelta x = new SimilarDelta();
        steps.accept(x);
        return x;
    }

    static void put(SimilarDelta x, int slot, int... bytes) {
        x.begin();
        for (int b : bytes) {
            x.feed(b);
        }
        x.save(slot);
    }

    static void fresh(SimilarDelta x) {
    }

    /** Backups in slot 0 (10, 20, 30, 40), slot 3 (empty) and slot 5 (160 to 255); stage 1, 200, 3. */
    static void busy(SimilarDelta x) {
        x.feedRun(10, 10, 4);
        x.save(0);
        x.begin();
        x.save(3);
        x.feedRun(160, 1, 96);
        x.save(5);
        x.begin();
        x.feed(1);
        x.feed(200);
        x.feed(3);
    }

    /** As busy, with 95 bytes in the stage: 1, 200, 3, then 92 bytes from 50 on. */
    static void almostFull(SimilarDelta x) {
        busy(x);
        x.feedRun(50, 1, 92);
    }

    /** As almost full, with a last byte 77. */
    static void full(SimilarDelta x) {
        almostFull(x);
        x.feed(77);
    }

    /** Six backups of 96 bytes, those of crowdedBytes; the stage holds the bytes of slot 5. */
    static void crowded(SimilarDelta x) {
        for (int slot = 0; slot < 6; slot++) {
            x.begin();
            x.feedRun(40 * slot, 2 * slot + 1, 96);
            x.save(slot);
        }
    }

    static int[] crowdedBytes(int slot) {
        int[] bytes = new int[96];
        for (int at = 0; at < 96; at++) {
            bytes[at] = (40 * slot + (2 * slot + 1) * at) % 256;
        }
        return bytes;
    }
}
