import java.util.ArrayList;
import java.util.List;

/**
 * Long mixed runs against a second, list-based reading of the document. Each object gets exactly the 512 calls that the
 * document allows; the last of them look at the whole stage, all sums and one whole backup.
 */
public final class ModelTest {
    private static final int RUNS = 4000;
    private static final int ALLOWED_CALLS = 512;
    private static final int LAST_LOOK = 1 + 98 + 6 + 6 + 98;
    private static final int[] ODD = {-1, 0, 1, 6, 95, 96, 97, 255, 256, -256, Integer.MAX_VALUE, Integer.MIN_VALUE};

    private final String name;
    private final SimilarDelta x = new SimilarDelta();
    private final List<Integer> stage = new ArrayList<>();
    private final List<List<Integer>> backups = new ArrayList<>();
    private long seed;
    private int calls = 0;

    private ModelTest(int run) {
        name = "run " + run;
        seed = run * 7919L + 17;
        for (int slot = 0; slot < 6; slot++) {
            backups.add(null);
        }
    }

    public static void main(String[] args) {
        for (int run = 1; run <= RUNS; run++) {
            new ModelTest(run).play();
        }
        Due.end("ModelTest");
    }

    private void play() {
        for (int i = 0; i < ALLOWED_CALLS - LAST_LOOK; i++) {
            oneCall();
        }
        lookAtAll();
        Due.is(name + ": calls made", calls, ALLOWED_CALLS);
    }

    // A generator of its own, so that a run that failed can be had again.
    private int below(int bound) {
        seed = seed * 6364136223846793005L + 1442695040888963407L;
        return (int) ((seed >>> 33) % bound);
    }

    private int number(int usual) {
        return below(10) == 0 ? ODD[below(ODD.length)] : below(usual);
    }

    private int anySlot() {
        return below(20) == 0 ? ODD[below(ODD.length)] : below(6);
    }

    // Edges of the list at hand are asked for more often than chance would.
    private int place(int size) {
        return below(4) == 0 ? size - 1 + below(3) : number(size + 2);
    }

    // Small alphabets make backups that share their beginnings.
    private int anyByte() {
        return below(2) == 0 ? below(2) : number(600) - 100;
    }

    private void answer(String call, long got, long want) {
        calls++;
        Due.is(name + ", call " + calls + ": " + call, got, want);
    }

    private void oneCall() {
        int slot = anySlot();
        int b = anyByte();
        switch (below(20)) {
            case 0 -> begin();
            case 1, 2 -> answer("feed(" + b + ")", x.feed(b), feed(b));
            case 3, 4 -> feedRunCall();
            case 5, 6, 7 -> feedFromCall(slot);
            case 8 -> pokeCall(place(stage.size()), b);
            case 9 -> insertCall(place(stage.size()), b);
            case 10 -> cutCall(place(stage.size()));
            case 11, 12, 13 -> answer("save(" + slot + ")", x.save(slot), save(slot));
            case 14 -> answer("drop(" + slot + ")", x.drop(slot), drop(slot));
            case 15 -> answer("stageLength()", x.stageLength(), stage.size());
            case 16 -> stageByteCall(place(stage.size()));
            case 17 -> byteAtCall(slot, place(Math.max(0, refusalOrSize(slot))));
            case 18 -> sumCall(slot);
            default -> commonStartCall(slot, anySlot());
        }
    }

    private void lookAtAll() {
        answer("stageLength()", x.stageLength(), stage.size());
        for (int at = -1; at <= 96; at++) {
            stageByteCall(at);
        }
        for (int slot = 0; slot < 6; slot++) {
            answer("length(" + slot + ")", x.length(slot), refusalOrSize(slot));
            sumCall(slot);
        }
        int slot = below(6);
        for (int at = -1; at <= 96; at++) {
            byteAtCall(slot, at);
        }
    }

    private void begin() {
        // Rarer than the other calls, or the stage would hardly ever fill.
        if (below(3) != 0) {
            answer("stageLength()", x.stageLength(), stage.size());
            return;
        }
        calls++;
        x.begin();
        stage.clear();
    }

    private int feed(int b) {
        if (stage.size() == 96) {
            return SimilarDelta.STAGE_FULL;
        }
        stage.add(Math.floorMod(b, 256));
        return stage.size();
    }

    private void feedRunCall() {
        int first = number(256);
        int step = number(256) - 128;
        int n = place(below(2) == 0 ? 10 : 96 - stage.size());
        String call = "feedRun(" + first + ", " + step + ", " + n + ")";
        answer(call, x.feedRun(first, step, n), feedRun(first, step, n));
    }

    private int feedRun(long first, long step, long n) {
        if (stage.size() + Math.max(n, 0) > 96) {
            return SimilarDelta.STAGE_FULL;
        }
        for (long i = 0; i < n; i++) {
            stage.add((int) Math.floorMod(first + i * step, 256L));
        }
        return stage.size();
    }

    private void feedFromCall(int slot) {
        int size = Math.max(0, refusalOrSize(slot));
        int from = place(size);
        int n = place(below(2) == 0 ? Math.max(0, size - Math.max(0, from)) : 96 - stage.size());
        String call = "feedFrom(" + slot + ", " + from + ", " + n + ")";
        answer(call, x.feedFrom(slot, from, n), feedFrom(slot, from, n));
    }

    private int feedFrom(int slot, long from, long n) {
        if (refusalOrSize(slot) < 0) {
            return refusalOrSize(slot);
        }
        if (from < 0 || n < 0 || from + n > refusalOrSize(slot)) {
            return SimilarDelta.BAD_PLACE;
        }
        if (stage.size() + n > 96) {
            return SimilarDelta.STAGE_FULL;
        }
        stage.addAll(backups.get(slot).subList((int) from, (int) (from + n)));
        return stage.size();
    }

    private void pokeCall(int at, int b) {
        int want = byteOf(stage, at);
        answer("poke(" + at + ", " + b + ")", x.poke(at, b), want);
        if (want >= 0) {
            stage.set(at, Math.floorMod(b, 256));
        }
    }

    private void insertCall(int at, int b) {
        answer("insert(" + at + ", " + b + ")", x.insert(at, b), insert(at, b));
    }

    private int insert(int at, int b) {
        if (at < 0 || at > stage.size()) {
            return SimilarDelta.BAD_PLACE;
        }
        if (stage.size() == 96) {
            return SimilarDelta.STAGE_FULL;
        }
        stage.add(at, Math.floorMod(b, 256));
        return stage.size();
    }

    private void cutCall(int at) {
        int n = place(below(2) == 0 ? 3 : Math.max(0, stage.size() - Math.max(0, at)));
        answer("cut(" + at + ", " + n + ")", x.cut(at, n), cut(at, n));
    }

    private int cut(long at, long n) {
        if (at < 0 || n < 0 || at + n > stage.size()) {
            return SimilarDelta.BAD_PLACE;
        }
        stage.subList((int) at, (int) (at + n)).clear();
        return stage.size();
    }

    private int save(int slot) {
        int refusal = refusalOrSize(slot);
        if (refusal == SimilarDelta.BAD_SLOT) {
            return refusal;
        }
        if (refusal >= 0) {
            return SimilarDelta.SLOT_USED;
        }
        backups.set(slot, List.copyOf(stage));
        return stage.size();
    }

    private int drop(int slot) {
        int size = refusalOrSize(slot);
        if (size >= 0) {
            backups.set(slot, null);
        }
        return size;
    }

    private int refusalOrSize(int slot) {
        if (slot < 0 || slot > 5) {
            return SimilarDelta.BAD_SLOT;
        }
        return backups.get(slot) == null ? SimilarDelta.NO_BACKUP : backups.get(slot).size();
    }

    private static int byteOf(List<Integer> bytes, int at) {
        return at < 0 || at >= bytes.size() ? SimilarDelta.BAD_PLACE : bytes.get(at);
    }

    private void stageByteCall(int at) {
        answer("stageByte(" + at + ")", x.stageByte(at), byteOf(stage, at));
    }

    private void byteAtCall(int slot, int at) {
        int size = refusalOrSize(slot);
        answer("byteAt(" + slot + ", " + at + ")", x.byteAt(slot, at), size < 0 ? size : byteOf(backups.get(slot), at));
    }

    private void sumCall(int slot) {
        int want = 0;
        if (refusalOrSize(slot) >= 0) {
            want = Due.sumOf(backups.get(slot).stream().mapToInt(Integer::intValue).toArray());
        }
        answer("sum(" + slot + ")", x.sum(slot), want);
    }

    private void commonStartCall(int slotA, int slotB) {
        answer("commonStart(" + slotA + ", " + slotB + ")", x.commonStart(slotA, slotB), commonStart(slotA, slotB));
    }

    private int commonStart(int slotA, int slotB) {
        int a = refusalOrSize(slotA);
        int b = refusalOrSize(slotB);
        if (a == SimilarDelta.BAD_SLOT || b == SimilarDelta.BAD_SLOT) {
            return SimilarDelta.BAD_SLOT;
        }
        if (a == SimilarDelta.NO_BACKUP || b == SimilarDelta.NO_BACKUP) {
            return SimilarDelta.NO_BACKUP;
        }
        int common = Math.min(a, b);
        while (!backups.get(slotA).subList(0, common).equals(backups.get(slotB).subList(0, common))) {
            common--;
        }
        return common;
    }
}
