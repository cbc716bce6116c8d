import java.util.function.Consumer;

/**
 * The stage (promises 2 to 8, 11 and 12): a test for each sentence of the document that names a boundary case. The
 * sentence stands above its test.
 */
public final class StageBoundariesTest {
    private static final int STAGE_FULL = -1;
    private static final int BAD_SLOT = -2;
    private static final int NO_BACKUP = -4;
    private static final int BAD_PLACE = -5;
    private static final int MAX = Integer.MAX_VALUE;
    private static final int MIN = Integer.MIN_VALUE;

    public static void main(String[] args) {
        beginEmptiesAnyStage();
        feedIntoFullStage();
        feedAnswersNewLength();
        feedRunBytesWrap();
        feedRunBelowZeroCountsAsZero();
        feedRunAbove96();
        feedRunUpTo96();
        feedFromBadSlotFirst();
        feedFromNoBackupSecond();
        feedFromBadPlaceThird();
        feedFromStageFullLast();
        feedFromUpToTheEdges();
        pokeOutside();
        pokeAtTheEdges();
        insertBadPlaceFirst();
        insertStageFullSecond();
        insertAtTheEdges();
        cutOutside();
        cutAtTheEdges();
        stageLengthAtTheEdges();
        stageByteWhereThereIsNone();
        Due.end("StageBoundariesTest");
    }

    private static void fill(SimilarDelta x, int size) {
        x.begin();
        x.feedRun(100, 1, size);
    }

    // "Empties the stage."
    private static void beginEmptiesAnyStage() {
        SimilarDelta full = States.after(States::full);
        full.begin();
        Due.stage("2 begin on a full stage", full);
        Due.is("2 the whole stage is free again", full.feedRun(5, 0, 96), 96);
        Due.stage("2 no byte from before begin", full, Due.filled(96, 5));
        SimilarDelta backups = States.after(States::busy);
        backups.begin();
        Due.backup("2 backups stay", backups, 0, 10, 20, 30, 40);
        Due.backup("2 an empty backup stays", backups, 3);
        Due.is("2 no backup comes", backups.length(1), NO_BACKUP);
        Twins.changesNothing("2 begin on an empty stage", States::fresh, StageBoundariesTest::beginThenZero, 0);
    }

    private static int beginThenZero(SimilarDelta x) {
        x.begin();
        return 0;
    }

    // "The stage has 96 bytes: STAGE_FULL, nothing changes."
    private static void feedIntoFullStage() {
        for (int b : new int[] {0, 1, 77, 255, 256, -1, MAX, MIN}) {
            Twins.changesNothing("3 full, feed(" + b + ")", States::full, x -> x.feed(b), STAGE_FULL);
        }
        SimilarDelta fed = new SimilarDelta();
        for (int size = 1; size <= 96; size++) {
            Due.is("3 feed to " + size, fed.feed(size), size);
        }
        Due.is("3 full by feed", fed.feed(1), STAGE_FULL);
        fed.save(0);
        fed.begin();
        fed.feedFrom(0, 0, 96);
        Due.is("3 full by feedFrom", fed.feed(1), STAGE_FULL);
        SimilarDelta inserted = States.after(States::almostFull);
        inserted.insert(0, 1);
        Due.is("3 full by insert", inserted.feed(1), STAGE_FULL);
        SimilarDelta run = new SimilarDelta();
        run.feedRun(0, 0, 96);
        Due.is("3 full by feedRun", run.feed(1), STAGE_FULL);
    }

    // "Else answers the stage's new length."
    private static void feedAnswersNewLength() {
        SimilarDelta x = new SimilarDelta();
        Due.is("3 into the empty stage", x.feed(6), 1);
        Due.stage("3 into the empty stage", x, 6);
        SimilarDelta last = States.after(States::almostFull);
        Due.is("3 the 96th", last.feed(9), 96);
        Due.is("3 the 96th, byte", last.stageByte(95), 9);
        Due.is("3 the 97th", last.feed(8), STAGE_FULL);
        last.cut(0, 1);
        Due.is("3 room after a cut", last.feed(7), 96);
        Due.is("3 room after a cut, byte before", last.stageByte(94), 9);
        Due.is("3 room after a cut, byte", last.stageByte(95), 7);
    }

    // "first, first + step, first + 2 * step and so on (each & 255)"
    private static void feedRunBytesWrap() {
        SimilarDelta x = new SimilarDelta();
        x.feedRun(254, 1, 4);
        x.feedRun(1, -1, 3);
        x.feedRun(-1, 256, 2);
        x.feedRun(MAX, 1, 2);
        x.feedRun(MIN, -1, 2);
        x.feedRun(0, MIN, 2);
        Due.stage("4 wrapping", x, 254, 255, 0, 1, 1, 0, 255, 255, 255, 255, 0, 0, 255, 0, 0);
        int[] numbers = {0, 1, -1, 127, 128, 255, 256, 257, -255, -256, -257, 0x01010101, MAX, MAX - 1, MIN, MIN + 1};
        for (int first : numbers) {
            for (int step : numbers) {
                SimilarDelta run = new SimilarDelta();
                run.feedRun(first, step, 96);
                Due.stage("4 feedRun(" + first + ", " + step + ", 96)", run, runBytes(first, step));
            }
        }
    }

    // In long numbers, so that nothing wraps but the byte.
    private static int[] runBytes(long first, long step) {
        int[] bytes = new int[96];
        for (int i = 0; i < 96; i++) {
            bytes[i] = (int) Math.floorMod(first + i * step, 256L);
        }
        return bytes;
    }

    // "n below 0 counts as 0."
    private static void feedRunBelowZeroCountsAsZero() {
        for (int n : new int[] {0, -1, -2, -96, -97, MIN + 1, MIN}) {
            String call = "feedRun(5, 1, " + n + ")";
            Twins.changesNothing("4 empty stage, " + call, States::fresh, x -> x.feedRun(5, 1, n), 0);
            Twins.changesNothing("4 stage of 3, " + call, States::busy, x -> x.feedRun(5, 1, n), 3);
            Twins.changesNothing("4 full stage, " + call, States::full, x -> x.feedRun(5, 1, n), 96);
        }
    }

    // "If the stage's length and n together are above 96: STAGE_FULL, nothing changes."
    private static void feedRunAbove96() {
        int[][] sizes = {{0, 97}, {0, 192}, {0, MAX}, {1, 96}, {1, MAX}, {48, 49}, {95, 2}, {95, MAX}, {96, 1}, {96, 96},
            {96, MAX - 96}, {96, MAX - 95}, {96, MAX}};
        for (int[] pair : sizes) {
            String what = "4 stage of " + pair[0] + ", feedRun(5, 1, " + pair[1] + ")";
            Twins.changesNothing(what, x -> fill(x, pair[0]), x -> x.feedRun(5, 1, pair[1]), STAGE_FULL);
        }
        Twins.changesNothing("4 with backups", States::busy, x -> x.feedRun(5, 1, 94), STAGE_FULL);
    }

    // "Else answers the stage's new length."
    private static void feedRunUpTo96() {
        for (int size = 0; size <= 96; size++) {
            SimilarDelta x = new SimilarDelta();
            fill(x, size);
            Due.is("4 stage of " + size + ", the rest", x.feedRun(7, 0, 96 - size), 96);
            int[] want = Due.filled(96, 7);
            for (int at = 0; at < size; at++) {
                want[at] = 100 + at;
            }
            Due.stage("4 stage of " + size + ", the rest", x, want);
        }
    }

    // "Tests in this order: slot not in 0 to 5: BAD_SLOT;"
    private static void feedFromBadSlotFirst() {
        for (int slot : States.BAD_SLOTS) {
            String what = "5 feedFrom(" + slot + ", ..)";
            Twins.changesNothing(what, States::busy, x -> x.feedFrom(slot, 0, 1), BAD_SLOT);
            Twins.changesNothing(what + " of nothing", States::busy, x -> x.feedFrom(slot, 0, 0), BAD_SLOT);
            Twins.changesNothing(what + " and no backups", States::fresh, x -> x.feedFrom(slot, 0, 1), BAD_SLOT);
            Twins.changesNothing(what + " and a bad place", States::busy, x -> x.feedFrom(slot, -1, -1), BAD_SLOT);
            Twins.changesNothing(what + " and a full stage", States::full, x -> x.feedFrom(slot, 0, 1), BAD_SLOT);
            Twins.changesNothing(what + " and all slots used", States::crowded, x -> x.feedFrom(slot, 0, 1), BAD_SLOT);
        }
    }

    // "no backup there: NO_BACKUP;"
    private static void feedFromNoBackupSecond() {
        for (int slot : new int[] {1, 2, 4}) {
            String what = "5 feedFrom(" + slot + ", ..)";
            Twins.changesNothing(what, States::busy, x -> x.feedFrom(slot, 0, 1), NO_BACKUP);
            Twins.changesNothing(what + " of nothing", States::busy, x -> x.feedFrom(slot, 0, 0), NO_BACKUP);
            Twins.changesNothing(what + " and from negative", States::busy, x -> x.feedFrom(slot, -1, 0), NO_BACKUP);
            Twins.changesNothing(what + " and n negative", States::busy, x -> x.feedFrom(slot, 0, -1), NO_BACKUP);
            Twins.changesNothing(what + " and too far", States::busy, x -> x.feedFrom(slot, MAX, MAX), NO_BACKUP);
            Twins.changesNothing(what + " and a full stage", States::full, x -> x.feedFrom(slot, 0, 1), NO_BACKUP);
        }
        for (int slot = 0; slot < 6; slot++) {
            int dropped = slot;
            Consumer<SimilarDelta> steps = x -> {
                States.crowded(x);
                x.drop(dropped);
                x.begin();
            };
            Twins.changesNothing("5 dropped slot " + slot, steps, x -> x.feedFrom(dropped, 0, 1), NO_BACKUP);
        }
    }

    // "from negative, n negative, or from and n together above the backup's length: BAD_PLACE;"
    private static void feedFromBadPlaceThird() {
        int[][] places = {{-1, 0}, {-1, 1}, {-1, 5}, {MIN, 0}, {MIN, 4}, {MIN, MAX}, {0, -1}, {4, -1}, {5, -1}, {0, MIN},
            {MAX, MIN}, {-1, -1}, {MIN, MIN}, {0, 5}, {1, 4}, {4, 1}, {5, 0}, {96, 0}, {MAX, 0}, {MAX, 1}, {1, MAX}, {4, MAX},
            {MAX, MAX}, {MAX - 3, 4}};
        for (int[] place : places) {
            String what = "5 feedFrom(0, " + place[0] + ", " + place[1] + ")";
            Twins.changesNothing(what, States::busy, x -> x.feedFrom(0, place[0], place[1]), BAD_PLACE);
            Twins.changesNothing(what + ", full stage", States::full, x -> x.feedFrom(0, place[0], place[1]), BAD_PLACE);
        }
        for (int[] place : new int[][] {{0, 1}, {1, 0}, {-1, 1}, {1, -1}}) {
            String what = "5 empty backup, feedFrom(3, " + place[0] + ", " + place[1] + ")";
            Twins.changesNothing(what, States::busy, x -> x.feedFrom(3, place[0], place[1]), BAD_PLACE);
        }
        for (int[] place : new int[][] {{0, 97}, {1, 96}, {95, 2}, {96, 1}, {97, 0}}) {
            String what = "5 backup of 96, feedFrom(5, " + place[0] + ", " + place[1] + ")";
            Twins.changesNothing(what, States::busy, x -> x.feedFrom(5, place[0], place[1]), BAD_PLACE);
        }
    }

    // "the stage's length and n together above 96: STAGE_FULL. A refused call changes nothing."
    private static void feedFromStageFullLast() {
        Twins.changesNothing("5 3 and 94", States::busy, x -> x.feedFrom(5, 0, 94), STAGE_FULL);
        Twins.changesNothing("5 3 and 94 to the end", States::busy, x -> x.feedFrom(5, 2, 94), STAGE_FULL);
        Twins.changesNothing("5 3 and 96", States::busy, x -> x.feedFrom(5, 0, 96), STAGE_FULL);
        Twins.changesNothing("5 95 and 2", States::almostFull, x -> x.feedFrom(0, 2, 2), STAGE_FULL);
        Twins.changesNothing("5 95 and 4", States::almostFull, x -> x.feedFrom(0, 0, 4), STAGE_FULL);
        Twins.changesNothing("5 96 and 1", States::full, x -> x.feedFrom(0, 3, 1), STAGE_FULL);
        Twins.changesNothing("5 96 and 96", States::full, x -> x.feedFrom(5, 0, 96), STAGE_FULL);
    }

    // "Else answers the stage's new length."
    private static void feedFromUpToTheEdges() {
        for (int from = 0; from <= 4; from++) {
            int at = from;
            Twins.changesNothing("5 nothing from " + from, States::busy, x -> x.feedFrom(0, at, 0), 3);
            Twins.changesNothing("5 nothing, full stage, from " + from, States::full, x -> x.feedFrom(0, at, 0), 96);
        }
        Twins.changesNothing("5 nothing from an empty backup", States::busy, x -> x.feedFrom(3, 0, 0), 3);
        Twins.changesNothing("5 nothing from the end of 96", States::full, x -> x.feedFrom(5, 96, 0), 96);
        SimilarDelta x = States.after(States::busy);
        Due.is("5 the whole backup", x.feedFrom(0, 0, 4), 7);
        Due.is("5 its last byte", x.feedFrom(0, 3, 1), 8);
        Due.is("5 its first byte", x.feedFrom(0, 0, 1), 9);
        Due.stage("5 edges of the backup", x, 1, 200, 3, 10, 20, 30, 40, 40, 10);
        SimilarDelta last = States.after(States::almostFull);
        Due.is("5 95 and 1", last.feedFrom(0, 3, 1), 96);
        Due.is("5 95 and 1, byte", last.stageByte(95), 40);
        SimilarDelta whole = States.after(States::busy);
        whole.begin();
        Due.is("5 0 and 96", whole.feedFrom(5, 0, 96), 96);
        whole.save(1);
        Due.is("5 0 and 96, bytes", whole.commonStart(1, 5), 96);
        Due.is("5 0 and 96, last byte", whole.stageByte(95), 255);
        whole.cut(0, 93);
        Due.is("5 3 and 93", whole.feedFrom(5, 3, 93), 96);
        Due.is("5 3 and 93, first byte", whole.stageByte(3), 163);
        Due.is("5 3 and 93, last byte", whole.stageByte(95), 255);
    }

    // "at not in 0 to length - 1: BAD_PLACE, nothing changes."
    private static void pokeOutside() {
        for (int at : new int[] {-1, -2, MIN, 3, 4, 95, 96, 97, MAX}) {
            Twins.changesNothing("6 poke(" + at + ", 9)", States::busy, x -> x.poke(at, 9), BAD_PLACE);
        }
        for (int at : new int[] {-1, MIN, 96, 97, MAX}) {
            Twins.changesNothing("6 full, poke(" + at + ", 9)", States::full, x -> x.poke(at, 9), BAD_PLACE);
        }
        for (int at : new int[] {-1, 0, 1}) {
            Twins.changesNothing("6 empty, poke(" + at + ", 9)", States::fresh, x -> x.poke(at, 9), BAD_PLACE);
        }
        Consumer<SimilarDelta> steps = x -> {
            States.busy(x);
            x.cut(1, 1);
        };
        Twins.changesNothing("6 behind a cut", steps, x -> x.poke(2, 9), BAD_PLACE);
    }

    // "Else answers the byte that was there."
    private static void pokeAtTheEdges() {
        SimilarDelta x = States.after(States::busy);
        Due.is("6 first", x.poke(0, 255), 1);
        Due.is("6 last", x.poke(2, 0), 3);
        Due.stage("6 first and last", x, 255, 200, 0);
        Due.is("6 first again", x.poke(0, 0), 255);
        Due.is("6 last again", x.poke(2, -1), 0);
        Due.is("6 middle, the same byte", x.poke(1, 200), 200);
        Due.stage("6 again", x, 0, 200, 255);
        SimilarDelta full = States.after(States::full);
        Due.is("6 last of a full stage", full.poke(95, 78), 77);
        Due.is("6 last of a full stage, byte", full.stageByte(95), 78);
        Due.is("6 byte before it", full.stageByte(94), 141);
        Due.is("6 length stays", full.stageLength(), 96);
        SimilarDelta one = new SimilarDelta();
        one.feed(4);
        Due.is("6 the only byte", one.poke(0, 5), 4);
        Due.stage("6 the only byte", one, 5);
    }

    // "Tests in this order: at not in 0 to length: BAD_PLACE;"
    private static void insertBadPlaceFirst() {
        for (int at : new int[] {-1, -2, MIN, 4, 5, 95, 96, 97, MAX}) {
            Twins.changesNothing("7 insert(" + at + ", 9)", States::busy, x -> x.insert(at, 9), BAD_PLACE);
        }
        for (int at : new int[] {-1, MIN, 1, 2, MAX}) {
            Twins.changesNothing("7 empty, insert(" + at + ", 9)", States::fresh, x -> x.insert(at, 9), BAD_PLACE);
        }
        for (int at : new int[] {-1, -2, MIN, 97, 98, MAX}) {
            Twins.changesNothing("7 full, insert(" + at + ", 9)", States::full, x -> x.insert(at, 9), BAD_PLACE);
        }
        Twins.changesNothing("7 almost full, insert(96, 9)", States::almostFull, x -> x.insert(96, 9), BAD_PLACE);
    }

    // "the stage has 96 bytes: STAGE_FULL. A refused call changes nothing."
    private static void insertStageFullSecond() {
        for (int at : new int[] {0, 1, 48, 94, 95, 96}) {
            Twins.changesNothing("7 full, insert(" + at + ", 9)", States::full, x -> x.insert(at, 9), STAGE_FULL);
        }
    }

    // "Puts a byte into the stage so that it has index 'at'; bytes from there on move up by one." .. "Else answers the new
    // length."
    private static void insertAtTheEdges() {
        SimilarDelta x = new SimilarDelta();
        Due.is("7 into the empty stage", x.insert(0, 5), 1);
        Due.stage("7 into the empty stage", x, 5);
        Due.is("7 at length", x.insert(1, 6), 2);
        Due.stage("7 at length", x, 5, 6);
        Due.is("7 at 0", x.insert(0, 4), 3);
        Due.stage("7 at 0", x, 4, 5, 6);
        Due.is("7 at length - 1", x.insert(2, 7), 4);
        Due.stage("7 at length - 1", x, 4, 5, 7, 6);
        for (int at = 0; at <= 95; at++) {
            SimilarDelta y = new SimilarDelta();
            fill(y, 95);
            Due.is("7 the 96th at " + at, y.insert(at, 3), 96);
            Due.stage("7 the 96th at " + at, y, withByteAt(at));
        }
    }

    private static int[] withByteAt(int place) {
        int[] bytes = new int[96];
        for (int at = 0; at < 96; at++) {
            bytes[at] = at < place ? 100 + at : 99 + at;
        }
        bytes[place] = 3;
        return bytes;
    }

    // "at negative, n negative, or at and n together above the length: BAD_PLACE, nothing changes."
    private static void cutOutside() {
        int[][] places = {{-1, 0}, {-1, 1}, {-1, 4}, {MIN, 0}, {MIN, 3}, {MIN, MAX}, {0, -1}, {3, -1}, {4, -1}, {0, MIN},
            {MAX, MIN}, {-1, -1}, {MIN, MIN}, {0, 4}, {1, 3}, {2, 2}, {3, 1}, {4, 0}, {0, 96}, {96, 0}, {MAX, 0}, {MAX, 1},
            {1, MAX}, {3, MAX}, {MAX, MAX}, {MAX - 2, 3}};
        for (int[] place : places) {
            String what = "8 cut(" + place[0] + ", " + place[1] + ")";
            Twins.changesNothing(what, States::busy, x -> x.cut(place[0], place[1]), BAD_PLACE);
        }
        for (int[] place : new int[][] {{0, 1}, {1, 0}, {-1, 0}, {0, -1}, {-1, 1}, {1, -1}}) {
            String what = "8 empty stage, cut(" + place[0] + ", " + place[1] + ")";
            Twins.changesNothing(what, States::fresh, x -> x.cut(place[0], place[1]), BAD_PLACE);
        }
        for (int[] place : new int[][] {{0, 97}, {1, 96}, {95, 2}, {96, 1}, {97, 0}, {97, -1}, {-1, 97}}) {
            String what = "8 full stage, cut(" + place[0] + ", " + place[1] + ")";
            Twins.changesNothing(what, States::full, x -> x.cut(place[0], place[1]), BAD_PLACE);
        }
    }

    // "Takes the n bytes that begin at 'at' out of the stage; later bytes move down." .. "Else answers the new length."
    private static void cutAtTheEdges() {
        Twins.changesNothing("8 nothing of an empty stage", States::fresh, x -> x.cut(0, 0), 0);
        for (int at = 0; at <= 3; at++) {
            int place = at;
            Twins.changesNothing("8 cut(" + at + ", 0)", States::busy, x -> x.cut(place, 0), 3);
        }
        Twins.changesNothing("8 nothing behind a full stage", States::full, x -> x.cut(96, 0), 96);
        for (int size : new int[] {1, 5, 96}) {
            for (int at = 0; at <= size; at++) {
                for (int n : new int[] {0, 1, (size - at) / 2, size - at}) {
                    cutOne(size, at, Math.min(n, size - at));
                }
            }
        }
    }

    private static void cutOne(int size, int at, int n) {
        SimilarDelta x = new SimilarDelta();
        fill(x, size);
        String what = "8 stage of " + size + ", cut(" + at + ", " + n + ")";
        Due.is(what, x.cut(at, n), size - n);
        int[] want = new int[size - n];
        for (int i = 0; i < want.length; i++) {
            want[i] = 100 + (i < at ? i : i + n);
        }
        Due.stage(what, x, want);
    }

    // "The stage's length."
    private static void stageLengthAtTheEdges() {
        Twins.changesNothing("11 empty", States::fresh, SimilarDelta::stageLength, 0);
        Twins.changesNothing("11 ordinary", States::busy, SimilarDelta::stageLength, 3);
        Twins.changesNothing("11 almost full", States::almostFull, SimilarDelta::stageLength, 95);
        Twins.changesNothing("11 full", States::full, SimilarDelta::stageLength, 96);
    }

    // "The stage's byte at this index; BAD_PLACE if there is none."
    private static void stageByteWhereThereIsNone() {
        for (int at : new int[] {-1, -2, MIN, 3, 4, 95, 96, 97, MAX}) {
            Twins.changesNothing("12 stageByte(" + at + ")", States::busy, x -> x.stageByte(at), BAD_PLACE);
        }
        for (int at : new int[] {-1, 0, 1, 95}) {
            Twins.changesNothing("12 empty, stageByte(" + at + ")", States::fresh, x -> x.stageByte(at), BAD_PLACE);
        }
        for (int at : new int[] {-1, MIN, 96, 97, MAX}) {
            Twins.changesNothing("12 full, stageByte(" + at + ")", States::full, x -> x.stageByte(at), BAD_PLACE);
        }
        Twins.changesNothing("12 first", States::busy, x -> x.stageByte(0), 1);
        Twins.changesNothing("12 a byte above 127", States::busy, x -> x.stageByte(1), 200);
        Twins.changesNothing("12 last", States::busy, x -> x.stageByte(2), 3);
        Twins.changesNothing("12 last of a full stage", States::full, x -> x.stageByte(95), 77);
        SimilarDelta x = States.after(States::full);
        x.cut(90, 6);
        Due.is("12 last before the cut", x.stageByte(89), 136);
        Due.is("12 no byte stays behind a cut", x.stageByte(90), BAD_PLACE);
        x.begin();
        Due.is("12 no byte stays behind begin", x.stageByte(0), BAD_PLACE);
    }
}
