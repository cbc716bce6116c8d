import java.util.Arrays;
import java.util.List;
import java.util.function.Consumer;

/**
 * Objects, bytes and backups ('What it is', 'Terms', promises 1, 9, 10 and 13 to 16): a test for each sentence of the
 * document that names a boundary case. The sentence stands above its test.
 */
public final class BackupBoundariesTest {
    private static final int STAGE_FULL = -1;
    private static final int BAD_SLOT = -2;
    private static final int SLOT_USED = -3;
    private static final int NO_BACKUP = -4;
    private static final int BAD_PLACE = -5;
    private static final int MAX = Integer.MAX_VALUE;
    private static final int MIN = Integer.MIN_VALUE;
    private static final int[] NO_BACKUP_WHEN_BUSY = {1, 2, 4};

    public static void main(String[] args) {
        sixBackupsOf96();
        allowedCallsAreAllAnswered();
        backupStaysWhateverTheStageDoes();
        backupStaysWhateverOthersDo();
        backupStaysWhenItsSourceGoes();
        droppedBackupLeavesNothing();
        bytesAreTakenAnd255();
        lookingChangesNothing();
        newObjectIsEmpty();
        saveIntoBadSlot();
        saveIntoUsedSlot();
        saveAnswersLength();
        saveLeavesStage();
        dropOfBadSlot();
        dropOfNoBackup();
        dropAnswersLength();
        lengthOfBadSlot();
        lengthOfNoBackup();
        lengthAtTheEdges();
        byteAtRefusesSlotsFirst();
        byteAtWhereThereIsNone();
        sumWraps();
        sumOfNone();
        commonStartOfSameSlot();
        commonStartAtTheEdges();
        commonStartBadSlotFirst();
        commonStartNoBackupSecond();
        Due.end("BackupBoundariesTest");
    }

    // "A store for at most six backups of at most 96 bytes each."
    private static void sixBackupsOf96() {
        for (int slot = 0; slot < 6; slot++) {
            SimilarDelta x = States.after(States::crowded);
            Due.backup("six of 96", x, slot, States.crowdedBytes(slot));
        }
        SimilarDelta x = States.after(States::crowded);
        Due.stage("six of 96", x, States.crowdedBytes(5));
    }

    // "An object is used for at most 512 calls after it has been made"
    private static void allowedCallsAreAllAnswered() {
        SimilarDelta saved = new SimilarDelta();
        Due.is("call 1, feedRun", saved.feedRun(0, 3, 96), 96);
        for (int call = 2; call <= 510; call += 2) {
            Due.is("call " + call + ", save", saved.save(call % 6), 96);
            Due.is("call " + (call + 1) + ", drop", saved.drop(call % 6), 96);
        }
        Due.is("call 512, save", saved.save(5), 96);
        SimilarDelta empty = new SimilarDelta();
        for (int call = 1; call <= 511; call += 2) {
            Due.is("call " + call + ", save of nothing", empty.save(0), 0);
            Due.is("call " + (call + 1) + ", drop of nothing", empty.drop(0), 0);
        }
        SimilarDelta edited = new SimilarDelta();
        for (int call = 1; call <= 511; call += 2) {
            Due.is("call " + call + ", insert", edited.insert(0, call), 1);
            Due.is("call " + (call + 1) + ", cut", edited.cut(0, 1), 0);
        }
        SimilarDelta fed = new SimilarDelta();
        for (int call = 1; call <= 511; call++) {
            Due.is("call " + call + ", feed", fed.feed(call), call <= 96 ? call : STAGE_FULL);
        }
        Due.is("call 512, stageByte", fed.stageByte(95), 96);
        SimilarDelta begun = new SimilarDelta();
        for (int call = 1; call <= 509; call += 2) {
            begun.begin();
            Due.is("call " + (call + 1) + ", feedRun", begun.feedRun(call, 1, 96), 96);
        }
        Due.is("call 511, save", begun.save(0), 96);
        Due.is("call 512, byteAt", begun.byteAt(0, 95), (509 + 95) % 256);
    }

    private record Change(String name, Consumer<SimilarDelta> call) {
    }

    // "Once saved, a backup never changes until it is dropped, whatever happens to the stage .."
    private static void backupStaysWhateverTheStageDoes() {
        for (int size : new int[] {0, 4, 95, 96}) {
            int[] bytes = new int[size];
            for (int at = 0; at < size; at++) {
                bytes[at] = 160 + at;
            }
            for (int slot = 0; slot < 6; slot++) {
                for (Change change : stageChanges(slot)) {
                    SimilarDelta x = new SimilarDelta();
                    x.feedRun(160, 1, size);
                    x.save(slot);
                    change.call.accept(x);
                    Due.backup("backup of " + size + " after " + change.name, x, slot, bytes);
                }
            }
        }
    }

    private static List<Change> stageChanges(int slot) {
        return List.of(
            new Change("begin", SimilarDelta::begin),
            new Change("begin and a run", x -> {
                x.begin();
                x.feedRun(1, 1, 96);
            }),
            new Change("feed", x -> x.feed(1)),
            new Change("feedRun", x -> x.feedRun(1, 1, 92)),
            new Change("feedFrom itself", x -> x.feedFrom(slot, 0, 4)),
            new Change("poke of the first", x -> x.poke(0, 1)),
            new Change("poke of the last", x -> x.poke(x.stageLength() - 1, 1)),
            new Change("insert at the start", x -> x.insert(0, 1)),
            new Change("insert at the end", x -> x.insert(x.stageLength(), 1)),
            new Change("cut of the first", x -> x.cut(0, 1)),
            new Change("cut of all", x -> x.cut(0, x.stageLength())),
            new Change("cut and feed", x -> {
                x.cut(0, 1);
                x.feed(1);
            }));
    }

    // ".. and to the other backups."
    private static void backupStaysWhateverOthersDo() {
        for (int slot = 0; slot < 6; slot++) {
            for (int other = 0; other < 6; other++) {
                if (other != slot) {
                    othersChange(slot, other);
                }
            }
            SimilarDelta alone = States.after(States::crowded);
            for (int other = 0; other < 6; other++) {
                if (other != slot) {
                    alone.drop(other);
                }
            }
            Due.backup("all others dropped", alone, slot, States.crowdedBytes(slot));
        }
    }

    private static void othersChange(int slot, int other) {
        SimilarDelta dropped = States.after(States::crowded);
        dropped.drop(other);
        Due.backup("slot " + other + " dropped", dropped, slot, States.crowdedBytes(slot));
        SimilarDelta saved = States.after(States::crowded);
        saved.drop(other);
        saved.begin();
        saved.feedRun(1, 0, 96);
        saved.save(other);
        Due.backup("slot " + other + " saved anew", saved, slot, States.crowdedBytes(slot));
        SimilarDelta emptied = States.after(States::crowded);
        emptied.drop(other);
        emptied.begin();
        emptied.save(other);
        Due.backup("slot " + other + " saved empty", emptied, slot, States.crowdedBytes(slot));
        SimilarDelta refused = States.after(States::crowded);
        refused.begin();
        refused.save(other);
        Due.backup("slot " + other + " refused", refused, slot, States.crowdedBytes(slot));
    }

    // The same sentence, where the bytes of a backup were taken over from another one.
    private static void backupStaysWhenItsSourceGoes() {
        for (int source = 0; source < 6; source++) {
            int copy = (source + 1) % 6;
            int next = (source + 2) % 6;
            SimilarDelta x = new SimilarDelta();
            States.put(x, source, 10, 20, 30, 240);
            x.begin();
            x.feedFrom(source, 0, 4);
            x.save(copy);
            x.poke(1, 21);
            x.save(next);
            x.drop(source);
            States.put(x, source, 1, 1, 1, 1, 1);
            Due.backup("taken over from " + source, x, copy, 10, 20, 30, 240);
            x.drop(copy);
            Due.backup("taken over from " + copy, x, next, 10, 21, 30, 240);
            Due.backup("saved over the source", x, source, 1, 1, 1, 1, 1);
        }
    }

    // "until it is dropped"
    private static void droppedBackupLeavesNothing() {
        for (int slot = 0; slot < 6; slot++) {
            int other = (slot + 1) % 6;
            SimilarDelta x = States.after(States::crowded);
            x.drop(slot);
            x.drop(other);
            x.save(other);
            // The same bytes in both, so that bytes left behind by the drop would count as common.
            x.save(slot);
            x.drop(slot);
            x.cut(10, 86);
            x.save(slot);
            Due.is("a shorter one, commonStart", x.commonStart(slot, other), 10);
            Due.backup("a shorter one", x, slot, Arrays.copyOf(States.crowdedBytes(5), 10));
            x.drop(slot);
            x.begin();
            x.save(slot);
            Due.is("an empty one, commonStart", x.commonStart(other, slot), 0);
            Due.backup("an empty one", x, slot);
            x.drop(slot);
            x.feedRun(9, 0, 96);
            x.save(slot);
            Due.backup("a longer one", x, slot, Due.filled(96, 9));
        }
    }

    // "Bytes are 0 to 255; where a call takes a byte as an int b, the byte is b & 255."
    private static void bytesAreTakenAnd255() {
        for (int b = -300; b <= 600; b++) {
            oneByte(b, Math.floorMod(b, 256));
        }
        oneByte(MAX, 255);
        oneByte(MAX - 255, 0);
        oneByte(MIN, 0);
        oneByte(MIN + 255, 255);
        oneByte(0x12345680, 128);
        oneByte(0xFEDCBA7F, 127);
    }

    private static void oneByte(int b, int due) {
        SimilarDelta x = new SimilarDelta();
        x.feed(b);
        x.insert(0, b);
        x.feedRun(b, 0, 2);
        x.feed(due == 0 ? 1 : 0);
        x.poke(4, b);
        x.save(0);
        x.feedFrom(0, 0, 1);
        Due.stage("byte " + b, x, due, due, due, due, due, due);
        Due.backup("byte " + b, x, 0, due, due, due, due, due);
        Due.is("byte " + b + " answered by poke", x.poke(0, 0), due);
        States.put(x, 1, due, due, due, due, due, 0);
        Due.is("byte " + b + " equals " + due, x.commonStart(0, 1), 5);
    }

    // "The calls below change nothing that any call answers." Refusals have tests below, by promise.
    private static void lookingChangesNothing() {
        Twins.changesNothing("stageLength()", States::busy, SimilarDelta::stageLength, 3);
        Twins.changesNothing("stageByte(1)", States::busy, x -> x.stageByte(1), 200);
        Twins.changesNothing("length(0)", States::busy, x -> x.length(0), 4);
        Twins.changesNothing("byteAt(0, 3)", States::busy, x -> x.byteAt(0, 3), 40);
        Twins.changesNothing("sum(0)", States::busy, x -> x.sum(0), Due.sumOf(10, 20, 30, 40));
        Twins.changesNothing("commonStart(0, 5)", States::busy, x -> x.commonStart(0, 5), 0);
        Twins.changesNothing("commonStart(5, 5)", States::busy, x -> x.commonStart(5, 5), 96);
    }

    // "Empty stage, no backups."
    private static void newObjectIsEmpty() {
        SimilarDelta used = States.after(States::crowded);
        SimilarDelta x = new SimilarDelta();
        Due.stage("1 new", x);
        Due.noBackups("1 new", x);
        for (int slot = 0; slot < 6; slot++) {
            Due.is("1 byteAt(" + slot + ", 0)", x.byteAt(slot, 0), NO_BACKUP);
            Due.is("1 sum(" + slot + ")", x.sum(slot), 0);
            Due.is("1 drop(" + slot + ")", x.drop(slot), NO_BACKUP);
            Due.is("1 feedFrom(" + slot + ", 0, 0)", x.feedFrom(slot, 0, 0), NO_BACKUP);
            Due.is("1 commonStart(" + slot + ", " + slot + ")", x.commonStart(slot, slot), NO_BACKUP);
        }
        Due.is("1 poke", x.poke(0, 1), BAD_PLACE);
        Due.is("1 cut", x.cut(0, 1), BAD_PLACE);
        Due.is("1 room for 96", x.feedRun(0, 1, 96), 96);
        for (int slot = 0; slot < 6; slot++) {
            Due.is("1 every slot is free, " + slot, x.save(slot), 96);
        }
        Due.backup("1 another object stays", used, 0, States.crowdedBytes(0));
    }

    // "Tests in this order: slot not in 0 to 5: BAD_SLOT;" No slot can be outside 0 to 5 and hold a backup, so the two
    // refusals of save never apply at once.
    private static void saveIntoBadSlot() {
        for (int slot : States.BAD_SLOTS) {
            Twins.changesNothing("9 new, save(" + slot + ")", States::fresh, x -> x.save(slot), BAD_SLOT);
            Twins.changesNothing("9 save(" + slot + ")", States::busy, x -> x.save(slot), BAD_SLOT);
            Twins.changesNothing("9 full, save(" + slot + ")", States::full, x -> x.save(slot), BAD_SLOT);
            Twins.changesNothing("9 all used, save(" + slot + ")", States::crowded, x -> x.save(slot), BAD_SLOT);
        }
    }

    // "there is a backup: SLOT_USED. A refused call changes nothing."
    private static void saveIntoUsedSlot() {
        for (int slot : new int[] {0, 3, 5}) {
            Twins.changesNothing("9 used, save(" + slot + ")", States::busy, x -> x.save(slot), SLOT_USED);
            Twins.changesNothing("9 used, full, save(" + slot + ")", States::full, x -> x.save(slot), SLOT_USED);
        }
        for (int i = 0; i < 6; i++) {
            int slot = i;
            Consumer<SimilarDelta> steps = x -> {
                States.crowded(x);
                x.begin();
            };
            Twins.changesNothing("9 used, empty stage, save(" + slot + ")", steps, x -> x.save(slot), SLOT_USED);
        }
    }

    // "Else answers the backup's length (0 is allowed)."
    private static void saveAnswersLength() {
        for (int slot = 0; slot < 6; slot++) {
            for (int size : new int[] {0, 1, 95, 96}) {
                SimilarDelta x = new SimilarDelta();
                x.feedRun(6, 0, size);
                Due.is("9 save(" + slot + ") of " + size, x.save(slot), size);
                Due.backup("9 save(" + slot + ") of " + size, x, slot, Due.filled(size, 6));
                Due.is("9 save(" + slot + ") of " + size + " again", x.save(slot), SLOT_USED);
                Due.is("9 dropped", x.drop(slot), size);
                Due.is("9 save(" + slot + ") after drop", x.save(slot), size);
            }
        }
    }

    // "Saves the stage's bytes as the backup in a slot; the stage stays as it is."
    private static void saveLeavesStage() {
        SimilarDelta full = States.after(States::crowded);
        full.drop(2);
        full.save(2);
        Due.stage("9 a full stage stays", full, States.crowdedBytes(5));
        SimilarDelta ordinary = States.after(States::busy);
        ordinary.save(1);
        Due.stage("9 the stage stays", ordinary, 1, 200, 3);
        Due.is("9 the stage goes on", ordinary.feed(4), 4);
        ordinary.save(2);
        Due.backup("9 before", ordinary, 1, 1, 200, 3);
        Due.backup("9 after", ordinary, 2, 1, 200, 3, 4);
        SimilarDelta empty = new SimilarDelta();
        empty.save(0);
        Due.stage("9 an empty stage stays", empty);
    }

    // "slot not in 0 to 5: BAD_SLOT;" .. "nothing changes then."
    private static void dropOfBadSlot() {
        for (int slot : States.BAD_SLOTS) {
            Twins.changesNothing("10 new, drop(" + slot + ")", States::fresh, x -> x.drop(slot), BAD_SLOT);
            Twins.changesNothing("10 drop(" + slot + ")", States::busy, x -> x.drop(slot), BAD_SLOT);
            Twins.changesNothing("10 all used, drop(" + slot + ")", States::crowded, x -> x.drop(slot), BAD_SLOT);
        }
    }

    // "no backup there: NO_BACKUP; nothing changes then."
    private static void dropOfNoBackup() {
        for (int i = 0; i < 6; i++) {
            int slot = i;
            Twins.changesNothing("10 new, drop(" + slot + ")", States::fresh, x -> x.drop(slot), NO_BACKUP);
            Consumer<SimilarDelta> steps = x -> {
                States.crowded(x);
                x.drop(slot);
            };
            Twins.changesNothing("10 dropped, drop(" + slot + ")", steps, x -> x.drop(slot), NO_BACKUP);
        }
        for (int slot : NO_BACKUP_WHEN_BUSY) {
            Twins.changesNothing("10 drop(" + slot + ")", States::busy, x -> x.drop(slot), NO_BACKUP);
        }
    }

    // "Else answers its length."
    private static void dropAnswersLength() {
        SimilarDelta x = States.after(States::busy);
        Due.is("10 drop(0)", x.drop(0), 4);
        Due.is("10 an empty one, drop(3)", x.drop(3), 0);
        Due.is("10 one of 96, drop(5)", x.drop(5), 96);
        Due.noBackups("10 all dropped", x);
        Due.stage("10 the stage stays", x, 1, 200, 3);
        SimilarDelta all = States.after(States::crowded);
        for (int slot = 5; slot >= 0; slot--) {
            Due.is("10 drop(" + slot + ") of six", all.drop(slot), 96);
            Due.is("10 drop(" + slot + ") of six, gone", all.length(slot), NO_BACKUP);
        }
        Due.stage("10 a full stage stays", all, States.crowdedBytes(5));
    }

    // "slot not in 0 to 5: BAD_SLOT;"
    private static void lengthOfBadSlot() {
        for (int slot : States.BAD_SLOTS) {
            Twins.changesNothing("13 new, length(" + slot + ")", States::fresh, x -> x.length(slot), BAD_SLOT);
            Twins.changesNothing("13 all used, length(" + slot + ")", States::crowded, x -> x.length(slot), BAD_SLOT);
        }
    }

    // "no backup there: NO_BACKUP."
    private static void lengthOfNoBackup() {
        for (int i = 0; i < 6; i++) {
            int slot = i;
            Twins.changesNothing("13 new, length(" + slot + ")", States::fresh, x -> x.length(slot), NO_BACKUP);
        }
        for (int slot : NO_BACKUP_WHEN_BUSY) {
            Twins.changesNothing("13 length(" + slot + ")", States::busy, x -> x.length(slot), NO_BACKUP);
        }
    }

    // "The backup's length."
    private static void lengthAtTheEdges() {
        Twins.changesNothing("13 ordinary", States::full, x -> x.length(0), 4);
        Twins.changesNothing("13 empty", States::full, x -> x.length(3), 0);
        Twins.changesNothing("13 of 96", States::busy, x -> x.length(5), 96);
        SimilarDelta x = States.after(States::busy);
        x.drop(0);
        Due.is("13 dropped", x.length(0), NO_BACKUP);
        x.save(0);
        Due.is("13 saved anew", x.length(0), 3);
    }

    // "BAD_SLOT and NO_BACKUP as in length;"
    private static void byteAtRefusesSlotsFirst() {
        for (int at : new int[] {0, -1, 96, MAX, MIN}) {
            for (int slot : States.BAD_SLOTS) {
                String call = "byteAt(" + slot + ", " + at + ")";
                Twins.changesNothing("14 new, " + call, States::fresh, x -> x.byteAt(slot, at), BAD_SLOT);
                Twins.changesNothing("14 all used, " + call, States::crowded, x -> x.byteAt(slot, at), BAD_SLOT);
            }
            for (int slot : NO_BACKUP_WHEN_BUSY) {
                String call = "14 byteAt(" + slot + ", " + at + ")";
                Twins.changesNothing(call, States::busy, x -> x.byteAt(slot, at), NO_BACKUP);
            }
        }
    }

    // "then BAD_PLACE if there is no such byte."
    private static void byteAtWhereThereIsNone() {
        for (int at : new int[] {-1, -2, MIN, 4, 5, 95, 96, 97, MAX}) {
            Twins.changesNothing("14 byteAt(0, " + at + ")", States::busy, x -> x.byteAt(0, at), BAD_PLACE);
        }
        for (int at : new int[] {-1, 0, 1, MAX, MIN}) {
            Twins.changesNothing("14 empty, byteAt(3, " + at + ")", States::busy, x -> x.byteAt(3, at), BAD_PLACE);
        }
        for (int i = 0; i < 6; i++) {
            int slot = i;
            for (int at : new int[] {-1, -96, MIN, 96, 97, MAX}) {
                String call = "14 all used, byteAt(" + slot + ", " + at + ")";
                Twins.changesNothing(call, States::crowded, x -> x.byteAt(slot, at), BAD_PLACE);
            }
            Twins.changesNothing("14 first of " + i, States::crowded, x -> x.byteAt(slot, 0), States.crowdedBytes(i)[0]);
            Twins.changesNothing("14 last of " + i, States::crowded, x -> x.byteAt(slot, 95), States.crowdedBytes(i)[95]);
        }
    }

    // "from 7, for every byte number = number * 131 + byte (wrapping)."
    private static void sumWraps() {
        SimilarDelta x = new SimilarDelta();
        States.put(x, 0);
        States.put(x, 1, 0);
        States.put(x, 2, 255);
        States.put(x, 3, 0, 0, 0);
        States.put(x, 4, 0, 0, 0, 0);
        States.put(x, 5, 255, 254, 253, 252, 251);
        Due.is("15 empty", x.sum(0), 7);
        Due.is("15 a 0", x.sum(1), 7 * 131);
        Due.is("15 a 255", x.sum(2), 7 * 131 + 255);
        Due.is("15 before it wraps", x.sum(3), 15736637);
        Due.is("15 wrapped", x.sum(4), (int) (15736637L * 131));
        Due.is("15 wrapped twice", x.sum(5), Due.sumOf(255, 254, 253, 252, 251));
        for (int i = 0; i < 6; i++) {
            int slot = i;
            int due = Due.sumOf(States.crowdedBytes(slot));
            Twins.changesNothing("15 96 bytes, sum(" + slot + ")", States::crowded, y -> y.sum(slot), due);
        }
    }

    // "slot not in 0 to 5 or no backup there: 0."
    private static void sumOfNone() {
        for (int slot : States.BAD_SLOTS) {
            Twins.changesNothing("15 new, sum(" + slot + ")", States::fresh, x -> x.sum(slot), 0);
            Twins.changesNothing("15 all used, sum(" + slot + ")", States::crowded, x -> x.sum(slot), 0);
        }
        for (int slot : NO_BACKUP_WHEN_BUSY) {
            Twins.changesNothing("15 sum(" + slot + ")", States::busy, x -> x.sum(slot), 0);
        }
        for (int slot = 0; slot < 6; slot++) {
            SimilarDelta x = States.after(States::crowded);
            x.drop(slot);
            Due.is("15 dropped, sum(" + slot + ")", x.sum(slot), 0);
        }
    }

    // "the same slot twice is allowed: its length"
    private static void commonStartOfSameSlot() {
        Twins.changesNothing("16 ordinary", States::busy, x -> x.commonStart(0, 0), 4);
        Twins.changesNothing("16 empty", States::busy, x -> x.commonStart(3, 3), 0);
        Twins.changesNothing("16 of 96", States::busy, x -> x.commonStart(5, 5), 96);
    }

    // "How many bytes at their beginning two backups have in common"
    private static void commonStartAtTheEdges() {
        for (int differs = 0; differs < 96; differs++) {
            SimilarDelta x = new SimilarDelta();
            x.feedRun(5, 7, 96);
            x.save(0);
            x.save(5);
            int before = x.poke(differs, 0);
            x.poke(differs, before + 1);
            x.save(2);
            x.cut(differs, 96 - differs);
            x.save(3);
            Due.is("16 96 alike", x.commonStart(0, 5), 96);
            Due.is("16 first difference at " + differs, x.commonStart(0, 2), differs);
            Due.is("16 first difference at " + differs + ", turned", x.commonStart(2, 0), differs);
            Due.is("16 a beginning of " + differs, x.commonStart(0, 3), differs);
            Due.is("16 a beginning of " + differs + ", turned", x.commonStart(3, 0), differs);
        }
        SimilarDelta x = new SimilarDelta();
        States.put(x, 0, 9, 2, 3);
        States.put(x, 1, 1, 2, 3);
        States.put(x, 2);
        States.put(x, 3);
        Due.is("16 alike but for the first", x.commonStart(0, 1), 0);
        Due.is("16 two empty ones", x.commonStart(2, 3), 0);
        Due.is("16 one empty", x.commonStart(2, 0), 0);
        Due.is("16 the other empty", x.commonStart(0, 2), 0);
    }

    // "One slot not in 0 to 5: BAD_SLOT;"
    private static void commonStartBadSlotFirst() {
        for (int bad : States.BAD_SLOTS) {
            for (int other : new int[] {0, 1, 3, 4, 5, -1, 6, bad}) {
                commonStartRefused(bad, other, BAD_SLOT);
                commonStartRefused(other, bad, BAD_SLOT);
            }
        }
    }

    // "else one has no backup: NO_BACKUP."
    private static void commonStartNoBackupSecond() {
        for (int none : NO_BACKUP_WHEN_BUSY) {
            for (int other = 0; other < 6; other++) {
                commonStartRefused(none, other, NO_BACKUP);
                commonStartRefused(other, none, NO_BACKUP);
            }
        }
    }

    private static void commonStartRefused(int slotA, int slotB, int due) {
        String call = "16 commonStart(" + slotA + ", " + slotB + ")";
        Twins.changesNothing(call, States::busy, x -> x.commonStart(slotA, slotB), due);
    }
}
