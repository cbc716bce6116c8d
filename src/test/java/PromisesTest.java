/** A method for each promise of the document: ordinary inputs, the edges it names, and wrong inputs. */
public final class PromisesTest {
    private static final int STAGE_FULL = -1;
    private static final int BAD_SLOT = -2;
    private static final int SLOT_USED = -3;
    private static final int NO_BACKUP = -4;
    private static final int BAD_PLACE = -5;
    private static final int MAX = Integer.MAX_VALUE;
    private static final int MIN = Integer.MIN_VALUE;
    private static final int[] BAD_SLOTS = {-1, 6, 7, 96, MAX, MIN};

    public static void main(String[] args) {
        promise1NewObject();
        promise2Begin();
        promise3Feed();
        promise4FeedRun();
        promise4FeedRunEdges();
        promise5FeedFrom();
        promise5FeedFromOrder();
        promise6Poke();
        promise7Insert();
        promise7InsertFull();
        promise8Cut();
        promise9Save();
        promise9SavedNeverChanges();
        promise10Drop();
        promise11StageLength();
        promise12StageByte();
        promise13Length();
        promise14ByteAt();
        promise15Sum();
        promise16CommonStart();
        Due.end("PromisesTest");
    }

    private static SimilarDelta staged(int... bytes) {
        SimilarDelta x = new SimilarDelta();
        for (int b : bytes) {
            x.feed(b);
        }
        return x;
    }

    private static void promise1NewObject() {
        SimilarDelta x = new SimilarDelta();
        Due.stage("1 new", x);
        Due.noBackups("1 new", x);
        x.feed(1);
        x.save(0);
        SimilarDelta y = new SimilarDelta();
        Due.stage("1 second object", y);
        Due.noBackups("1 second object", y);
        y.feed(2);
        Due.stage("1 objects are apart", x, 1);
    }

    private static void promise2Begin() {
        SimilarDelta x = staged(1, 2, 3);
        x.save(2);
        x.begin();
        Due.stage("2 begin", x);
        Due.backup("2 begin leaves backups", x, 2, 1, 2, 3);
        x.begin();
        Due.stage("2 begin twice", x);
        Due.is("2 feed after begin", x.feed(9), 1);
        Due.stage("2 feed after begin", x, 9);
        x.feedRun(0, 0, 95);
        x.begin();
        Due.is("2 begin after full", x.feed(5), 1);
        Due.stage("2 begin after full", x, 5);
    }

    private static void promise3Feed() {
        SimilarDelta x = new SimilarDelta();
        int[] given = {0, 255, 256, -1, -256, 300, MAX, MIN, 128};
        for (int i = 0; i < given.length; i++) {
            Due.is("3 feed(" + given[i] + ")", x.feed(given[i]), i + 1);
        }
        Due.stage("3 feed", x, 0, 255, 0, 255, 0, 44, 255, 0, 128);
        for (int size = 10; size <= 96; size++) {
            Due.is("3 feed to " + size, x.feed(size), size);
        }
        Due.is("3 full", x.feed(1), STAGE_FULL);
        Due.is("3 full again", x.feed(-1), STAGE_FULL);
        Due.is("3 full keeps length", x.stageLength(), 96);
        Due.is("3 full keeps last", x.stageByte(95), 96);
        Due.is("3 full keeps first", x.stageByte(0), 0);
        x.cut(0, 1);
        Due.is("3 room again", x.feed(77), 96);
        Due.is("3 room again, byte", x.stageByte(95), 77);
    }

    private static void promise4FeedRun() {
        SimilarDelta x = staged(9);
        Due.is("4 run", x.feedRun(250, 3, 4), 5);
        Due.stage("4 run", x, 9, 250, 253, 0, 3);
        Due.is("4 down", x.feedRun(1, -1, 3), 8);
        Due.stage("4 down", x, 9, 250, 253, 0, 3, 1, 0, 255);
        Due.is("4 n 0", x.feedRun(5, 5, 0), 8);
        Due.is("4 n -1", x.feedRun(5, 5, -1), 8);
        Due.is("4 n MIN", x.feedRun(5, 5, MIN), 8);
        Due.stage("4 n below 1", x, 9, 250, 253, 0, 3, 1, 0, 255);
        x.begin();
        Due.is("4 wrapping", x.feedRun(MAX, MAX, 3), 3);
        Due.stage("4 wrapping", x, 255, 254, 253);
        x.begin();
        Due.is("4 MIN", x.feedRun(MIN, MIN + 1, 3), 3);
        Due.stage("4 MIN", x, 0, 1, 2);
        x.begin();
        Due.is("4 large step", x.feedRun(-1, 257, 3), 3);
        Due.stage("4 large step", x, 255, 0, 1);
    }

    private static void promise4FeedRunEdges() {
        SimilarDelta x = new SimilarDelta();
        Due.is("4 97", x.feedRun(1, 1, 97), STAGE_FULL);
        Due.is("4 MAX", x.feedRun(1, 1, MAX), STAGE_FULL);
        Due.stage("4 refused", x);
        x.feed(8);
        Due.is("4 1 and 96", x.feedRun(1, 1, 96), STAGE_FULL);
        Due.is("4 1 and MAX", x.feedRun(1, 1, MAX), STAGE_FULL);
        Due.stage("4 refused with 1", x, 8);
        Due.is("4 1 and 95", x.feedRun(7, 0, 95), 96);
        int[] want = Due.filled(96, 7);
        want[0] = 8;
        Due.stage("4 filled", x, want);
        Due.is("4 full and 1", x.feedRun(1, 1, 1), STAGE_FULL);
        Due.is("4 full and 0", x.feedRun(1, 1, 0), 96);
        Due.is("4 full and -5", x.feedRun(1, 1, -5), 96);
        Due.stage("4 full", x, want);
        x.begin();
        Due.is("4 96 at once", x.feedRun(0, 1, 96), 96);
        Due.is("4 last of 96", x.stageByte(95), 95);
    }

    private static void promise5FeedFrom() {
        SimilarDelta x = staged(10, 20, 30, 40);
        x.save(0);
        States.put(x, 5, 50, 60);
        x.begin();
        x.feed(1);
        Due.is("5 middle", x.feedFrom(0, 1, 2), 3);
        Due.is("5 whole", x.feedFrom(5, 0, 2), 5);
        Due.is("5 to the end", x.feedFrom(0, 3, 1), 6);
        Due.is("5 none at the end", x.feedFrom(0, 4, 0), 6);
        Due.is("5 none at the start", x.feedFrom(0, 0, 0), 6);
        Due.stage("5", x, 1, 20, 30, 50, 60, 40);
        int[][] badPlaces = {{-1, 1}, {-1, 0}, {0, -1}, {4, -1}, {5, -1}, {-1, -1}, {0, 5}, {1, 4}, {4, 1}, {5, 0}, {MAX, 1},
            {1, MAX}, {MAX, MAX}, {MIN, MIN}, {MIN, 0}, {0, MIN}, {MAX, MIN}, {MIN, MAX}, {MAX, 0}};
        for (int[] place : badPlaces) {
            String call = "5 feedFrom(0, " + place[0] + ", " + place[1] + ")";
            Due.is(call, x.feedFrom(0, place[0], place[1]), BAD_PLACE);
        }
        Due.stage("5 refused", x, 1, 20, 30, 50, 60, 40);
        Due.backup("5 source stays", x, 0, 10, 20, 30, 40);
        States.put(x, 3);
        Due.is("5 from an empty one", x.feedFrom(3, 0, 0), 0);
        Due.is("5 too much of an empty one", x.feedFrom(3, 0, 1), BAD_PLACE);
        States.put(x, 4, 3);
        Due.is("5 drop", x.drop(0), 4);
        Due.is("5 dropped", x.feedFrom(0, 0, 1), NO_BACKUP);
        Due.stage("5 dropped", x, 3);
    }

    private static void promise5FeedFromOrder() {
        SimilarDelta x = new SimilarDelta();
        x.feedRun(0, 1, 95);
        x.save(1);
        x.feed(200);
        for (int slot : BAD_SLOTS) {
            Due.is("5 bad slot " + slot, x.feedFrom(slot, -1, 97), BAD_SLOT);
        }
        Due.is("5 no backup before bad place", x.feedFrom(0, -1, 97), NO_BACKUP);
        Due.is("5 bad place before full", x.feedFrom(1, 0, 96), BAD_PLACE);
        Due.is("5 full", x.feedFrom(1, 0, 1), STAGE_FULL);
        Due.is("5 none into the full", x.feedFrom(1, 95, 0), 96);
        x.cut(0, 5);
        Due.is("5 91 and 6", x.feedFrom(1, 0, 6), STAGE_FULL);
        Due.is("5 refused keeps length", x.stageLength(), 91);
        Due.is("5 refused keeps last", x.stageByte(90), 200);
        Due.is("5 91 and 5", x.feedFrom(1, 90, 5), 96);
        Due.is("5 last byte", x.stageByte(95), 94);
        Due.is("5 first taken byte", x.stageByte(91), 90);
    }

    private static void promise6Poke() {
        SimilarDelta x = staged(5, 6, 7);
        x.save(0);
        Due.is("6 poke(0)", x.poke(0, 100), 5);
        Due.is("6 poke(2)", x.poke(2, -1), 7);
        Due.is("6 poke(2) again", x.poke(2, 256 + 9), 255);
        Due.stage("6", x, 100, 6, 9);
        for (int at : new int[] {-1, 3, 4, 95, 96, 97, MAX, MIN}) {
            Due.is("6 poke(" + at + ")", x.poke(at, 1), BAD_PLACE);
        }
        Due.stage("6 refused", x, 100, 6, 9);
        Due.backup("6 backup stays", x, 0, 5, 6, 7);
        x.begin();
        Due.is("6 empty stage", x.poke(0, 1), BAD_PLACE);
        x.feedRun(0, 1, 96);
        Due.is("6 last of the full stage", x.poke(95, 1), 95);
        Due.is("6 last of the full stage, byte", x.stageByte(95), 1);
        Due.is("6 behind the full stage", x.poke(96, 1), BAD_PLACE);
    }

    private static void promise7Insert() {
        SimilarDelta x = new SimilarDelta();
        Due.is("7 bad place in the empty", x.insert(1, 9), BAD_PLACE);
        Due.is("7 into the empty", x.insert(0, 9), 1);
        Due.is("7 at the end", x.insert(1, -1), 2);
        Due.is("7 at the start", x.insert(0, 256 + 3), 3);
        Due.is("7 in the middle", x.insert(1, 4), 4);
        Due.stage("7", x, 3, 4, 9, 255);
        for (int at : new int[] {-1, 5, 6, 96, 97, MAX, MIN}) {
            Due.is("7 insert(" + at + ")", x.insert(at, 1), BAD_PLACE);
        }
        Due.stage("7 refused", x, 3, 4, 9, 255);
    }

    private static void promise7InsertFull() {
        SimilarDelta x = new SimilarDelta();
        x.feedRun(2, 0, 95);
        Due.is("7 the 96th", x.insert(0, 1), 96);
        int[] want = Due.filled(96, 2);
        want[0] = 1;
        Due.stage("7 filled", x, want);
        Due.is("7 full at 0", x.insert(0, 5), STAGE_FULL);
        Due.is("7 full at 95", x.insert(95, 5), STAGE_FULL);
        Due.is("7 full at 96", x.insert(96, 5), STAGE_FULL);
        Due.is("7 bad place before full, 97", x.insert(97, 5), BAD_PLACE);
        Due.is("7 bad place before full, -1", x.insert(-1, 5), BAD_PLACE);
        Due.is("7 bad place before full, MAX", x.insert(MAX, 5), BAD_PLACE);
        Due.stage("7 full", x, want);
        x.cut(95, 1);
        Due.is("7 the 96th at the end", x.insert(95, 8), 96);
        Due.is("7 the 96th at the end, byte", x.stageByte(95), 8);
    }

    private static void promise8Cut() {
        SimilarDelta x = staged(1, 2, 3, 4, 5, 6);
        x.save(0);
        int[][] badPlaces = {{-1, 1}, {-1, 0}, {0, -1}, {6, -1}, {7, -1}, {-1, -1}, {0, 7}, {6, 1}, {7, 0}, {5, 2}, {MAX, 1},
            {1, MAX}, {MAX, MAX}, {MIN, MIN}, {MIN, 0}, {0, MIN}, {MAX, MIN}, {MIN, MAX}, {MAX, 0}, {0, 96}};
        for (int[] place : badPlaces) {
            Due.is("8 cut(" + place[0] + ", " + place[1] + ")", x.cut(place[0], place[1]), BAD_PLACE);
        }
        Due.stage("8 refused", x, 1, 2, 3, 4, 5, 6);
        Due.is("8 none", x.cut(2, 0), 6);
        Due.is("8 none at the end", x.cut(6, 0), 6);
        Due.stage("8 none", x, 1, 2, 3, 4, 5, 6);
        Due.is("8 middle", x.cut(1, 2), 4);
        Due.stage("8 middle", x, 1, 4, 5, 6);
        Due.is("8 end", x.cut(3, 1), 3);
        Due.stage("8 end", x, 1, 4, 5);
        Due.is("8 start", x.cut(0, 1), 2);
        Due.stage("8 start", x, 4, 5);
        Due.is("8 all", x.cut(0, 2), 0);
        Due.stage("8 all", x);
        Due.is("8 none of the empty", x.cut(0, 0), 0);
        Due.is("8 one of the empty", x.cut(0, 1), BAD_PLACE);
        Due.backup("8 backup stays", x, 0, 1, 2, 3, 4, 5, 6);
        x.feedRun(0, 1, 96);
        Due.is("8 all of the full but the last", x.cut(0, 95), 1);
        Due.stage("8 all of the full but the last", x, 95);
    }

    private static void promise9Save() {
        SimilarDelta x = staged(1, 2);
        for (int slot : BAD_SLOTS) {
            Due.is("9 save(" + slot + ")", x.save(slot), BAD_SLOT);
        }
        Due.noBackups("9 refused", x);
        for (int slot = 0; slot < 6; slot++) {
            Due.is("9 save(" + slot + ")", x.save(slot), 2 + slot);
            x.feed(10 + slot);
        }
        Due.stage("9 stage stays", x, 1, 2, 10, 11, 12, 13, 14, 15);
        Due.is("9 used", x.save(0), SLOT_USED);
        Due.is("9 used", x.save(5), SLOT_USED);
        Due.stage("9 stage stays when refused", x, 1, 2, 10, 11, 12, 13, 14, 15);
        Due.backup("9", x, 0, 1, 2);
        Due.backup("9", x, 1, 1, 2, 10);
        Due.backup("9", x, 2, 1, 2, 10, 11);
        Due.backup("9", x, 3, 1, 2, 10, 11, 12);
        Due.backup("9", x, 4, 1, 2, 10, 11, 12, 13);
        Due.backup("9", x, 5, 1, 2, 10, 11, 12, 13, 14);
        x.drop(4);
        x.begin();
        Due.is("9 empty", x.save(4), 0);
        Due.backup("9 empty", x, 4);
        Due.is("9 an empty backup is one", x.save(4), SLOT_USED);
        x.drop(4);
        x.feedRun(0, 2, 96);
        Due.is("9 96 bytes", x.save(4), 96);
        Due.is("9 96 bytes, last", x.byteAt(4, 95), 190);
        Due.backup("9 neighbour below", x, 3, 1, 2, 10, 11, 12);
        Due.backup("9 neighbour above", x, 5, 1, 2, 10, 11, 12, 13, 14);
    }

    private static void promise9SavedNeverChanges() {
        SimilarDelta x = staged(1, 2, 3);
        x.save(0);
        x.poke(0, 9);
        x.save(1);
        x.insert(1, 8);
        x.save(2);
        x.cut(0, 1);
        x.feedFrom(0, 0, 3);
        x.save(3);
        x.begin();
        x.feedRun(200, 1, 96);
        x.drop(1);
        x.save(1);
        x.drop(0);
        x.poke(0, 77);
        Due.is("9 dropped stays dropped", x.length(0), NO_BACKUP);
        Due.backup("9 kept", x, 2, 9, 8, 2, 3);
        Due.backup("9 kept", x, 3, 8, 2, 3, 1, 2, 3);
        Due.is("9 kept first byte", x.byteAt(1, 0), 200);
        Due.is("9 kept last byte", x.byteAt(1, 95), (200 + 95) & 255);
    }

    private static void promise10Drop() {
        SimilarDelta x = staged(1, 2, 3);
        for (int slot : BAD_SLOTS) {
            Due.is("10 drop(" + slot + ")", x.drop(slot), BAD_SLOT);
        }
        Due.is("10 no backup", x.drop(0), NO_BACKUP);
        Due.is("10 no backup", x.drop(5), NO_BACKUP);
        x.save(0);
        x.save(5);
        x.feed(4);
        x.save(1);
        Due.is("10 drop(0)", x.drop(0), 3);
        Due.is("10 gone", x.length(0), NO_BACKUP);
        Due.is("10 twice", x.drop(0), NO_BACKUP);
        Due.is("10 bad slot with backups", x.drop(6), BAD_SLOT);
        Due.backup("10 others stay", x, 1, 1, 2, 3, 4);
        Due.backup("10 others stay", x, 5, 1, 2, 3);
        Due.stage("10 stage stays", x, 1, 2, 3, 4);
        Due.is("10 drop(5)", x.drop(5), 3);
        Due.is("10 drop(1)", x.drop(1), 4);
        Due.noBackups("10 all gone", x);
        x.cut(1, 3);
        Due.is("10 slot is free again", x.save(0), 1);
        Due.backup("10 slot is free again", x, 0, 1);
        x.begin();
        x.save(2);
        Due.is("10 empty backup", x.drop(2), 0);
        Due.is("10 empty backup is gone", x.drop(2), NO_BACKUP);
    }

    private static void promise11StageLength() {
        SimilarDelta x = new SimilarDelta();
        Due.is("11 new", x.stageLength(), 0);
        x.feedRun(0, 0, 95);
        Due.is("11 95", x.stageLength(), 95);
        x.insert(3, 3);
        Due.is("11 96", x.stageLength(), 96);
        x.insert(3, 3);
        Due.is("11 still 96", x.stageLength(), 96);
        x.save(0);
        Due.is("11 after save", x.stageLength(), 96);
        x.cut(10, 80);
        Due.is("11 after cut", x.stageLength(), 16);
        x.feedFrom(0, 0, 4);
        Due.is("11 after feedFrom", x.stageLength(), 20);
        x.begin();
        Due.is("11 after begin", x.stageLength(), 0);
    }

    private static void promise12StageByte() {
        SimilarDelta x = new SimilarDelta();
        Due.is("12 empty", x.stageByte(0), BAD_PLACE);
        x.feedRun(160, 1, 96);
        for (int at = 0; at < 96; at++) {
            Due.is("12 stageByte(" + at + ")", x.stageByte(at), 160 + at);
        }
        for (int at : new int[] {-1, 96, 97, MAX, MIN}) {
            Due.is("12 stageByte(" + at + ")", x.stageByte(at), BAD_PLACE);
        }
        x.cut(50, 46);
        Due.is("12 last after cut", x.stageByte(49), 209);
        Due.is("12 behind the last after cut", x.stageByte(50), BAD_PLACE);
        x.begin();
        Due.is("12 after begin", x.stageByte(0), BAD_PLACE);
    }

    private static void promise13Length() {
        SimilarDelta x = staged(1, 2, 3);
        for (int slot : BAD_SLOTS) {
            Due.is("13 length(" + slot + ")", x.length(slot), BAD_SLOT);
        }
        Due.noBackups("13", x);
        x.save(0);
        x.begin();
        x.save(3);
        x.feedRun(0, 0, 96);
        x.save(5);
        Due.is("13 length(0)", x.length(0), 3);
        Due.is("13 length(3)", x.length(3), 0);
        Due.is("13 length(5)", x.length(5), 96);
        Due.is("13 length(4)", x.length(4), NO_BACKUP);
        Due.is("13 length(6)", x.length(6), BAD_SLOT);
        x.drop(3);
        Due.is("13 dropped", x.length(3), NO_BACKUP);
    }

    private static void promise14ByteAt() {
        SimilarDelta x = new SimilarDelta();
        for (int slot : BAD_SLOTS) {
            Due.is("14 byteAt(" + slot + ", -1)", x.byteAt(slot, -1), BAD_SLOT);
            Due.is("14 byteAt(" + slot + ", 0)", x.byteAt(slot, 0), BAD_SLOT);
        }
        Due.is("14 no backup before bad place", x.byteAt(0, -1), NO_BACKUP);
        Due.is("14 no backup", x.byteAt(5, 0), NO_BACKUP);
        x.save(0);
        Due.is("14 empty backup", x.byteAt(0, 0), BAD_PLACE);
        x.feedRun(160, 1, 96);
        x.save(5);
        for (int at = 0; at < 96; at++) {
            Due.is("14 byteAt(5, " + at + ")", x.byteAt(5, at), 160 + at);
        }
        for (int at : new int[] {-1, -96, 96, 97, MAX, MIN}) {
            Due.is("14 byteAt(5, " + at + ")", x.byteAt(5, at), BAD_PLACE);
        }
        States.put(x, 1, 7, 8);
        Due.is("14 last", x.byteAt(1, 1), 8);
        Due.is("14 behind the last", x.byteAt(1, 2), BAD_PLACE);
        x.drop(1);
        Due.is("14 dropped", x.byteAt(1, 0), NO_BACKUP);
    }

    private static void promise15Sum() {
        SimilarDelta x = new SimilarDelta();
        for (int slot : BAD_SLOTS) {
            Due.is("15 sum(" + slot + ")", x.sum(slot), 0);
        }
        Due.is("15 no backup", x.sum(0), 0);
        x.save(0);
        Due.is("15 empty", x.sum(0), 7);
        States.put(x, 1, 0);
        Due.is("15 a zero", x.sum(1), 917);
        States.put(x, 2, 1, 255);
        Due.is("15 two bytes", x.sum(2), (7 * 131 + 1) * 131 + 255);
        States.put(x, 3, 255, 1);
        Due.is("15 the other order", x.sum(3), (7 * 131 + 255) * 131 + 1);
        States.put(x, 4, 255, 255, 255, 255, 255);
        Due.is("15 wrapping", x.sum(4), Due.sumOf(255, 255, 255, 255, 255));
        x.begin();
        x.feedRun(200, 0, 96);
        x.save(5);
        Due.is("15 96 bytes", x.sum(5), Due.sumOf(Due.filled(96, 200)));
        x.drop(5);
        Due.is("15 dropped", x.sum(5), 0);
    }

    private static void promise16CommonStart() {
        SimilarDelta x = new SimilarDelta();
        States.put(x, 0, 1, 2, 3, 4);
        States.put(x, 1, 1, 2, 9, 4);
        States.put(x, 2, 1, 2, 3);
        States.put(x, 3);
        States.put(x, 5, 8, 2, 3, 4);
        int[][] due = {{0, 1, 2}, {1, 0, 2}, {0, 2, 3}, {2, 0, 3}, {1, 2, 2}, {0, 3, 0}, {3, 0, 0}, {0, 5, 0}, {5, 0, 0},
            {0, 0, 4}, {2, 2, 3}, {3, 3, 0}, {5, 5, 4}, {0, 4, NO_BACKUP}, {4, 0, NO_BACKUP}, {4, 4, NO_BACKUP}};
        for (int[] row : due) {
            Due.is("16 commonStart(" + row[0] + ", " + row[1] + ")", x.commonStart(row[0], row[1]), row[2]);
        }
        for (int slot : BAD_SLOTS) {
            for (int other : new int[] {0, 3, 4, slot, -1, 6}) {
                Due.is("16 commonStart(" + slot + ", " + other + ")", x.commonStart(slot, other), BAD_SLOT);
                Due.is("16 commonStart(" + other + ", " + slot + ")", x.commonStart(other, slot), BAD_SLOT);
            }
        }
        x.begin();
        x.feedRun(0, 3, 96);
        x.save(4);
        x.drop(5);
        x.save(5);
        Due.is("16 96 equal bytes", x.commonStart(4, 5), 96);
        x.poke(95, 0);
        x.drop(5);
        x.save(5);
        Due.is("16 the last differs", x.commonStart(4, 5), 95);
        x.drop(4);
        Due.is("16 dropped", x.commonStart(4, 5), NO_BACKUP);
    }
}
