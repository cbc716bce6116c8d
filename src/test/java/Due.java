import java.util.Arrays;

/** Compares answers with those that are due, counts the wrong ones, and ends a test. */
final class Due {
    private static int wrong = 0;

    private Due() {
    }

    static void is(String what, long got, long want) {
        if (got != want) {
            wrong++;
            System.out.println(what + " answered " + got + ", due is " + want);
        }
    }

    static void isTrue(String what, boolean holds) {
        is(what, holds ? 1 : 0, 1);
    }

    /** Answers in a row; tells the first wrong one alone, for those behind it often follow from it. */
    static void same(String what, int[] got, int[] want) {
        int at = Arrays.mismatch(got, want);
        if (at >= 0) {
            is(what + ", answer " + at, got[at], want[at]);
        }
    }

    /** The whole stage, and that nothing lies around it; takes 3 calls and one for every byte. */
    static void stage(String what, SimilarDelta x, int... want) {
        is(what + ": stageLength()", x.stageLength(), want.length);
        for (int at = 0; at < want.length; at++) {
            is(what + ": stageByte(" + at + ")", x.stageByte(at), want[at]);
        }
        is(what + ": stageByte(-1)", x.stageByte(-1), SimilarDelta.BAD_PLACE);
        is(what + ": stageByte(length)", x.stageByte(want.length), SimilarDelta.BAD_PLACE);
    }

    /** The whole backup, and that nothing lies around it; takes 4 calls and one for every byte. */
    static void backup(String what, SimilarDelta x, int slot, int... want) {
        is(what + ": length(" + slot + ")", x.length(slot), want.length);
        for (int at = 0; at < want.length; at++) {
            is(what + ": byteAt(" + slot + ", " + at + ")", x.byteAt(slot, at), want[at]);
        }
        is(what + ": byteAt(" + slot + ", -1)", x.byteAt(slot, -1), SimilarDelta.BAD_PLACE);
        is(what + ": byteAt(" + slot + ", length)", x.byteAt(slot, want.length), SimilarDelta.BAD_PLACE);
        is(what + ": sum(" + slot + ")", x.sum(slot), sumOf(want));
    }

    static void noBackups(String what, SimilarDelta x) {
        for (int slot = 0; slot < 6; slot++) {
            is(what + ": length(" + slot + ")", x.length(slot), SimilarDelta.NO_BACKUP);
        }
    }

    static int[] filled(int count, int value) {
        int[] bytes = new int[count];
        Arrays.fill(bytes, value);
        return bytes;
    }

    static int sumOf(int... bytes) {
        java.math.BigInteger number = java.math.BigInteger.valueOf(7);
        for (int b : bytes) {
            number = number.multiply(java.math.BigInteger.valueOf(131)).add(java.math.BigInteger.valueOf(b));
        }
        return number.intValue();
    }

    static void end(String test) {
        System.out.println(test + ": " + (wrong == 0 ? "all answers are as due" : wrong + " answers are not as due"));
        if (wrong != 0) {
            System.exit(1);
        }
    }
}
