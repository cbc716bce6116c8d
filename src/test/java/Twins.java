import java.util.ArrayList;
import java.util.List;
import java.util.function.Consumer;
import java.util.function.Function;
import java.util.function.ToIntFunction;
import java.util.stream.IntStream;

/**
 * Shows that a call changes nothing: two objects go through the same steps, one of them gets the call on top, and from
 * then on both must answer alike. Each look has two objects of its own, for all looks at one object would take more
 * than the 512 calls that the document allows.
 */
final class Twins {
    private static final List<Look> LOOKS = looks();

    private record Look(String name, Function<SimilarDelta, IntStream> answers) {
    }

    private Twins() {
    }

    static void changesNothing(String what, Consumer<SimilarDelta> steps, ToIntFunction<SimilarDelta> call, int due) {
        SimilarDelta asked = States.after(steps);
        Due.is(what, call.applyAsInt(asked), due);
        Due.is(what + ", asked again", call.applyAsInt(asked), due);
        for (Look look : LOOKS) {
            SimilarDelta called = States.after(steps);
            call.applyAsInt(called);
            int[] got = look.answers.apply(called).toArray();
            int[] want = look.answers.apply(States.after(steps)).toArray();
            Due.same(what + ", then " + look.name, got, want);
        }
    }

    private static List<Look> looks() {
        List<Look> looks = new ArrayList<>();
        looks.add(new Look("stageLength", x -> IntStream.of(x.stageLength())));
        looks.add(new Look("stageByte from -1", x -> IntStream.rangeClosed(-1, 96).map(x::stageByte)));
        looks.add(new Look("length of each slot", x -> IntStream.range(0, 6).map(x::length)));
        looks.add(new Look("sum of each slot", x -> IntStream.range(0, 6).map(x::sum)));
        looks.add(new Look("commonStart of each two", x -> IntStream.range(0, 36).map(i -> x.commonStart(i / 6, i % 6))));
        for (int i = 0; i < 6; i++) {
            int slot = i;
            looks.add(new Look("byteAt from -1 in slot " + slot,
                x -> IntStream.rangeClosed(-1, 96).map(at -> x.byteAt(slot, at))));
        }
        looks.add(new Look("calls that grow the stage", Twins::grow));
        looks.add(new Look("calls that edit the stage", Twins::edit));
        looks.add(new Look("a stage begun anew", Twins::beginAnew));
        looks.add(new Look("save and drop of each slot", Twins::saveAndDrop));
        return looks;
    }

    private static IntStream grow(SimilarDelta x) {
        IntStream.Builder answers = IntStream.builder();
        answers.add(x.feed(1)).add(x.feedRun(2, 1, 2)).add(x.insert(0, 3));
        for (int slot = 0; slot < 6; slot++) {
            answers.add(x.feedFrom(slot, 0, 1));
        }
        return IntStream.concat(answers.build(), IntStream.rangeClosed(-1, 96).map(x::stageByte));
    }

    private static IntStream edit(SimilarDelta x) {
        IntStream.Builder answers = IntStream.builder();
        answers.add(x.poke(0, 1)).add(x.cut(0, 2)).add(x.insert(1, 2)).add(x.feed(3)).add(x.feed(4));
        return IntStream.concat(answers.build(), IntStream.rangeClosed(-1, 96).map(x::stageByte));
    }

    private static IntStream beginAnew(SimilarDelta x) {
        x.begin();
        IntStream.Builder answers = IntStream.builder();
        answers.add(x.stageByte(0)).add(x.feed(1)).add(x.stageByte(1)).add(x.feedRun(2, 1, 96)).add(x.feedRun(2, 1, 95));
        return IntStream.concat(answers.build(), IntStream.rangeClosed(-1, 96).map(x::stageByte));
    }

    private static IntStream saveAndDrop(SimilarDelta x) {
        IntStream.Builder answers = IntStream.builder();
        for (int slot = 0; slot < 6; slot++) {
            answers.add(x.save(slot)).add(x.sum(slot)).add(x.drop(slot)).add(x.drop(slot)).add(x.save(slot)).add(x.sum(slot));
        }
        return answers.build();
    }
}
