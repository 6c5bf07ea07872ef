import java.util.ArrayList;
import java.util.List;
import java.util.function.Consumer;
import java.util.function.Supplier;

/**
 * Two objects with the same calls behind them, of which one heard a call more: whether that call
 * changed anything shows in all that the two answer from then on.
 */
final class Twins {
    private static final int MOST_STEPS = 41;
    private static final int MOST_CALLS = 480;

    private Twins() {
    }

    /** What a call that is refused must not do: whatever comes to light later is the same. */
    static void nothingHappens(Check check, String what, Supplier<BackLogic> make, Consumer<BackLogic> call) {
        BackLogic heard = make.get();
        call.accept(heard);
        same(check, what, heard, make.get());
    }

    static void same(Check check, String what, BackLogic one, BackLogic other) {
        List<String> names = new ArrayList<>();
        List<Integer> ofOne = trace(one, names);
        List<Integer> ofOther = trace(other, new ArrayList<>());
        check.due(what + ": answers", ofOne.size(), ofOther.size());
        for (int i = 0; i < Math.min(ofOne.size(), ofOther.size()); i++) {
            check.due(what + ": then " + names.get(i), ofOne.get(i), ofOther.get(i));
        }
    }

    /** All that can be seen; then all undone step by step, each slot restored, the tape read. */
    private static List<Integer> trace(BackLogic x, List<String> names) {
        List<Integer> answers = new ArrayList<>();
        for (int what = 0; what <= 16; what++) {
            add(answers, names, "count " + what, x.count(what));
        }
        add(answers, names, "place", x.place());
        for (int what = 0; what <= 4; what++) {
            add(answers, names, "table " + what, x.table(what));
        }
        add(answers, names, "laid 0", x.laid(0));
        add(answers, names, "laid 1", x.laid(1));
        gates(x, "now", answers, names);
        for (int step = 0; step < MOST_STEPS; step++) {
            boolean undone = x.undo();
            add(answers, names, "undo " + step, undone ? 1 : 0);
            if (!undone) {
                break;
            }
            gates(x, "undone " + step, answers, names);
        }
        for (int slot = 0; slot < 3; slot++) {
            add(answers, names, "restore " + slot, x.restore(slot) ? 1 : 0);
            gates(x, "slot " + slot, answers, names);
        }
        add(answers, names, "read", x.read());
        add(answers, names, "place of read", x.place());
        add(answers, names, "wires read", x.count(0));
        gates(x, "read", answers, names);
        if (answers.size() > MOST_CALLS) {
            throw new IllegalStateException("an object is promised for 512 calls");
        }
        return answers;
    }

    private static void gates(BackLogic x, String when, List<Integer> answers, List<String> names) {
        int size = x.count(1);
        add(answers, names, "gates " + when, size);
        for (int i = 0; i < size; i++) {
            for (int what = 0; what <= 2; what++) {
                add(answers, names, "gate " + i + " " + what + " " + when, x.gate(i, what));
            }
        }
    }

    private static void add(List<Integer> answers, List<String> names, String name, int answer) {
        answers.add(answer);
        names.add(name);
    }
}
