import java.util.ArrayList;
import java.util.HashMap;
import java.util.List;
import java.util.Map;

/**
 * Promises 9, 18 and 26 for every order of three wires and fewer: how many orders take how many
 * gates, and that the first of the shortest cascades is told.
 */
public final class LeastTest {
    // How many orders of three wires take 0, 1, .. gates: known since long.
    private static final int[] THREE = {1, 12, 102, 625, 2780, 8921, 17049, 10253, 577};
    private static final String[] WIRES = {"", "wire a;", "wire a;wire b;", "wire a;wire b;wire c;"};
    private static final int CALLS = 400;
    private static final Check CHECK = new Check("LeastTest");

    private final int wires;
    private final List<int[]> kinds = new ArrayList<>();
    // For each order its first shortest cascade, as the numbers of its kinds.
    private final Map<Long, String> first = new HashMap<>();

    private LeastTest(int wires) {
        this.wires = wires;
        for (int target = 0; target < wires; target++) {
            for (int on = 0; on < 1 << wires; on++) {
                if ((on >> target & 1) == 0) {
                    kinds.add(new int[] {target, on});
                }
            }
        }
    }

    public static void main(String[] args) {
        int[] sizes = {1, 2, 24, 40320};
        for (int wires = 0; wires <= 3; wires++) {
            LeastTest one = new LeastTest(wires);
            one.collect();
            CHECK.due("orders of " + wires, one.first.size(), sizes[wires]);
            one.compare();
        }
        CHECK.end();
    }

    private static int turn(int[] kind, int row) {
        return (row & kind[1]) == kind[1] ? row ^ 1 << kind[0] : row;
    }

    private long key(String cascade) {
        long key = 0;
        for (int row = 0; row < 1 << wires; row++) {
            int now = row;
            for (int i = 0; i < cascade.length(); i++) {
                now = turn(kinds.get(cascade.charAt(i) - 'a'), now);
            }
            key = key * 8 + now;
        }
        return key;
    }

    /**
     * Cascades by length, of one length by their numbers: what comes first for an order is the
     * first of its shortest ones, and its beginning is the first one of another order.
     */
    private void collect() {
        List<String> layer = new ArrayList<>(List.of(""));
        first.put(key(""), "");
        while (!layer.isEmpty()) {
            List<String> next = new ArrayList<>();
            for (String cascade : layer) {
                for (int kind = 0; kind < kinds.size(); kind++) {
                    String longer = cascade + (char) ('a' + kind);
                    if (first.putIfAbsent(key(longer), longer) == null) {
                        next.add(longer);
                    }
                }
            }
            layer = next;
        }
    }

    private void compare() {
        int[] byLength = new int[THREE.length];
        BackLogic x = null;
        int calls = CALLS;
        for (Map.Entry<Long, String> entry : first.entrySet()) {
            if (calls >= CALLS) {
                x = new BackLogic();
                Check.read(x, WIRES[wires]);
                x.hold(0);
                calls = 0;
            }
            String due = entry.getValue();
            byLength[due.length()]++;
            // Another cascade for the same order: each gate that has a control as two with one more.
            calls += putRoundabout(x, due);
            CHECK.due("size for " + due, x.least(BackLogic.NONE, 0), due.length());
            CHECK.due("no more for " + due, x.least(due.length(), 0), BackLogic.NONE);
            CHECK.due("off for " + due, x.off(0), due.length());
            for (int i = 0; i < due.length(); i++) {
                int[] kind = kinds.get(due.charAt(i) - 'a');
                CHECK.due("target " + i + " of " + due, x.least(i, 0), kind[0]);
                CHECK.due("controls " + i + " of " + due, x.least(i, 1), kind[1]);
            }
            x.restore(0);
            calls += 30;
        }
        for (int length = 0; length < THREE.length && wires == 3; length++) {
            CHECK.due("orders of length " + length, byLength[length], THREE[length]);
        }
    }

    private int putRoundabout(BackLogic x, String due) {
        for (int i = 0; i < due.length(); i++) {
            int[] kind = kinds.get(due.charAt(i) - 'a');
            int free = ((1 << wires) - 1) & ~kind[1] & ~(1 << kind[0]);
            int bit = Integer.lowestOneBit(free);
            int at = x.count(1);
            x.put(at, kind[0], kind[1] | bit, 0);
            if (bit != 0) {
                x.put(at + 1, kind[0], kind[1], bit);
            }
        }
        return 3 * due.length();
    }
}
