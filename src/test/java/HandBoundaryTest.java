import java.util.function.Supplier;

/**
 * Each sentence about a new object, about what is done by hand and about slots that names a boundary
 * case: promises 1, 6 to 10, 27 and 28.
 */
public final class HandBoundaryTest {
    private static final int NONE = BackLogic.NONE;
    private static final int LEAST = Integer.MIN_VALUE;
    private static final int MOST = Integer.MAX_VALUE;
    private static final int MOST_GATES = 16;
    private static final int MOST_STEPS = 40;
    private static final String ABCD = "wire a;wire b;wire c;wire d;";
    private static final Check CHECK = new Check("HandBoundaryTest");

    public static void main(String[] args) {
        newObject();
        putAtEachPlace();
        putOfEachGate();
        putWhenFull();
        putChangesNothingIfRefused();
        takeWithin();
        swapWithin();
        becomeSuchWhats();
        becomeOfMoreThanSixteen();
        becomeLeastOfFourWires();
        becomeOfNothing();
        becomeTurnedRound();
        becomeTheSame();
        undoLastForty();
        undoGoesRound();
        undoWithoutAny();
        undoKnowsNoRefusedCalls();
        holdSuchSlots();
        holdAsTheyAre();
        restoreSuchSlots();
        restoreStaysAndForgets();
        CHECK.end();
    }

    private static void due(String call, long got, long want) {
        CHECK.due(call, got, want);
    }

    private static void due(String call, boolean got, boolean want) {
        CHECK.due(call, got, want);
    }

    private static String wires(int count) {
        return ABCD.substring(0, 7 * count);
    }

    /** Gates on one wire after the other, each with another one as control. */
    private static BackLogic gates(int wires, int count) {
        BackLogic x = Check.told(wires(wires));
        for (int i = 0; i < count; i++) {
            int target = i % wires;
            due("made ready " + i, x.put(i, target, i % 3 == 0 ? 1 << (target + 1) % wires & ~(1 << target) : 0, 0), true);
        }
        return x;
    }

    private static void targets(String of, BackLogic x, int... targets) {
        due(of + ": gates", x.count(1), targets.length);
        for (int i = 0; i < targets.length; i++) {
            due(of + ": target " + i, x.gate(i, 0), targets[i]);
        }
    }

    /** Promise 1, "No WIRES.": no gates, no table, one row, the first prices, nothing else. */
    private static void newObject() {
        BackLogic x = new BackLogic();
        int[] counts = {0, 0, 0, 0, 0, 0, 0, 0, 0, 1, 1, 5, 13, 0, 0, 0, 0, NONE};
        for (int what = 0; what < counts.length; what++) {
            due("1 count " + what, x.count(what), counts[what]);
        }
        due("1 row 0", x.made(0, 0), 0);
        due("1 row 0 back", x.undone(0), 0);
        due("1 no row 1", x.made(1, 0), NONE);
        due("1 no gate", x.gate(0, 0), NONE);
        due("1 no wire stuck", x.stuck(0, 0, false), NONE);
        due("1 no wire's terms", x.terms(0), NONE);
        due("1 no tests", x.test(NONE), 0);
        due("1 no table", x.table(0), NONE);
        due("1 no place", x.place(), NONE);
        due("1 no target", x.put(0, 0, 0, 0), false);
        due("1 nothing to undo", x.undo(), false);
        Twins.same(CHECK, "1 as behind an empty text", new BackLogic(), Check.told(""));
    }

    /** Promise 6, "ahead of GATE at (at how many there are: behind all)" */
    private static void putAtEachPlace() {
        for (int size = 0; size < MOST_GATES; size++) {
            for (int at = 0; at <= size; at++) {
                BackLogic x = gates(3, size);
                due("6 at " + at + " of " + size, x.put(at, 3, 0, 0), false);
                due("6 at " + at + " of " + size, x.put(at, 2, 1, 2), true);
                due("6 there", x.gate(at, 1) == 1 && x.gate(at, 2) == 2, true);
                due("6 one more", x.count(1), size + 1);
                if (at < size) {
                    due("6 ahead of it", x.gate(at + 1, 0), at % 3);
                }
                if (at > 0) {
                    due("6 behind the one ahead", x.gate(at - 1, 0), (at - 1) % 3);
                }
            }
            int[] refused = {-1, -2, size + 1, size + 2, MOST_GATES + 1, LEAST, MOST};
            for (int at : refused) {
                due("6 refused at " + at + " of " + size, gates(3, size).put(at, 0, 0, 0), false);
            }
        }
    }

    /** Promise 6, "no such ones (a WIRE twice in it, too)": each target, each ON, each OFF. */
    private static void putOfEachGate() {
        for (int wires = 0; wires <= 4; wires++) {
            int all = (1 << wires) - 1;
            for (int target = -1; target <= wires; target++) {
                for (int on = -1; on <= all + 2; on++) {
                    BackLogic x = Check.told(wires(wires));
                    for (int off = -1; off <= all + 2; off++) {
                        boolean isWire = target >= 0 && target < wires;
                        boolean areWires = on >= 0 && on <= all && off >= 0 && off <= all;
                        boolean isTwice = (on & off) != 0 || isWire && ((on | off) >> target & 1) == 1;
                        boolean isRight = isWire && areWires && !isTwice;
                        due("6 " + target + " " + on + " " + off + " of " + wires, x.put(0, target, on, off), isRight);
                        due("6 to undo", x.undo(), isRight);
                    }
                }
            }
        }
        int[] far = {LEAST, -33, -32, -2, 5, 8, 31, 32, 33, 64, MOST};
        for (int number : far) {
            BackLogic x = Check.told(ABCD);
            due("6 target " + number, x.put(0, number, 0, 0), false);
            due("6 on " + number, x.put(0, 0, number | 16, 0), false);
            due("6 off " + number, x.put(0, 0, 0, number | 16), false);
            due("6 nothing put", x.count(1), 0);
        }
        due("6 on far out", Check.told(ABCD).put(0, 0, LEAST, 0), false);
        due("6 off far out", Check.told(ABCD).put(0, 0, 0, LEAST), false);
    }

    /** Promise 6, "false, and nothing happens: there are 16" */
    private static void putWhenFull() {
        BackLogic x = gates(4, MOST_GATES - 1);
        due("6 the 16th", x.put(0, 3, 0, 0), true);
        for (int at = -1; at <= MOST_GATES + 1; at++) {
            due("6 a 17th at " + at, x.put(at, 0, 0, 0), false);
        }
        due("6 sixteen", x.count(1), MOST_GATES);
        due("6 sixteen to undo", x.count(7), MOST_GATES);
        due("6 one is taken", x.take(5), true);
        due("6 there is room again", x.put(15, 1, 0, 0), true);
        due("6 full again", x.put(0, 1, 0, 0), false);
        due("6 undone", x.undo(), true);
        due("6 room by undoing", x.put(0, 1, 0, 0), true);
        String told = ABCD + "gate a;".repeat(MOST_GATES);
        due("6 sixteen told", Check.told(told).put(0, 1, 0, 0), false);
    }

    /** A few gates, things to undo, two slots, bytes on the tape. */
    private static BackLogic rich() {
        BackLogic x = Check.told("wire a;wire b;wire c;gate a b;gate b -c;price 2 3 4 5;table 1 2 3 0;");
        x.hold(0);
        x.put(1, 2, 1, 2);
        x.hold(2);
        x.take(0);
        x.swap(0);
        x.become(3);
        Check.feedAll(x, "wire a;gate a;.");
        return x;
    }

    private static void putChangesNothingIfRefused() {
        int[][] refused = {
            {-1, 0, 0, 0}, {3, 0, 0, 0}, {0, -1, 0, 0}, {0, 3, 0, 0}, {0, 0, 1, 0}, {0, 0, 0, 1},
            {0, 0, 2, 2}, {0, 0, 8, 0}, {0, 0, 0, 8}, {0, 0, -1, 0}, {0, 0, 0, -1}
        };
        for (int[] p : refused) {
            due("6 refused", rich().put(p[0], p[1], p[2], p[3]), false);
            Twins.nothingHappens(CHECK, "6 put " + java.util.Arrays.toString(p), HandBoundaryTest::rich,
                x -> x.put(p[0], p[1], p[2], p[3]));
        }
        Supplier<BackLogic> full = () -> {
            BackLogic x = Check.told(ABCD + "gate a;gate b;gate c;gate d;".repeat(4));
            x.swap(3);
            x.hold(1);
            return x;
        };
        Twins.nothingHappens(CHECK, "6 put when full", full, x -> x.put(0, 0, 0, 0));
    }

    /** Promise 7, "true; false: no such one." */
    private static void takeWithin() {
        for (int size : new int[] {0, 1, 2, 15, MOST_GATES}) {
            for (int gate = 0; gate < size; gate++) {
                BackLogic x = gates(4, size);
                due("7 take " + gate + " of " + size, x.take(gate), true);
                due("7 one fewer", x.count(1), size - 1);
                for (int i = 0; i < size - 1; i++) {
                    due("7 the others", x.gate(i, 0), (i < gate ? i : i + 1) % 4);
                }
            }
            for (int gate : new int[] {-1, -2, size, size + 1, 17, LEAST, MOST}) {
                due("7 refused " + gate + " of " + size, gates(4, size).take(gate), false);
            }
        }
        for (int gate : new int[] {-1, 2, 3, LEAST, MOST}) {
            Twins.nothingHappens(CHECK, "7 take " + gate, HandBoundaryTest::rich, x -> x.take(gate));
        }
    }

    /** Promise 8, "A GATE and the next one change places: true; false, and nothing happens: no such ones." */
    private static void swapWithin() {
        for (int size : new int[] {0, 1, 2, 3, MOST_GATES}) {
            for (int gate = 0; gate < size - 1; gate++) {
                BackLogic x = gates(4, size);
                due("8 swap " + gate + " of " + size, x.swap(gate), true);
                due("8 as many", x.count(1), size);
                for (int i = 0; i < size; i++) {
                    int was = i == gate ? i + 1 : i == gate + 1 ? i - 1 : i;
                    due("8 gate " + i, x.gate(i, 0), was % 4);
                }
            }
            for (int gate : new int[] {-1, -2, size - 1, size, size + 1, LEAST, MOST}) {
                due("8 refused " + gate + " of " + size, gates(4, size).swap(gate), false);
            }
        }
        for (int gate : new int[] {-1, 1, 2, LEAST, MOST}) {
            Twins.nothingHappens(CHECK, "8 swap " + gate, HandBoundaryTest::rich, x -> x.swap(gate));
        }
        BackLogic alike = Check.told("wire a;gate a;gate a;");
        due("8 two alike change places, too", alike.swap(0), true);
        due("8 that can be undone", alike.count(7), 1);
    }

    /** Promise 9, "NONE, and nothing happens: .. no such what" */
    private static void becomeSuchWhats() {
        for (int what : new int[] {-1, -2, 5, 6, 8, 100, LEAST, MOST}) {
            due("9 what " + what, rich().become(what), NONE);
            Twins.nothingHappens(CHECK, "9 what " + what, HandBoundaryTest::rich, x -> x.become(what));
        }
        for (int what = 0; what <= 4; what++) {
            BackLogic x = rich();
            int size = x.become(what);
            due("9 how many it has then by " + what, size, x.count(1));
            due("9 one more to undo by " + what, x.count(7), 5);
        }
    }

    private static void becomes(String gates, boolean both, int found) {
        Supplier<BackLogic> make = () -> {
            BackLogic x = Check.told(ABCD + gates);
            x.hold(1);
            x.put(0, 0, 0, 0);
            x.take(0);
            return x;
        };
        int what = both ? 2 : 1;
        BackLogic x = make.get();
        due("9 gates found for " + gates, x.found(both, NONE, 0), found);
        due("9 become " + what + " " + gates, x.become(what), found <= MOST_GATES ? found : NONE);
        if (found > MOST_GATES) {
            Twins.nothingHappens(CHECK, "9 too many: " + gates, make, y -> y.become(what));
        } else {
            due("9 it has them", x.count(1), found);
            due("9 it can be undone", x.count(7), 3);
        }
    }

    /** Promise 9, "NONE, and nothing happens: it would have more than 16": 15, 16, 17 and far more. */
    private static void becomeOfMoreThanSixteen() {
        becomes("gate b a;gate a -b -c -d;", false, 15);
        becomes("gate b a -c -d;gate a -b -c -d;", false, 16);
        becomes("gate a -b;gate b a -c -d;", false, 17);
        becomes("gate d -a -b -c;gate d -a c;gate b -a;gate b d;gate a b d;gate c;gate b d;gate a;gate b c -d;",
            false, 42);
        becomes("gate a b;gate b -a -c -d;", true, 15);
        becomes("gate b -a -c -d;gate c a;gate a -b -c -d;", true, 16);
        becomes("gate c b;gate d -a -b;gate b -a -c;", true, 17);
        becomes("gate a -b d;gate d -c;gate c d;gate c a -b;gate a -b d;gate a b -c -d;gate c b;gate d b c;"
            + "gate b a -d;gate b a -c;gate b -a;gate d -a;gate a -b;gate c b;", true, 33);
        BackLogic three = Check.told(wires(3) + "gate b -a;gate c -a;gate b;gate a;gate a b c;gate b a;");
        due("9 seventeen gates for three wires", three.found(false, NONE, 0), 17);
        due("9 seventeen are too many", three.become(1), NONE);
        due("9 nothing happened", three.count(1), 6);
    }

    /** Promise 9, "4 with 4 WIRES": NONE there, and the FIRST LEAST one with fewer. */
    private static void becomeLeastOfFourWires() {
        due("9 least of four wires", Check.told(ABCD).become(4), NONE);
        Twins.nothingHappens(CHECK, "9 least of four wires", () -> gates(4, 3), x -> x.become(4));
        for (int wires = 0; wires <= 3; wires++) {
            due("9 least of " + wires, Check.told(wires(wires)).become(4), 0);
        }
        BackLogic eight = Check.told(wires(3) + "gate b -a c;gate a -b c;gate c -a -b;gate b c;");
        due("9 the longest least one", eight.become(4), 8);
        due("9 it can be undone", eight.undo(), true);
        due("9 it is as it was", eight.count(1), 4);
    }

    private static void becomeOfNothing() {
        for (int wires = 0; wires <= 3; wires++) {
            for (int what = 0; what <= 4; what++) {
                BackLogic x = Check.told(wires(wires));
                due("9 no gates become none by " + what, x.become(what), 0);
                due("9 it was done by hand", x.count(7), 1);
            }
        }
        BackLogic full = Check.told("wire a;" + "gate a;".repeat(MOST_GATES));
        due("9 sixteen turned round", full.become(3), MOST_GATES);
        due("9 sixteen shrunk", full.become(0), 0);
        due("9 undone", full.undo(), true);
        due("9 sixteen again", full.count(1), MOST_GATES);
    }

    /** "turned round (the last GATE first)", of an odd and an even number of gates. */
    private static void becomeTurnedRound() {
        for (int size = 0; size <= MOST_GATES; size++) {
            BackLogic x = gates(3, size);
            due("9 turned round", x.become(3), size);
            for (int i = 0; i < size; i++) {
                due("9 turned gate " + i + " of " + size, x.gate(i, 0), (size - 1 - i) % 3);
            }
        }
    }

    /** What becomes as it was is a thing done by hand all the same. */
    private static void becomeTheSame() {
        for (int what = 0; what <= 4; what++) {
            BackLogic x = Check.told("wire a;gate a;");
            due("9 the same by " + what, x.become(what), 1);
            due("9 one thing done by " + what, x.count(7), 1);
            due("9 undone by " + what, x.undo(), true);
            due("9 no more by " + what, x.undo(), false);
        }
    }

    /** Promise 10, "(the last 40 can be)": 39, 40, 41 and many things done. */
    private static void undoLastForty() {
        for (int done : new int[] {1, 39, MOST_STEPS, 41, 42, 79, 80, 81, 121}) {
            BackLogic x = Check.told(ABCD);
            int[] targets = new int[done];
            for (int i = 0; i < done; i++) {
                targets[i] = i % 7 % 4;
                // By turns one is put in and that one is taken off.
                boolean isDone = i % 2 == 0 ? x.put(0, targets[i], 0, 0) : x.take(0);
                due("10 done " + i, isDone, true);
            }
            int kept = Math.min(done, MOST_STEPS);
            due("10 can be undone of " + done, x.count(7), kept);
            for (int left = done; left > done - kept; left--) {
                due("10 gates behind " + left, x.count(1), left % 2);
                if (left % 2 == 1) {
                    due("10 gate behind " + left, x.gate(0, 0), targets[left - 1]);
                }
                due("10 undo " + left, x.undo(), true);
            }
            due("10 at the oldest", x.count(1), (done - kept) % 2);
            due("10 none is left", x.count(7), 0);
            due("10 no more of " + done, x.undo(), false);
        }
    }

    /** Things done behind others undone: still the last 40, in their order. */
    private static void undoGoesRound() {
        BackLogic x = Check.told(ABCD);
        for (int i = 0; i < 50; i++) {
            x.put(0, i % 4, 0, 0);
            x.become(i % 2 == 0 ? 3 : 0);
        }
        due("10 forty", x.count(7), MOST_STEPS);
        for (int i = 0; i < 25; i++) {
            due("10 undo", x.undo(), true);
        }
        due("10 fifteen left", x.count(7), 15);
        int was = x.count(1);
        for (int i = 0; i < 25; i++) {
            due("10 done again", i % 2 == 0 ? x.put(0, 1, 0, 0) : x.take(0), true);
        }
        due("10 forty again", x.count(7), MOST_STEPS);
        due("10 one more", x.take(0), true);
        due("10 still forty", x.count(7), MOST_STEPS);
        for (int i = 0; i < 26; i++) {
            due("10 undo again", x.undo(), true);
        }
        due("10 as it was", x.count(1), was);
        for (int i = 0; i < 14; i++) {
            due("10 the older ones", x.undo(), true);
        }
        due("10 all forty were undone", x.undo(), false);
    }

    /** Promise 10, "false: there is none": at first, behind a text, behind a slot, behind all. */
    private static void undoWithoutAny() {
        due("10 at first", new BackLogic().undo(), false);
        due("10 behind a text", Check.told(ABCD + "gate a;").undo(), false);
        BackLogic x = rich();
        x.restore(0);
        due("10 behind a slot", x.undo(), false);
        x.put(0, 0, 0, 0);
        due("10 what came behind it", x.undo(), true);
        due("10 and no more", x.undo(), false);
        due("10 undoing is nothing to undo", x.count(7), 0);
        Twins.nothingHappens(CHECK, "10 undo of none", () -> Check.told(ABCD + "gate a;"), BackLogic::undo);
    }

    /** What was refused, looked at, held or fed is nothing done by hand. */
    private static void undoKnowsNoRefusedCalls() {
        BackLogic x = gates(3, 2);
        x.put(9, 0, 0, 0);
        x.take(2);
        x.swap(1);
        x.become(5);
        x.restore(1);
        x.restore(3);
        x.hold(0);
        x.hold(3);
        x.shrunk(NONE, 0);
        x.found(true, NONE, 0);
        x.least(NONE, 0);
        x.feed(0, 0, 0, 0, 0);
        x.back(3);
        due("10 two done", x.count(7), 2);
        due("10 undo", x.undo(), true);
        due("10 one gate", x.count(1), 1);
        due("10 undo", x.undo(), true);
        due("10 no gate", x.count(1), 0);
        due("10 the tape is not undone", x.count(6), 17);
    }

    /** Promise 27, "a SLOT (0 .. 2): true; false: no such one." */
    private static void holdSuchSlots() {
        for (int slot = 0; slot <= 2; slot++) {
            BackLogic x = gates(3, 2);
            due("27 hold " + slot, x.hold(slot), true);
            due("27 one holds something", x.count(8), 1);
            for (int other = 0; other <= 2; other++) {
                due("27 which holds", x.like(other) != NONE, other == slot);
            }
        }
        for (int slot : new int[] {-1, -2, 3, 4, 32, LEAST, MOST}) {
            due("27 no slot " + slot, gates(3, 2).hold(slot), false);
            Twins.nothingHappens(CHECK, "27 hold " + slot, HandBoundaryTest::rich, x -> x.hold(slot));
        }
        BackLogic all = gates(3, 2);
        for (int i = 0; i < 6; i++) {
            due("27 hold again", all.hold(i % 3), true);
            due("27 so many hold", all.count(8), Math.min(i + 1, 3));
        }
    }

    /** Promise 27, "All GATES as they are are held": none, sixteen, and not what comes later. */
    private static void holdAsTheyAre() {
        BackLogic none = Check.told(ABCD);
        due("27 no gates are held", none.hold(1), true);
        due("27 that is something", none.count(8), 1);
        none.put(0, 2, 0, 0);
        due("27 restored", none.restore(1), true);
        due("27 no gates", none.count(1), 0);
        BackLogic full = gates(4, MOST_GATES);
        full.hold(2);
        for (int i = 0; i < MOST_GATES; i++) {
            due("27 taken", full.take(0), true);
        }
        due("27 restored sixteen", full.restore(2), true);
        targets("27 sixteen", full, 0, 1, 2, 3, 0, 1, 2, 3, 0, 1, 2, 3, 0, 1, 2, 3);
        BackLogic x = gates(3, 2);
        x.hold(0);
        x.swap(0);
        x.hold(1);
        x.undo();
        x.restore(1);
        targets("27 the second", x, 1, 0);
        x.restore(0);
        targets("27 the first", x, 0, 1);
        due("27 holding changes no gates and nothing done", gates(3, 2).hold(0), true);
    }

    /** Promise 28, "false, and nothing happens: no such one, it holds nothing." */
    private static void restoreSuchSlots() {
        for (int slot : new int[] {-1, -2, 3, 4, LEAST, MOST, 1}) {
            due("28 no slot " + slot, rich().restore(slot), false);
            Twins.nothingHappens(CHECK, "28 restore " + slot, HandBoundaryTest::rich, x -> x.restore(slot));
        }
        for (int slot = 0; slot <= 2; slot++) {
            due("28 at first", new BackLogic().restore(slot), false);
            BackLogic x = rich();
            x.hold(1);
            x.back(x.count(6));
            due("28 a text", Check.read(x, "wire a;"), 0);
            due("28 behind a text", x.restore(slot), false);
        }
    }

    /** Promise 28, "(it stays there; nothing can be undone then)" */
    private static void restoreStaysAndForgets() {
        BackLogic x = gates(3, 4);
        x.hold(0);
        x.take(0);
        for (int i = 0; i < 3; i++) {
            due("28 restore", x.restore(0), true);
            targets("28 as it was held", x, 0, 1, 2, 0);
            due("28 it stays there", x.count(8), 1);
            due("28 nothing to undo", x.count(7), 0);
            due("28 no undo", x.undo(), false);
            x.become(3);
            x.take(1);
        }
        // The prices and the table are no gates: they stay.
        BackLogic told = rich();
        told.restore(2);
        due("28 the price stays", told.count(12), 5);
        due("28 the table stays", told.table(1), 2);
        due("28 the tape stays", told.count(6), 15);
    }
}
