/** Each promise by hand: ordinary inputs, the edges that the document names, wrong inputs. */
public final class PromisesTest {
    private static final int NONE = BackLogic.NONE;
    private static final int LEAST = Integer.MIN_VALUE;
    private static final int MOST = Integer.MAX_VALUE;
    private static final String AB = "wire a;wire b;";
    private static final String ABC = AB + "wire c;";
    private static final String ABCD = ABC + "wire d;";
    private static final Check CHECK = new Check("PromisesTest");

    public static void main(String[] args) {
        promise1New();
        promises2To5Tape();
        promise6Put();
        promise7Take();
        promise8Swap();
        promise9Become();
        promise10Undo();
        promise11Gate();
        promises12And13Made();
        promise14Order();
        promise15Agree();
        promise16Shrunk();
        promise16ShrunkByRules();
        promise17Found();
        promise18Least();
        promise19Stuck();
        promise20Terms();
        promise21Idle();
        promise22Test();
        promise23Like();
        promises24And25Table();
        promise26Off();
        promises27And28Slots();
        promise29Count();
        CHECK.end();
    }

    private static void due(String call, long got, long want) {
        CHECK.due(call, got, want);
    }

    private static void due(String call, boolean got, boolean want) {
        CHECK.due(call, got, want);
    }

    private static void gates(String of, BackLogic x, int... parts) {
        due(of + ": gates", x.count(1), parts.length / 3);
        for (int i = 0; i < parts.length; i++) {
            due(of + ": part " + i, x.gate(i / 3, i % 3), parts[i]);
        }
    }

    private static void promise1New() {
        BackLogic x = new BackLogic();
        due("1 NONE", NONE, -1);
        for (int what = 0; what <= 8; what++) {
            due("1 count " + what, x.count(what), 0);
        }
        due("1 rows", x.made(0, 0), 0);
        due("1 no row 1", x.made(1, 0), NONE);
        due("1 put", x.put(0, 0, 0, 0), false);
        due("1 hold nothing told", x.hold(0), true);
        due("1 like", x.like(0), 1);
        due("1 off", x.off(0), 0);
        due("1 restore", x.restore(0), true);
    }

    private static void promises2To5Tape() {
        BackLogic x = new BackLogic();
        due("2 feed", x.feed(0x77697265, 0x20613b77, 0x69726520, 0x613b2020, 0x20202020), 20);
        due("3 back", x.back(6), 14);
        due("3 back below 0", x.back(LEAST), NONE);
        due("3 back too many", x.back(15), NONE);
        due("4 read", x.read(), 3);
        due("5 place", x.place(), 12);
        due("4 the tape is empty", x.count(6), 0);
    }

    private static void promise6Put() {
        BackLogic x = Check.told(ABCD);
        due("6 behind all", x.put(0, 0, 2, 4), true);
        due("6 behind all again", x.put(1, 1, 0, 0), true);
        due("6 ahead", x.put(0, 3, 7, 0), true);
        due("6 between", x.put(1, 2, 0, 11), true);
        gates("6", x, 3, 7, 0, 2, 0, 11, 0, 2, 4, 1, 0, 0);
        due("6 at below 0", x.put(-1, 0, 0, 0), false);
        due("6 at too far", x.put(5, 0, 0, 0), false);
        due("6 at far out", x.put(MOST, 0, 0, 0), false);
        due("6 no wire below", x.put(0, -1, 0, 0), false);
        due("6 no wire above", x.put(0, 4, 0, 0), false);
        due("6 no wire 32", x.put(0, 32, 0, 0), false);
        due("6 target on", x.put(0, 0, 1, 0), false);
        due("6 target off", x.put(0, 3, 0, 8), false);
        due("6 on and off", x.put(0, 0, 6, 4), false);
        due("6 on 16", x.put(0, 0, 16, 0), false);
        due("6 off 16", x.put(0, 0, 0, 16), false);
        due("6 on below 0", x.put(0, 0, -2, 0), false);
        due("6 off below 0", x.put(0, 0, 0, LEAST), false);
        due("6 nothing happened", x.count(1), 4);
        due("6 four to undo", x.count(7), 4);
        for (int i = 4; i < 16; i++) {
            due("6 gate " + i, x.put(i, 0, 0, 0), true);
        }
        due("6 a 17th", x.put(0, 0, 0, 0), false);
        due("6 all sixteen", x.count(7), 16);
        BackLogic two = Check.told(AB);
        due("6 on a wire that isn't", two.put(0, 0, 4, 0), false);
        due("6 off a wire that isn't", two.put(0, 0, 0, 8), false);
        due("6 target that isn't", two.put(0, 2, 0, 0), false);
    }

    private static void promise7Take() {
        BackLogic x = Check.told(AB + "gate a;gate b;gate a b;");
        due("7 below 0", x.take(-1), false);
        due("7 too far", x.take(3), false);
        due("7 far out", x.take(LEAST), false);
        due("7 nothing to undo", x.count(7), 0);
        due("7 take", x.take(1), true);
        gates("7", x, 0, 0, 0, 0, 2, 0);
        due("7 the last", x.take(1), true);
        due("7 the only", x.take(0), true);
        due("7 none left", x.take(0), false);
        due("7 three to undo", x.count(7), 3);
    }

    private static void promise8Swap() {
        BackLogic x = Check.told(AB + "gate a;gate b;gate a b;");
        due("8 the last has no next", x.swap(2), false);
        due("8 below 0", x.swap(-1), false);
        due("8 far out", x.swap(MOST), false);
        due("8 nothing to undo", x.count(7), 0);
        due("8 swap", x.swap(1), true);
        gates("8", x, 0, 0, 0, 0, 2, 0, 1, 0, 0);
        due("8 swap first", x.swap(0), true);
        gates("8 first", x, 0, 2, 0, 0, 0, 0, 1, 0, 0);
        due("8 one alone", Check.told("wire a;gate a;").swap(0), false);
    }

    private static void promise9Become() {
        BackLogic x = Check.told(ABC + "gate a b;gate a -b;gate b c;gate c;");
        due("9 no such what", x.become(5), NONE);
        due("9 no such what below", x.become(-1), NONE);
        due("9 nothing to undo", x.count(7), 0);
        due("9 turned round", x.become(3), 4);
        gates("9 turned round", x, 2, 0, 0, 1, 4, 0, 0, 0, 2, 0, 2, 0);
        due("9 shrunk", x.become(0), 3);
        gates("9 shrunk", x, 2, 0, 0, 1, 4, 0, 0, 0, 0);
        due("9 undo", x.undo(), true);
        due("9 undo", x.undo(), true);
        gates("9 as told", x, 0, 2, 0, 0, 0, 2, 1, 4, 0, 2, 0, 0);
        due("9 three to undo", x.count(7), 0);
        // What becomes of it makes the same of each row.
        for (int what : new int[] {0, 1, 2, 4}) {
            int[] before = orderOf(x);
            due("9 become " + what, x.become(what) >= 3, true);
            int[] after = orderOf(x);
            for (int row = 0; row < 8; row++) {
                due("9 same row " + row + " by " + what, after[row], before[row]);
            }
            due("9 to undo by " + what, x.undo(), true);
        }
        // Least of the three gates, the ones that agree in the order of their numbers.
        due("9 least", x.become(4), 3);
        gates("9 least", x, 0, 0, 0, 1, 4, 0, 2, 0, 0);
        due("9 least of four wires", Check.told(ABCD).become(4), NONE);
        BackLogic nothing = new BackLogic();
        for (int what = 0; what <= 4; what++) {
            due("9 nothing becomes nothing " + what, nothing.become(what), 0);
        }
        due("9 each can be undone", nothing.count(7), 5);
        moreThanSixteen();
    }

    private static void moreThanSixteen() {
        String many = "gate a -b -c;gate b -c d;gate c a -d;gate d -a b;gate a b -d;gate c -b -a;gate d c;";
        BackLogic x = Check.told(ABCD + many);
        due("9 many gates found", x.found(false, NONE, 0) > 16, true);
        due("9 too many", x.become(1), NONE);
        due("9 nothing happened", x.count(1), 7);
        due("9 nothing to undo then", x.count(7), 0);
    }

    private static int[] orderOf(BackLogic x) {
        int[] order = new int[1 << x.count(0)];
        for (int row = 0; row < order.length; row++) {
            order[row] = x.made(row, x.count(1));
        }
        return order;
    }

    private static void promise10Undo() {
        BackLogic x = Check.told(AB + "gate a;");
        due("10 none", x.undo(), false);
        x.put(1, 1, 1, 0);
        x.take(0);
        x.put(0, 0, 2, 0);
        x.swap(0);
        x.become(3);
        due("10 five", x.count(7), 5);
        gates("10 at the end", x, 0, 2, 0, 1, 1, 0);
        due("10 undo", x.undo(), true);
        gates("10 ahead of turning", x, 1, 1, 0, 0, 2, 0);
        due("10 undo", x.undo(), true);
        gates("10 ahead of swapping", x, 0, 2, 0, 1, 1, 0);
        due("10 undo", x.undo(), true);
        gates("10 ahead of putting", x, 1, 1, 0);
        due("10 undo", x.undo(), true);
        gates("10 ahead of taking", x, 0, 0, 0, 1, 1, 0);
        due("10 undo", x.undo(), true);
        gates("10 at first", x, 0, 0, 0);
        due("10 no more", x.undo(), false);
        for (int i = 0; i < 45; i++) {
            x.become(3);
        }
        due("10 forty", x.count(7), 40);
        for (int i = 40; i > 0; i--) {
            due("10 undo " + i, x.undo(), true);
        }
        due("10 the 41st", x.undo(), false);
        x.put(0, 0, 0, 0);
        due("10 undone ones don't come again", x.count(7), 1);
        theOldestGoes();
    }

    /** 100 things done, each of which makes another cascade: the last 40 come back one by one. */
    private static void theOldestGoes() {
        BackLogic x = Check.told(ABCD + "gate a;");
        for (int i = 0; i < 50; i++) {
            x.take(0);
            x.put(0, 0, 2 * (i % 8), 0);
        }
        for (int i = 49; i >= 30; i--) {
            gates("10 behind put " + i, x, 0, 2 * (i % 8), 0);
            due("10 undo put " + i, x.undo(), true);
            due("10 ahead of put " + i, x.count(1), 0);
            due("10 undo take " + i, x.undo(), true);
        }
        gates("10 the oldest that came back", x, 0, 2 * (29 % 8), 0);
        due("10 no 41st of them", x.undo(), false);
    }

    private static void promise11Gate() {
        BackLogic x = Check.told(ABCD + "price 2 3 5 7;gate a;gate b;gate a -b;gate c d a;gate d -a -b -c;gate d c;");
        gates("11", x, 0, 0, 0, 1, 0, 0, 0, 0, 2, 2, 9, 0, 3, 0, 7, 3, 4, 0);
        int[] price = {2, 2, 3, 5, 7, 3};
        int[] level = {0, 0, 1, 2, 3, 4};
        // Gate 2 agrees with a, not with b; gate 3 turns only where a is 1, gate 4 only where it
        // is 0: they agree, though each has the other's target.
        int[] free = {0, 1, 0, 0, 1, 1};
        int[] behind = {2, 0, 0, 1, 1, 0};
        for (int i = 0; i < 6; i++) {
            due("11 price " + i, x.gate(i, 3), price[i]);
            due("11 level " + i, x.gate(i, 4), level[i]);
            due("11 free " + i, x.gate(i, 5), free[i]);
            due("11 behind " + i, x.gate(i, 6), behind[i]);
        }
        due("11 what 7", x.gate(0, 7), NONE);
        due("11 what -1", x.gate(0, -1), NONE);
        due("11 no gate", x.gate(6, 0), NONE);
        due("11 gate -1", x.gate(-1, 0), NONE);
        due("11 gate far out", x.gate(MOST, 6), NONE);
        BackLogic alike = Check.told("wire a;gate a;gate a;gate a;");
        due("11 free of two", alike.gate(2, 5), 2);
        due("11 two behind", alike.gate(0, 6), 2);
        BackLogic levels = Check.told(ABCD + "gate a b;gate c;gate d;gate c d;gate a;");
        int[] due = {0, 0, 0, 1, 1};
        for (int i = 0; i < due.length; i++) {
            due("11 levels " + i, levels.gate(i, 4), due[i]);
        }
    }

    private static void promises12And13Made() {
        BackLogic x = Check.told(ABC + "gate b a;gate c b -a;gate a c;");
        int[][] made = {{5, 5, 7, 7, 6}, {2, 2, 2, 6, 7}, {0, 0, 0, 0, 0}};
        for (int[] m : made) {
            for (int n = 0; n <= 3; n++) {
                due("12 row " + m[0] + " by " + n, x.made(m[0], n), m[n + 1]);
            }
            due("13 back of " + m[4], x.undone(m[4]), m[0]);
        }
        due("12 n below 0", x.made(0, -1), NONE);
        due("12 n above all", x.made(0, 4), NONE);
        due("12 n far out", x.made(0, MOST), NONE);
        due("12 row below 0", x.made(-1, 0), NONE);
        due("12 row 8", x.made(8, 0), NONE);
        due("12 row far out", x.made(LEAST, 0), NONE);
        due("13 row below 0", x.undone(-1), NONE);
        due("13 row 8", x.undone(8), NONE);
        due("13 row 7", x.undone(7), 2);
        for (int row = 0; row < 8; row++) {
            due("13 there and back " + row, x.undone(x.made(row, 3)), row);
        }
    }

    private static void promise14Order() {
        // Counts one on: 0 to 1, .. 7 to 0: one round of eight.
        BackLogic counter = Check.told(ABC + "gate c a b;gate b a;gate a;");
        int[] due = {1, 8, 8, 0, 0};
        for (int what = 0; what < 5; what++) {
            due("14 counter " + what, counter.order(what), due[what]);
        }
        // a and b go round by three, c turns: rounds of 2 and 6.
        BackLogic six = Check.told(ABC + "gate a b;gate b a;gate c;");
        int[] dueSix = {2, 6, 6, 1, 0};
        for (int what = 0; what < 5; what++) {
            due("14 six " + what, six.order(what), dueSix[what]);
        }
        BackLogic still = Check.told(ABCD);
        int[] dueStill = {16, 1, 1, 1, 16};
        for (int what = 0; what < 5; what++) {
            due("14 still " + what, still.order(what), dueStill[what]);
        }
        // Row 15 and row 7 change: one round of two.
        BackLogic odd = Check.told(ABCD + "gate d a b c;");
        int[] dueOdd = {15, 2, 2, 0, 14};
        for (int what = 0; what < 5; what++) {
            due("14 odd " + what, odd.order(what), dueOdd[what]);
        }
        due("14 what 5", odd.order(5), NONE);
        due("14 what -1", odd.order(-1), NONE);
    }

    private static void promise15Agree() {
        BackLogic x = Check.told(ABC + "gate a b;gate b a;gate c a b;gate c;gate a -b;gate b -a c;");
        due("15 each on the other", x.agree(0, 1), 0);
        due("15 target is a control", x.agree(0, 2), 0);
        due("15 apart", x.agree(0, 3), 1);
        due("15 same target", x.agree(0, 4), 1);
        due("15 same target c", x.agree(2, 3), 1);
        due("15 itself", x.agree(5, 5), 1);
        due("15 either order", x.agree(5, 0), x.agree(0, 5));
        // gate a b turns a only where b is 1, gate c -b .. only where it is 0.
        BackLogic never = Check.told(ABC + "gate a b;gate c a -b;gate c a b;");
        due("15 never both", never.agree(0, 1), 1);
        due("15 both", never.agree(0, 2), 0);
        due("15 no such", x.agree(0, 6), NONE);
        due("15 no such first", x.agree(-1, 0), NONE);
        due("15 none such", x.agree(LEAST, MOST), NONE);
    }

    private static void shrinks(String text, int... parts) {
        BackLogic x = Check.told(text);
        due("16 " + text, x.shrunk(NONE, 0), parts.length / 3);
        for (int i = 0; i < parts.length; i++) {
            due("16 " + text + " part " + i, x.shrunk(i / 3, i % 3), parts[i]);
        }
        due("16 " + text + " no more", x.shrunk(parts.length / 3, 0), NONE);
    }

    private static void promise16Shrunk() {
        BackLogic x = Check.told(ABC + "gate a;gate b -c;gate a;");
        due("16 size", x.shrunk(NONE, LEAST), 1);
        due("16 target", x.shrunk(0, 0), 1);
        due("16 on", x.shrunk(0, 1), 0);
        due("16 off", x.shrunk(0, 2), 4);
        due("16 what 3", x.shrunk(0, 3), NONE);
        due("16 what -1", x.shrunk(0, -1), NONE);
        due("16 i -2", x.shrunk(-2, 0), NONE);
        due("16 i far out", x.shrunk(MOST, 0), NONE);
        due("16 the cascade stays", x.count(1), 3);
    }

    private static void promise16ShrunkByRules() {
        shrinks(AB);
        // 1: alike, with one that agrees between or one that doesn't.
        shrinks(AB + "gate a b;gate a b;");
        shrinks(ABC + "gate a b;gate c b;gate a b;", 2, 2, 0);
        shrinks(AB + "gate a b;gate b a;gate a b;", 0, 2, 0, 1, 1, 0, 0, 2, 0);
        shrinks(AB + "gate a;gate a;gate a;", 0, 0, 0);
        // 2: one control ON here, OFF there.
        shrinks(AB + "gate a b;gate a -b;", 0, 0, 0);
        shrinks(ABC + "gate a b -c;gate a -b -c;", 0, 0, 4);
        shrinks(ABC + "gate a b c;gate a -b -c;", 0, 6, 0, 0, 0, 6);
        // 3: one control more, in the first or the second gate.
        shrinks(AB + "gate a;gate a b;", 0, 0, 2);
        shrinks(AB + "gate a -b;gate a;", 0, 2, 0);
        shrinks(ABC + "gate a b c;gate a b;", 0, 2, 4);
        shrinks(ABC + "gate a b;gate a -b c;", 0, 2, 0, 0, 4, 2);
        shrinks(ABC + "gate a;gate a b c;", 0, 0, 0, 0, 6, 0);
        // 1 ahead of 2 and 3, wherever it is: the first and the last go.
        shrinks(AB + "gate a b;gate a -b;gate a b;", 0, 0, 2);
        shrinks(AB + "gate a;gate a b;gate a b;", 0, 0, 0);
        // 2 ahead of 3: both b's first, then a alone meets it.
        shrinks(ABC + "gate a c;gate a c b;gate a c -b;");
        // The gate that stays has the later place; k is the nearest.
        shrinks(ABC + "gate a b;gate c b;gate a -b;gate b c;", 2, 2, 0, 0, 0, 0, 1, 4, 0);
        // c and -b c become b c; b and b c become b -c.
        shrinks(ABC + "gate a b;gate a c;gate a -b c;", 0, 2, 4);
    }

    private static void finds(String text, boolean both, int... parts) {
        BackLogic x = Check.told(text);
        due("17 " + text, x.found(both, NONE, 9), parts.length / 2);
        for (int i = 0; i < parts.length; i++) {
            due("17 " + text + " part " + i, x.found(both, i / 2, i % 2), parts[i]);
        }
        due("17 " + text + " no more", x.found(both, parts.length / 2, 0), NONE);
    }

    private static void promise17Found() {
        finds(ABCD, false);
        finds(ABCD, true);
        finds("wire a;gate a;", false, 0, 0);
        // P is 3 2 1 0. Row 0, y 3: a where b: P 2 3 1 0; b: P 0 1 3 2. Row 1 is there. Row 2, y 3:
        // a where b: P 0 1 2 3. Noted: a where b, b, a where b.
        finds(AB + "gate a;gate b;", false, 0, 2, 1, 0, 0, 2);
        // Counts on by one. Row 0, y 1: a. Row 1, y 3 by then: b where a. Row 3, y 7: c where a b.
        finds(ABC + "gate c a b;gate b a;gate a;", false, 2, 3, 1, 1, 0, 0);
        // Counts back by one: row 0 is made 7, but 0 is made of row 1, which is nearer, and so on.
        finds(ABC + "gate a;gate b a;gate c a b;", true, 0, 0, 1, 1, 2, 3);
        BackLogic x = Check.told(AB + "gate a b;");
        due("17 what 2", x.found(false, 0, 2), NONE);
        due("17 what -1", x.found(true, 0, -1), NONE);
        due("17 i -2", x.found(true, -2, 0), NONE);
        due("17 i far out", x.found(false, MOST, 0), NONE);
        due("17 the cascade stays", x.gate(0, 1), 2);
    }

    private static void leasts(String text, int... parts) {
        BackLogic x = Check.told(text);
        due("18 " + text, x.least(NONE, 9), parts.length / 2);
        for (int i = 0; i < parts.length; i++) {
            due("18 " + text + " part " + i, x.least(i / 2, i % 2), parts[i]);
        }
        due("18 " + text + " no more", x.least(parts.length / 2, 0), NONE);
    }

    private static void promise18Least() {
        leasts("");
        leasts("wire a;gate a;gate a;");
        leasts("wire a;gate a;", 0, 0);
        leasts(AB + "gate b;gate a;", 0, 0, 1, 0);
        leasts(AB + "gate a -b;", 0, 0, 0, 2);
        // Two wires change places: three gates, a with b first.
        leasts(AB + "gate b a;gate a b;gate b a;", 0, 2, 1, 1, 0, 2);
        // c by a, then, behind b, by a and not b: all in all by a and b, then b.
        leasts(ABC + "gate c a b;gate c a -b;gate b;gate c b a;", 2, 3, 1, 0);
        BackLogic x = Check.told(AB + "gate a b;");
        due("18 what 2", x.least(0, 2), NONE);
        due("18 what -1", x.least(0, -1), NONE);
        due("18 i -2", x.least(-2, 0), NONE);
        BackLogic four = Check.told(ABCD + "gate a;");
        due("18 four wires", four.least(NONE, 0), NONE);
        due("18 four wires, a gate", four.least(0, 0), NONE);
        // Other wires behind the same order: the row of kinds must be another one.
        Check.read(x, ABC + "gate a b;");
        due("18 three wires now", x.least(0, 1), 2);
        Check.read(x, "wire a;gate a;");
        due("18 one wire now", x.least(NONE, 0), 1);
    }

    private static void promise19Stuck() {
        BackLogic x = Check.told(AB + "gate b a;gate a;gate b a;");
        // a is always 1: b turns twice. a always 0: it never turns.
        due("19 a at 1", x.stuck(0, 0, true), 1);
        due("19 a at 0", x.stuck(1, 0, false), 0);
        due("19 a at 0 of 3", x.stuck(3, 0, false), 2);
        // b is always 0: a turns, b comes back to 0.
        due("19 b at 0", x.stuck(2, 1, false), 1);
        due("19 b at 1", x.stuck(0, 1, true), 3);
        due("19 without gates", Check.told(AB).stuck(0, 1, true), 2);
        due("19 row 4", x.stuck(4, 0, true), NONE);
        due("19 row -1", x.stuck(-1, 0, true), NONE);
        due("19 wire 2", x.stuck(0, 2, true), NONE);
        due("19 wire -1", x.stuck(0, -1, false), NONE);
        due("19 wire 32", x.stuck(0, 32, false), NONE);
    }

    private static void promise20Terms() {
        BackLogic x = Check.told(ABC + "gate a -b;gate c a b;");
        // a becomes a + 1 + b: sets 0, 1, 2. b stays: set 2. c becomes c + (a + 1 + b) b = c + a b.
        due("20 a", x.terms(0), 1 | 1 << 1 | 1 << 2);
        due("20 b", x.terms(1), 1 << 2);
        due("20 c", x.terms(2), 1 << 4 | 1 << 3);
        due("20 no wire 3", x.terms(3), NONE);
        due("20 no wire -1", x.terms(-1), NONE);
        BackLogic four = Check.told(ABCD + "gate d -a -b -c;");
        // (1 + a)(1 + b)(1 + c) has all eight sets of a, b, c; d itself is set 8.
        due("20 d", four.terms(3), 255 | 1 << 8);
        due("20 degree", four.count(15), 3);
    }

    private static void idles(String text, int i, int k) {
        BackLogic x = Check.told(text);
        due("21 i of " + text, x.idle(0), i);
        due("21 k of " + text, x.idle(1), k);
    }

    private static void promise21Idle() {
        idles(AB, -2, -2);
        idles(AB + "gate a;gate b;", -2, -2);
        idles(AB + "gate a;gate b;gate a;gate b;", 0, 3);
        idles(AB + "gate a;gate b;gate b;gate a;", 1, 2);
        idles(AB + "gate a;gate a;gate b;gate b;", 0, 1);
        idles(AB + "gate a b;gate a -b;gate a;gate b;gate b;", 3, 4);
        idles(AB + "gate b;gate a b;gate a -b;gate a;", 1, 3);
        BackLogic x = Check.told(AB);
        due("21 what 2", x.idle(2), NONE);
        due("21 what -1", x.idle(-1), NONE);
        due("21 what -2", x.idle(-2), NONE);
    }

    private static void tests(String text, int... rows) {
        BackLogic x = Check.told(text);
        due("22 " + text, x.test(NONE), rows.length);
        for (int i = 0; i < rows.length; i++) {
            due("22 " + text + " row " + i, x.test(i), rows[i]);
        }
        due("22 " + text + " no more", x.test(rows.length), NONE);
        due("22 " + text + " no -2", x.test(-2), NONE);
        due("22 " + text + " none far out", x.test(MOST), NONE);
    }

    private static void promise22Test() {
        tests("");
        tests("wire a;", 0, 1);
        // Each bit must be 0 once and 1 once: 0 and 3 are before 1 and 2.
        tests(AB, 0, 3);
        tests(ABCD, 0, 15);
        // Row 0 ends at 1 and sees a at 0 alone, row 1 ends at 0 and sees a at 1 alone.
        tests("wire a;gate a;", 0, 1);
    }

    private static void promise23Like() {
        BackLogic x = Check.told(ABC + "gate a b;");
        due("23 nothing held", x.like(0), NONE);
        due("23 no slot 3", x.like(3), NONE);
        due("23 no slot -1", x.like(-1), NONE);
        x.hold(0);
        due("23 itself", x.like(0), 1);
        x.take(0);
        x.put(0, 2, 1, 0);
        due("23 renamed", x.like(0), 1);
        x.put(0, 2, 1, 0);
        due("23 nothing is made is another order", x.like(0), 0);
        x.hold(1);
        due("23 that which stays, all ways", x.like(1), 6);
        x.become(0);
        due("23 the order counts, not the gates", x.like(1), 6);
        x.put(0, 0, 6, 0);
        x.hold(2);
        due("23 two controls change places", x.like(2), 2);
        // a to b to c to a: two of six ways turn it the other way round.
        BackLogic round = Check.told(ABC + "gate a b;gate b a;gate a b;gate b c;gate c b;gate b c;");
        round.hold(0);
        due("23 three go round", round.like(0), 3);
        round.become(3);
        due("23 the other way round", round.like(0), 3);
    }

    private static void promises24And25Table() {
        BackLogic x = Check.told("table 3 1 0 0 0 0 0 0 0 0;");
        // Eight copies: three lines of garbage, one more than the inputs.
        int[] due = {3, 1, 8, 3, 4, 1};
        for (int what = 0; what < due.length; what++) {
            due("24 all alike " + what, x.table(what), due[what]);
        }
        int[] laid = {0, 2, 4, 6, 8, 10, 12, 14, 1, 3, 5, 7, 9, 11, 13, 15};
        for (int row = 0; row < laid.length; row++) {
            due("25 all alike " + row, x.laid(row), laid[row]);
        }
        due("25 row 16", x.laid(16), NONE);
        due("25 row -1", x.laid(-1), NONE);
        due("24 what 8", x.table(8), NONE);
        due("24 what -1", x.table(-1), NONE);
        BackLogic wide = Check.told("table 3 3 7 7 7 7 7 7 7 7;");
        due("24 six lines", wide.table(4), 6);
        due("25 row 1 of six lines", wide.laid(1), 15);
        due("25 row 63 of six lines", wide.laid(63), 62);
        due("25 row 64", wide.laid(64), NONE);
        BackLogic not = Check.told("table 1 1 1 0;");
        int[] dueNot = {1, 1, 1, 0, 1, 0, 1, 1};
        for (int what = 0; what < dueNot.length; what++) {
            due("24 not " + what, not.table(what), dueNot[what]);
        }
        BackLogic three = Check.told("table 2 1 1 1 0 1;");
        due("24 three copies", three.table(2), 3);
        due("24 two lines of garbage", three.table(3), 2);
        due("24 the same", Check.told("table 2 2 0 1 2 3;").table(6), 0);
        due("24 more outputs", Check.told("table 1 3 5 2;").table(5), 2);
        BackLogic none = Check.told(AB);
        due("24 no table", none.table(0), NONE);
        due("25 no table", none.laid(0), NONE);
    }

    private static void promise26Off() {
        BackLogic x = Check.told(ABC + "gate a b;");
        due("26 nothing held", x.off(0), NONE);
        x.hold(0);
        due("26 nothing lacks", x.off(0), 0);
        x.put(1, 1, 1, 0);
        due("26 one gate", x.off(0), 1);
        x.put(2, 0, 2, 0);
        x.put(3, 2, 3, 0);
        // Behind it: c where a b, a where b, b where a.
        due("26 three gates", x.off(0), 3);
        due("26 no slot 3", x.off(3), NONE);
        due("26 no slot -1", x.off(-1), NONE);
        // a turned where b is off, then undone: with gates that are ON alone it takes two.
        BackLogic two = Check.told(AB);
        two.hold(1);
        two.put(0, 0, 0, 2);
        due("26 two gates", two.off(1), 2);
        // Behind it, not ahead: first b by a, a; then what brings back.
        BackLogic side = Check.told(AB + "gate a;");
        side.hold(2);
        side.take(0);
        side.put(0, 1, 1, 0);
        due("26 behind it", side.off(2), 2);
        BackLogic four = Check.told(ABCD);
        four.hold(0);
        due("26 four wires", four.off(0), NONE);
    }

    private static void promises27And28Slots() {
        BackLogic x = Check.told(AB + "gate a;");
        due("28 holds nothing", x.restore(0), false);
        due("27 no slot 3", x.hold(3), false);
        due("27 no slot -1", x.hold(-1), false);
        due("27 hold", x.hold(0), true);
        x.put(1, 1, 1, 0);
        due("27 hold another", x.hold(2), true);
        due("27 two held", x.count(8), 2);
        due("27 holding is nothing to undo", x.count(7), 1);
        x.take(0);
        due("28 no slot 3", x.restore(3), false);
        due("28 no slot -1", x.restore(LEAST), false);
        due("28 still two to undo", x.count(7), 2);
        due("28 restore", x.restore(2), true);
        gates("28", x, 0, 0, 0, 1, 1, 0);
        due("28 nothing to undo", x.count(7), 0);
        due("28 no undo", x.undo(), false);
        x.take(1);
        x.take(0);
        due("28 it stays there", x.restore(2), true);
        gates("28 again", x, 0, 0, 0, 1, 1, 0);
        due("28 the first one", x.restore(0), true);
        gates("28 first", x, 0, 0, 0);
        x.take(0);
        due("27 hold over it", x.hold(0), true);
        due("27 still two", x.count(8), 2);
        x.put(0, 0, 0, 0);
        due("28 restore no gates", x.restore(0), true);
        due("28 no gates", x.count(1), 0);
        // Undoing changes no slot.
        x.put(0, 1, 0, 0);
        x.hold(1);
        x.undo();
        due("28 restore what was undone", x.restore(1), true);
        gates("28 undone", x, 1, 0, 0);
    }

    private static void promise29Count() {
        BackLogic x = Check.told(ABCD + "price 2 3 5 7;gate a b;gate a;gate c a;gate a b;gate b -a -c;gate d;");
        int[] due = {
            4, 6, 3 + 2 + 3 + 3 + 5 + 2, 5, 1 << 5, 15, 0, 0, 0, 2, 3, 5, 7, 5, 65535, 2, 5
        };
        for (int what = 0; what < due.length; what++) {
            due("29 " + what, x.count(what), due[what]);
        }
        due("29 what 17", x.count(17), NONE);
        due("29 what -1", x.count(-1), NONE);
        due("29 what far out", x.count(LEAST), NONE);
        x.feed(0, 0, 0, 0, 0);
        x.hold(0);
        x.put(0, 0, 14, 0);
        due("29 tape", x.count(6), 20);
        due("29 to undo", x.count(7), 1);
        due("29 held", x.count(8), 1);
        due("29 three controls cost", x.count(2), 25);
        BackLogic one = Check.told(AB + "gate b;");
        due("29 one gate agrees with all others", one.count(4), 1);
        due("29 wires of a gate", one.count(5), 2);
        due("29 rows that see", one.count(14), 15);
        due("29 degree 1", one.count(15), 1);
        due("29 degree of no wires", new BackLogic().count(15), 0);
    }
}
