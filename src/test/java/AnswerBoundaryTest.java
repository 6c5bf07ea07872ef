import java.util.ArrayList;
import java.util.List;
import java.util.function.IntUnaryOperator;

/**
 * Each sentence about what is told of rows, gates, cascades and tables that names a boundary case:
 * part II of the terms, promises 11 to 26 and 29.
 */
public final class AnswerBoundaryTest {
    private static final int NONE = BackLogic.NONE;
    private static final int NOTHING = -2;
    private static final int LEAST = Integer.MIN_VALUE;
    private static final int MOST = Integer.MAX_VALUE;
    private static final int[] FAR = {LEAST, LEAST + 1, -65536, -256, -33, -32, 64, 128, 256, 65536, MOST - 1, MOST};
    private static final String AB = "wire a;wire b;";
    private static final String ABC = AB + "wire c;";
    private static final String ABCD = ABC + "wire d;";
    private static final String SIXTEEN_ALIKE = "wire a;" + "gate a;".repeat(16);
    // Sixteen gates that no rule shrinks.
    private static final String SIXTEEN_FIRM = ABCD + "gate c b -d;gate d -b c;gate d -a b -c;gate c b;"
        + "gate b -a c -d;gate b -a d;gate a -b c;gate a -b -d;gate d -a b c;gate c -a b;gate d a c;gate d -c;"
        + "gate c -a d;gate b c d;gate d;gate a c -d;";
    // Takes eight gates that are ON at least.
    private static final String EIGHT = ABC + "gate b -a c;gate a -b c;gate c -a -b;gate b c;";
    private static final Check CHECK = new Check("AnswerBoundaryTest");

    public static void main(String[] args) {
        gateWithin();
        gateLevels();
        gateFree();
        madeWithin();
        undoneWithin();
        gateTurns();
        orderWithin();
        timesOnceAtLeast();
        agreeWithin();
        agreeOfEachRow();
        shrunkWithin();
        shrunkFromAllToNone();
        shrunkFirstThatCan();
        shrunkLeastThenNext();
        shrunkOnlyIfAllBetweenAgree();
        shrunkRulesAreStrict();
        foundWithin();
        foundTies();
        leastWithin();
        leastOfThreeWiresAtMost();
        firstOfTheLeast();
        stuckWithin();
        stuckAtFirstAndBehindEach();
        termsWithin();
        emptySetAndDegree();
        idleWithin();
        idleFewestThenLeast();
        testWithin();
        testsFewestThenLeast();
        likeWithin();
        likeWays();
        tableWithin();
        tableGarbage();
        tableFound();
        laidWithin();
        laidIsAnOrder();
        offWithin();
        offFromNoneToEight();
        countWithin();
        countGates();
        countCost();
        nothingLeftOfTheTextAhead();
        CHECK.end();
    }

    private static void due(String call, long got, long want) {
        CHECK.due(call, got, want);
    }

    private static String wires(int count) {
        return ABCD.substring(0, 7 * count);
    }

    /** Numbers from least to most are answered; those beside them and far out are NONE. */
    private static void within(String call, int least, int most, IntUnaryOperator answer) {
        for (int i = least; i <= most; i++) {
            CHECK.due(call + " " + i + " is one", answer.applyAsInt(i) != NONE, true);
        }
        for (int i = 1; i <= 3; i++) {
            CHECK.due(call + " " + (least - i), answer.applyAsInt(least - i), NONE);
            CHECK.due(call + " " + (most + i), answer.applyAsInt(most + i), NONE);
        }
        for (int far : FAR) {
            CHECK.due(call + " " + far, answer.applyAsInt(far), NONE);
        }
    }

    private static int[] sizes() {
        return new int[] {0, 1, 2, 15, 16};
    }

    private static BackLogic some(int gates) {
        return Check.told(ABCD + "gate a b;gate c -d;gate b;gate d a -b c;".repeat(4).substring(0, cut(gates)));
    }

    private static int cut(int gates) {
        int[] behind = {0, 9, 19, 26, 40};
        return gates / 4 * 40 + behind[gates % 4];
    }

    // ---- promise 11

    /** "NONE for others.": gates and whats that aren't. */
    private static void gateWithin() {
        for (int size : sizes()) {
            for (int what = 0; what <= 6; what++) {
                BackLogic x = some(size);
                due("11 so many", x.count(1), size);
                int asked = what;
                within("11 of " + size + " what " + what + " gate", 0, size - 1, i -> x.gate(i, asked));
            }
        }
        BackLogic x = some(4);
        for (int i = 0; i < 4; i++) {
            int gate = i;
            within("11 gate " + i + " what", 0, 6, what -> x.gate(gate, what));
        }
        due("11 neither", x.gate(NONE, NONE), NONE);
    }

    /** "each on the least level (from 0 on) above all levels of earlier ones with a WIRE .. that it has, too" */
    private static void gateLevels() {
        BackLogic one = Check.told(SIXTEEN_ALIKE);
        for (int i = 0; i < 16; i++) {
            due("11 one wire, level " + i, one.gate(i, 4), i);
        }
        due("29 sixteen levels", one.count(3), 16);
        BackLogic apart = Check.told(ABCD + "gate a;gate b;gate c;gate d;");
        for (int i = 0; i < 4; i++) {
            due("11 apart, level of " + i, apart.gate(i, 4), 0);
        }
        due("29 one level", apart.count(3), 1);
        // c is on level 0, though two levels are there; d by c then on 1; a by d above both.
        BackLogic x = Check.told(ABCD + "gate a;gate a b;gate c;gate d c;gate a d;gate b -a;gate c;");
        int[] levels = {0, 1, 0, 1, 2, 3, 2};
        for (int i = 0; i < levels.length; i++) {
            due("11 level of " + i, x.gate(i, 4), levels[i]);
        }
        due("29 four levels", x.count(3), 4);
        due("29 no levels", Check.told(ABCD).count(3), 0);
    }

    /** "those right ahead of it, one behind the other, as long as it AGREES with them" */
    private static void gateFree() {
        BackLogic alike = Check.told(SIXTEEN_ALIKE);
        for (int i = 0; i < 16; i++) {
            due("11 free of all ahead", alike.gate(i, 5), i);
            due("11 agrees with all behind", alike.gate(i, 6), 15 - i);
        }
        // Gate 3 agrees with gates 0 and 2, gate 1 is between: it is free of one.
        BackLogic x = Check.told(ABC + "gate b;gate a b;gate c;gate b;gate c;gate a b;gate b;");
        int[] free = {0, 0, 2, 1, 4, 1, 0};
        int[] behind = {0, 1, 4, 1, 2, 0, 0};
        for (int i = 0; i < free.length; i++) {
            due("11 free " + i, x.gate(i, 5), free[i]);
            due("11 behind " + i, x.gate(i, 6), behind[i]);
        }
        BackLogic one = Check.told("wire a;gate a;");
        due("11 none ahead of the first", one.gate(0, 5), 0);
        due("11 none behind the last", one.gate(0, 6), 0);
    }

    // ---- promises 12 to 14

    /** "(2 to the WIRES ROWS, from 0 on)", "by the first n GATES (0 .. all); NONE: no such ones" */
    private static void madeWithin() {
        for (int wires = 0; wires <= 4; wires++) {
            BackLogic x = Check.told(wires(wires));
            within("12 of " + wires + " row", 0, (1 << wires) - 1, row -> x.made(row, 0));
            BackLogic gates = Check.told(wires(wires) + (wires > 0 ? "gate a;gate a;gate a;" : ""));
            int last = (1 << wires) - 1;
            within("12 of " + wires + " n", 0, wires > 0 ? 3 : 0, n -> gates.made(last, n));
        }
        for (int size : sizes()) {
            BackLogic x = some(size);
            within("12 of " + size + " n", 0, size, n -> x.made(15, n));
            due("12 by none", x.made(15, 0), 15);
            due("12 both wrong", x.made(16, size + 1), NONE);
        }
        BackLogic x = Check.told(SIXTEEN_ALIKE);
        for (int n = 0; n <= 16; n++) {
            due("12 by the first " + n, x.made(0, n), n % 2);
        }
    }

    /** "BACK of a ROW; NONE: no such one." */
    private static void undoneWithin() {
        for (int wires = 0; wires <= 4; wires++) {
            BackLogic x = Check.told(wires(wires) + (wires > 0 ? "gate a;" : ""));
            within("13 of " + wires + " row", 0, (1 << wires) - 1, x::undone);
            for (int row = 0; row < 1 << wires; row++) {
                due("13 back", x.undone(row), wires > 0 ? row ^ 1 : row);
            }
        }
        BackLogic x = Check.told(SIXTEEN_FIRM);
        for (int row = 0; row < 16; row++) {
            due("13 there and back", x.undone(x.made(row, 16)), row);
        }
    }

    /** "A GATE turns its TARGET .. if all CONTROLS that are ON are 1, and all that are OFF 0." */
    private static void gateTurns() {
        for (int on = 0; on < 16; on += 2) {
            for (int off = 0; off < 16; off += 2) {
                if ((on & off) != 0) {
                    continue;
                }
                BackLogic x = Check.told(ABCD);
                x.put(0, 0, on, off);
                for (int row = 0; row < 16; row++) {
                    boolean turns = (row & on) == on && (row & off) == 0;
                    due("12 on " + on + " off " + off, x.made(row, 1), turns ? row ^ 1 : row);
                }
            }
        }
    }

    private static void orders(String text, int... answers) {
        BackLogic x = Check.told(text);
        for (int what = 0; what < answers.length; what++) {
            due("14 what " + what + " of " + text, x.order(what), answers[what]);
        }
    }

    /** Promise 14, "NONE for others."; one round of all rows, rounds of one row each. */
    private static void orderWithin() {
        for (int wires = 0; wires <= 4; wires++) {
            BackLogic x = Check.told(wires(wires));
            within("14 of " + wires + " what", 0, 4, x::order);
            orders(wires(wires), 1 << wires, 1, 1, 1, 1 << wires);
        }
        orders("wire a;gate a;", 1, 2, 2, 0, 0);
        orders(AB + "gate b a;gate a;", 1, 4, 4, 0, 0);
        orders(ABC + "gate c a b;gate b a;gate a;", 1, 8, 8, 0, 0);
        orders(ABCD + "gate d a b c;gate c a b;gate b a;gate a;", 1, 16, 16, 0, 0);
        orders(ABCD + "gate a b c d;", 15, 2, 2, 0, 14);
        orders(ABCD + "gate a b c;", 14, 2, 2, 1, 12);
        orders(ABCD + "gate a;", 8, 2, 2, 1, 0);
    }

    /** "TIMES: how often the CASCADE must be gone through, once at least": 1, and the most there can be. */
    private static void timesOnceAtLeast() {
        due("14 times of no wires", new BackLogic().order(2), 1);
        due("14 times of no gates", Check.told(ABCD).order(2), 1);
        due("14 times of gates that do nothing", Check.told(SIXTEEN_ALIKE).order(2), 1);
        // Rounds of 4, 5 and 7 rows: no other order of 16 rows takes more.
        orders(ABCD + "gate a b -d;gate b;gate b a -c -d;gate d -a -b;gate c a -b;", 3, 7, 140, 0, 0);
        due("14 times 15, three wires",
            Check.told(ABC + "gate b a -c;gate c a -b;gate a -c;gate c;").order(2), 15);
    }

    // ---- promise 15

    /** "NONE: no such ones." */
    private static void agreeWithin() {
        for (int size : sizes()) {
            BackLogic x = some(size);
            for (int i = 0; i < size; i += 5) {
                int gate = i;
                within("15 of " + size + " other", 0, size - 1, k -> x.agree(gate, k));
            }
            BackLogic y = some(size);
            for (int i = 0; i < size; i += 5) {
                int gate = i;
                within("15 of " + size + " one", 0, size - 1, k -> y.agree(k, gate));
            }
            due("15 neither", x.agree(-1, size), NONE);
        }
        BackLogic x = some(16);
        for (int i = 0; i < 16; i++) {
            due("15 itself", x.agree(i, i), 1);
            due("15 one alike", x.agree(i, (i + 4) % 16), 1);
        }
    }

    /** "if in either order they make the same of each ROW": of each one, not of most. */
    private static void agreeOfEachRow() {
        // Of sixteen rows only 14 and 15 tell a by b c d and b by a c d apart.
        BackLogic x = Check.told(ABCD + "gate a b c d;gate b a c d;gate b a -c d;gate a b;gate a -b;gate c;");
        due("15 one row of each", x.agree(0, 1), 0);
        due("15 either order", x.agree(1, 0), 0);
        due("15 never both, though each has the other's target", x.agree(0, 2), 1);
        due("15 never both, the other order", x.agree(2, 0), 1);
        due("15 the same target", x.agree(3, 4), 1);
        due("15 no wire of both", x.agree(3, 5), 1);
        due("15 a control is turned", x.agree(0, 5), 0);
    }

    // ---- promise 16

    private static void shrinks(String text, int... parts) {
        BackLogic x = Check.told(text);
        due("16 " + text, x.shrunk(NONE, 0), parts.length / 3);
        for (int i = 0; i < parts.length; i++) {
            due("16 " + text + " part " + i, x.shrunk(i / 3, i % 3), parts[i]);
        }
        due("16 " + text + " no more", x.shrunk(parts.length / 3, 0), NONE);
    }

    /** "how many GATES (i NONE, whatever what is), .. NONE: no such ones." */
    private static void shrunkWithin() {
        BackLogic x = Check.told(ABCD + "gate a b;gate c -d;gate b;gate b;gate d a;");
        for (int what : new int[] {LEAST, -2, -1, 0, 1, 2, 3, 99, MOST}) {
            due("16 whatever what is", x.shrunk(NONE, what), 3);
        }
        for (int i = 0; i < 3; i++) {
            int gate = i;
            within("16 what", 0, 2, what -> x.shrunk(gate, what));
        }
        for (int i : new int[] {LEAST, -3, -2, 3, 4, 5, 16, MOST}) {
            for (int what = -1; what <= 3; what++) {
                due("16 i " + i, x.shrunk(i, what), NONE);
            }
        }
        due("16 the cascade is as it was", x.count(1), 5);
        due("16 nothing was done by hand", x.count(7), 0);
    }

    /** "as long as any of these can be done": from none, from sixteen to none, one, sixteen. */
    private static void shrunkFromAllToNone() {
        shrinks("");
        shrinks(ABCD);
        shrinks("wire a;gate a;", 0, 0, 0);
        shrinks(SIXTEEN_ALIKE);
        shrinks("wire a;" + "gate a;".repeat(15), 0, 0, 0);
        BackLogic firm = Check.told(SIXTEEN_FIRM);
        due("16 sixteen stay", firm.shrunk(NONE, 0), 16);
        due("16 the 16th", firm.shrunk(15, 0), 0);
        due("16 no 17th", firm.shrunk(16, 0), NONE);
        // All eight gates with three controls: by rule 2 to four, to two, to one without any.
        shrinks(ABCD + "gate a b c d;gate a b c -d;gate a b -c d;gate a b -c -d;"
            + "gate a -b c d;gate a -b c -d;gate a -b -c d;gate a -b -c -d;", 0, 0, 0);
    }

    /** "the first that can": 1 ahead of 2 ahead of 3, wherever they are. */
    private static void shrunkFirstThatCan() {
        // 1 takes the first and the last; 2 would join the first two.
        shrinks(AB + "gate a b;gate a -b;gate a b;", 0, 0, 2);
        // 1 takes the last two; 3 would join the first two.
        shrinks(AB + "gate a;gate a b;gate a b;", 0, 0, 0);
        // 2 joins the last two to a c, by 1 all go; 3 would make c b of the first two.
        shrinks(ABC + "gate a c;gate a c b;gate a c -b;");
        // 2 joins the first and the last, though 3 could join the first two.
        shrinks(ABC + "gate a b;gate a b c;gate a -b;", 0, 6, 0, 0, 0, 0);
    }

    /** "Of each kind i is the least, then k." */
    private static void shrunkLeastThenNext() {
        // 1: the first two of three alike; with k the last, c would be behind a.
        shrinks(ABC + "gate a;gate b;gate a;gate c;gate a;", 1, 0, 0, 2, 0, 0, 0, 0, 0);
        // 2: the first with the second, not the third; the first with the third, not the second two.
        shrinks(ABC + "gate a b c;gate a -b c;gate a b -c;", 0, 4, 0, 0, 2, 4);
        shrinks(ABC + "gate a b -c;gate a b c;gate a -b c;", 0, 2, 0, 0, 4, 2);
        // 3: the first with the second, not the third; the first with the third, not the second two.
        shrinks(ABC + "gate a;gate a b;gate a c;", 0, 0, 2, 0, 4, 0);
        shrinks(ABC + "gate a b;gate a c;gate a b c;", 0, 4, 0, 0, 2, 4);
    }

    /** "GATE i AGREES with each one between", of each rule: none, one, many between, one that doesn't. */
    private static void shrunkOnlyIfAllBetweenAgree() {
        String between = "gate c;gate d c;gate c d;gate d;";
        shrinks(ABCD + "gate a b;" + between + "gate a b;",
            2, 0, 0, 3, 4, 0, 2, 8, 0, 3, 0, 0);
        shrinks(ABCD + "gate a b;" + between + "gate a -b;",
            2, 0, 0, 3, 4, 0, 2, 8, 0, 3, 0, 0, 0, 0, 0);
        shrinks(ABCD + "gate a;" + between + "gate a b;",
            2, 0, 0, 3, 4, 0, 2, 8, 0, 3, 0, 0, 0, 0, 2);
        shrinks(ABCD + "gate a b;gate c;gate b d;gate d;gate a b;",
            0, 2, 0, 2, 0, 0, 1, 8, 0, 3, 0, 0, 0, 2, 0);
        shrinks(ABCD + "gate a b;gate b d;gate a -b;", 0, 2, 0, 1, 8, 0, 0, 0, 2);
        shrinks(ABCD + "gate a;gate b a;gate a b;", 0, 0, 0, 1, 1, 0, 0, 2, 0);
        // It is gate i that must agree: of a and a b, b between agrees with the first alone.
        shrinks(AB + "gate a;gate b;gate a b;", 1, 0, 0, 0, 0, 2);
        shrinks(AB + "gate a b;gate b;gate a;", 0, 2, 0, 1, 0, 0, 0, 0, 0);
    }

    /** "just one of them ON in the one and OFF in the other", "as they are there, and one WIRE more" */
    private static void shrunkRulesAreStrict() {
        shrinks(ABC + "gate a b c;gate a -b -c;", 0, 6, 0, 0, 0, 6);
        shrinks(ABCD + "gate a b c d;gate a -b -c -d;", 0, 14, 0, 0, 0, 14);
        shrinks(ABC + "gate a b;gate a -c;", 0, 2, 0, 0, 0, 4);
        shrinks(ABC + "gate a b;gate c b;", 0, 2, 0, 2, 2, 0);
        shrinks(ABC + "gate a;gate a b c;", 0, 0, 0, 0, 6, 0);
        shrinks(ABCD + "gate a b;gate a b c d;", 0, 2, 0, 0, 14, 0);
        shrinks(ABC + "gate a b;gate a -b c;", 0, 2, 0, 0, 4, 2);
        shrinks(ABC + "gate a -b;gate a b c;", 0, 0, 2, 0, 6, 0);
        // One more in the first, in the second; ON to OFF, OFF to ON.
        shrinks(ABC + "gate a b;gate a b c;", 0, 2, 4);
        shrinks(ABC + "gate a b -c;gate a b;", 0, 6, 0);
        shrinks(ABCD + "gate a -b c;gate a -b c -d;", 0, 12, 2);
    }

    // ---- promise 17

    /** "how many GATES (i NONE, whatever what is), .. NONE: no such ones." */
    private static void foundWithin() {
        for (boolean both : new boolean[] {false, true}) {
            BackLogic x = Check.told(AB + "gate a;gate b;");
            for (int what : new int[] {LEAST, -2, -1, 0, 1, 2, 99, MOST}) {
                due("17 whatever what is", x.found(both, NONE, what), 3);
            }
            for (int i = 0; i < 3; i++) {
                int gate = i;
                within("17 what", 0, 1, what -> x.found(both, gate, what));
            }
            for (int i : new int[] {LEAST, -3, -2, 3, 4, 16, 384, MOST}) {
                for (int what = -1; what <= 2; what++) {
                    due("17 i " + i, x.found(both, i, what), NONE);
                }
            }
            due("17 the cascade is as it was", x.count(1), 2);
            for (int wires = 0; wires <= 4; wires++) {
                BackLogic none = Check.told(wires(wires));
                due("17 none", none.found(both, NONE, 0), 0);
                due("17 no first", none.found(both, 0, 0), NONE);
            }
        }
        // More than sixteen can be found, if not become.
        BackLogic many = Check.told(ABCD + "gate d -a -b -c;gate d -a c;gate b -a;gate b d;gate a b d;gate c;"
            + "gate b d;gate a;gate b c -d;");
        within("17 many", 0, 41, i -> i == NONE ? NONE : many.found(false, i, 0));
        due("17 forty-two", many.found(false, NONE, 0), 42);
    }

    private static void finds(String text, boolean both, int... parts) {
        BackLogic x = Check.told(text);
        due("17 " + text, x.found(both, NONE, 0), parts.length / 2);
        for (int i = 0; i < parts.length; i++) {
            due("17 " + text + " part " + i, x.found(both, i / 2, i % 2), parts[i]);
        }
    }

    /** "do x and z differ in fewer bits than x and y": fewer, not as many. */
    private static void foundTies() {
        // P is 1 3 0 2. Row 0: y is 1, z is 2, as many bits: y's side, a; P is 0 2 1 3. Row 1: y and z
        // are 2: a by b, b by a; P is 0 1 3 2. Row 2: a by b. From z's side the first would be b.
        String tie = AB + "gate a b;gate b a;gate a b;gate a;";
        finds(tie, true, 0, 2, 1, 1, 0, 2, 0, 0);
        finds(tie, false, 0, 2, 1, 1, 0, 2, 0, 0);
        // P is 3 0 2 1. Row 0: y is 3, z is 1: z's side, a ahead; P is 0 3 1 2. Row 1: y is 3, z is 2:
        // y's side, b by a; P is 0 1 3 2. Row 2: a by b.
        String nearer = AB + "gate a;gate a b;gate b a;";
        finds(nearer, true, 0, 0, 0, 2, 1, 1);
        // From y's side alone, row 0: a by b, then b; row 1: a by b, b by a; row 2: a by b.
        finds(nearer, false, 0, 2, 1, 1, 0, 2, 1, 0, 0, 2);
        finds("wire a;gate a;", true, 0, 0);
    }

    // ---- promise 18

    /** "how many GATES (i NONE, whatever what is)", "NONE: no such ones" */
    private static void leastWithin() {
        BackLogic x = Check.told(EIGHT);
        for (int what : new int[] {LEAST, -2, -1, 0, 1, 2, 99, MOST}) {
            due("18 whatever what is", x.least(NONE, what), 8);
        }
        for (int i = 0; i < 8; i++) {
            int gate = i;
            within("18 what", 0, 1, what -> x.least(gate, what));
        }
        for (int i : new int[] {LEAST, -3, -2, 8, 9, 16, MOST}) {
            for (int what = -1; what <= 2; what++) {
                due("18 i " + i, x.least(i, what), NONE);
            }
        }
        due("18 the cascade is as it was", x.count(1), 4);
    }

    /** "LEAST of an ORDER (3 WIRES at most)", "4 WIRES" */
    private static void leastOfThreeWiresAtMost() {
        for (int wires = 0; wires <= 3; wires++) {
            BackLogic x = Check.told(wires(wires));
            due("18 none of " + wires, x.least(NONE, 0), 0);
            due("18 no first of " + wires, x.least(0, 0), NONE);
        }
        BackLogic four = Check.told(ABCD + "gate a;gate b;");
        for (int i = -2; i <= 2; i++) {
            for (int what = -1; what <= 2; what++) {
                due("18 four wires", four.least(i, what), NONE);
            }
        }
        // One object, wires by turns.
        BackLogic x = new BackLogic();
        for (int round = 0; round < 2; round++) {
            for (int wires = 4; wires >= 1; wires--) {
                Check.read(x, wires(wires) + "gate a;");
                due("18 by turns " + wires, x.least(NONE, 0), wires == 4 ? NONE : 1);
            }
            x.read();
            due("18 by turns, no wires", x.least(NONE, 0), 0);
        }
    }

    private static void leasts(String text, int... parts) {
        BackLogic x = Check.told(text);
        due("18 " + text, x.least(NONE, 0), parts.length / 2);
        for (int i = 0; i < parts.length; i++) {
            due("18 " + text + " part " + i, x.least(i / 2, i % 2), parts[i]);
        }
    }

    /** "FIRST: .. the one whose first GATE has the least number, then the second": by target, then controls */
    private static void firstOfTheLeast() {
        leasts(ABC + "gate c;gate b;gate a;", 0, 0, 1, 0, 2, 0);
        leasts(ABC + "gate a b c;gate a c;gate a b;gate a;", 0, 0, 0, 2, 0, 4, 0, 6);
        leasts(AB + "gate b a;gate a b;gate b a;", 0, 2, 1, 1, 0, 2);
        leasts("wire a;gate a;gate a;gate a;", 0, 0);
    }

    // ---- promises 19 and 20

    /** "NONE: no such ones." */
    private static void stuckWithin() {
        for (int wires = 0; wires <= 4; wires++) {
            int all = wires;
            for (boolean one : new boolean[] {false, true}) {
                BackLogic x = Check.told(wires(wires));
                if (wires > 0) {
                    within("19 row", 0, (1 << wires) - 1, row -> x.stuck(row, all - 1, one));
                }
                within("19 wire of " + wires, 0, wires - 1, wire -> x.stuck(0, wire, one));
                due("19 neither", x.stuck(1 << wires, wires, one), NONE);
            }
        }
    }

    /** "if a WIRE were always 0 (or always 1): at first, and behind each GATE" */
    private static void stuckAtFirstAndBehindEach() {
        BackLogic none = Check.told(AB);
        for (int row = 0; row < 4; row++) {
            due("19 no gates, a at 0", none.stuck(row, 0, false), row & 2);
            due("19 no gates, a at 1", none.stuck(row, 0, true), row | 1);
            due("19 no gates, b at 0", none.stuck(row, 1, false), row & 1);
            due("19 no gates, b at 1", none.stuck(row, 1, true), row | 2);
        }
        // At first: b goes by a. Behind a gate: a is turned, and isn't. At the end: a is turned last.
        due("19 at first", Check.told(AB + "gate b a;").stuck(1, 0, false), 0);
        due("19 at first, at 1", Check.told(AB + "gate b a;").stuck(0, 0, true), 3);
        due("19 behind a gate", Check.told(AB + "gate a;gate b a;").stuck(0, 0, false), 0);
        due("19 behind a gate, at 1", Check.told(AB + "gate a;gate b a;").stuck(1, 0, true), 3);
        due("19 behind the last", Check.told(AB + "gate a;").stuck(0, 0, false), 0);
        due("19 behind the last, at 1", Check.told(AB + "gate a;").stuck(1, 0, true), 1);
    }

    /** "NONE: no such one." */
    private static void termsWithin() {
        for (int wires = 0; wires <= 4; wires++) {
            BackLogic x = Check.told(wires(wires));
            within("20 of " + wires + " wire", 0, wires - 1, x::terms);
            for (int wire = 0; wire < wires; wire++) {
                due("20 a wire that stays", x.terms(wire), 1 << (1 << wire));
            }
        }
    }

    /** "(the empty one always has)"; "DEGREE: how many WIRES the greatest one .. has" */
    private static void emptySetAndDegree() {
        due("20 turned always", Check.told("wire a;gate a;").terms(0), 1 | 1 << 1);
        due("20 turned by three", Check.told(ABCD + "gate d a b c;").terms(3), 1 << 7 | 1 << 8);
        due("20 turned by the last three", Check.told(ABCD + "gate a b c d;").terms(0), 1 << 14 | 1 << 1);
        due("20 turned by none of three", Check.told(ABCD + "gate a -b -c -d;").terms(0),
            1 | 1 << 1 | 1 << 2 | 1 << 4 | 1 << 6 | 1 << 8 | 1 << 10 | 1 << 12 | 1 << 14);
        due("29 degree of no wires", new BackLogic().count(15), 0);
        for (int wires = 1; wires <= 4; wires++) {
            due("29 degree without gates", Check.told(wires(wires)).count(15), 1);
        }
        due("29 degree 1", Check.told(ABCD + "gate a -b;").count(15), 1);
        due("29 degree 2", Check.told(ABCD + "gate a -b d;").count(15), 2);
        due("29 degree 3", Check.told(ABCD + "gate a -b c d;").count(15), 3);
        due("29 degree of a pair that joins", Check.told(ABCD + "gate a b c d;gate a -b c d;").count(15), 2);
        due("29 degree of the first wire alone", Check.told(ABCD + "gate a b c d;gate d;").count(15), 3);
    }

    // ---- promise 21

    private static void idles(String text, int i, int k) {
        BackLogic x = Check.told(text);
        due("21 i of " + text, x.idle(0), i);
        due("21 k of " + text, x.idle(1), k);
    }

    /** "(-2: there is none such). NONE for others.", "Where NONE and -2 could both be told, it is NONE" */
    private static void idleWithin() {
        for (String text : new String[] {"", ABCD, "wire a;gate a;", "wire a;gate a;gate a;"}) {
            BackLogic x = Check.told(text);
            within("21 what of " + text, 0, 1, x::idle);
        }
        idles("", NOTHING, NOTHING);
        idles(ABCD, NOTHING, NOTHING);
        idles("wire a;gate a;", NOTHING, NOTHING);
        idles(AB + "gate a;gate b;", NOTHING, NOTHING);
    }

    /** "of the fewest GATES, of alike ones that of the least i": two gates, all sixteen, the last ones */
    private static void idleFewestThenLeast() {
        idles("wire a;gate a;gate a;", 0, 1);
        idles(SIXTEEN_ALIKE, 0, 1);
        idles(AB + "gate a;".repeat(1) + "gate b;gate a b;gate a b;", 2, 3);
        idles(AB + "gate a;gate b;gate a;gate b;gate b;", 3, 4);
        idles(AB + "gate b;gate a b;gate a;gate a -b;", 1, 3);
        idles(AB + "gate a b;gate a;gate a -b;gate b;gate b;", 3, 4);
        idles(AB + "gate b a;gate a b;gate b a;gate b;".repeat(4), 0, 15);
        idles(ABCD + "gate d a b;gate a b c;gate a b c d;gate a c d;".repeat(4), 0, 15);
        BackLogic fifteen = Check.told(AB + "gate b a;gate a b;gate b a;gate b;".repeat(4));
        fifteen.take(15);
        due("21 fifteen of them are not", fifteen.idle(0), NOTHING);
    }

    // ---- promise 22

    /** "how many (i NONE), else the i-th; NONE: no such one" */
    private static void testWithin() {
        String one = ABC + "gate b a -c;gate c a;gate a -b;gate b;";
        String[] texts = {"", one, "wire a;", ABCD, SIXTEEN_ALIKE};
        int[] sizes = {0, 1, 2, 2, 2};
        for (int t = 0; t < texts.length; t++) {
            BackLogic x = Check.told(texts[t]);
            due("22 of " + texts[t], x.test(NONE), sizes[t]);
            for (int i = 0; i < sizes[t]; i++) {
                due("22 a row", x.test(i) >= 0 && x.test(i) < 1 << x.count(0) ? 1 : 0, 1);
            }
            for (int i : new int[] {LEAST, -3, -2, sizes[t], sizes[t] + 1, 8, 16, MOST}) {
                due("22 no " + i, x.test(i), NONE);
            }
        }
    }

    private static boolean sees(BackLogic x, int row, int wire, boolean one) {
        return x.stuck(row, wire, one) != x.made(row, x.count(1));
    }

    /** "the least first; of as few those of which the first one is least, then the second, and so on" */
    private static void testsFewestThenLeast() {
        String[] gates = {
            "", "gate a b;", "gate a;gate b a;", "gate b a -c;gate c a;gate a -b;gate b;", "gate a b c;gate c -a;",
            "gate c a;gate a -b -c;gate b a -c;", "gate b;gate c a b;gate a c;gate b a;gate c b;"
        };
        for (String text : gates) {
            BackLogic x = Check.told(ABC + text);
            int[] seen = new int[8];
            int all = 0;
            for (int row = 0; row < 8; row++) {
                for (int stuck = 0; stuck < 6; stuck++) {
                    seen[row] |= sees(x, row, stuck / 2, stuck % 2 == 1) ? 1 << stuck : 0;
                }
                all |= seen[row];
            }
            x = Check.told(ABC + text);
            due("22 how many of " + text, x.test(NONE), firstTests(seen, all).length);
            for (int i = 0; i < firstTests(seen, all).length; i++) {
                due("22 the tests of " + text, x.test(i), firstTests(seen, all)[i]);
            }
        }
    }

    private static int[] firstTests(int[] seen, int all) {
        for (int one = 0; one < seen.length; one++) {
            if (seen[one] == all) {
                return new int[] {one};
            }
        }
        for (int one = 0; one < seen.length; one++) {
            for (int other = one + 1; other < seen.length; other++) {
                if ((seen[one] | seen[other]) == all) {
                    return new int[] {one, other};
                }
            }
        }
        throw new IllegalStateException("a row and the one that ends at its opposite see all");
    }

    // ---- promise 23

    /** "NONE: no such one, it holds nothing." */
    private static void likeWithin() {
        BackLogic x = Check.told(ABC + "gate a b;");
        for (int slot = 0; slot <= 2; slot++) {
            due("23 it holds nothing", x.like(slot), NONE);
        }
        for (int slot = 0; slot <= 2; slot++) {
            x.hold(slot);
            int last = slot;
            within("23 slot", 0, last, x::like);
        }
        x.put(0, 0, 0, 0);
        due("23 another order", x.like(0), 0);
    }

    /** "In how many ways": one for no wires, all for nothing that is made, none. */
    private static void likeWays() {
        int[] ways = {1, 1, 2, 6, 24};
        for (int wires = 0; wires <= 4; wires++) {
            BackLogic x = Check.told(wires(wires));
            x.hold(0);
            due("23 all ways of " + wires, x.like(0), ways[wires]);
            for (int wire = 0; wire < wires; wire++) {
                x.put(0, wire, 0, 0);
            }
            due("23 all turned is not none turned", x.like(0), wires == 0 ? 1 : 0);
            x.hold(0);
            due("23 all ways of all turned", x.like(0), ways[wires]);
        }
        BackLogic x = Check.told(ABCD + "gate a b;");
        x.hold(0);
        x.take(0);
        x.put(0, 3, 4, 0);
        due("23 a to d, b to c; the other two change or not", x.like(0), 2);
        x.take(0);
        x.put(0, 3, 0, 4);
        due("23 OFF is not ON", x.like(0), 0);
        // One way only, there and not back: a to b to c.
        BackLogic round = Check.told(ABC + "gate a b;gate b c;");
        round.hold(0);
        due("23 itself", round.like(0), 1);
        round.take(0);
        round.take(0);
        round.put(0, 1, 4, 0);
        round.put(1, 2, 1, 0);
        due("23 each wire on", round.like(0), 1);
    }

    // ---- promises 24 and 25

    /** "NONE for others, without a TABLE." */
    private static void tableWithin() {
        for (String text : new String[] {"table 1 1 0 1;", "table 3 3 7 7 7 7 7 7 7 7;"}) {
            BackLogic x = Check.told(text);
            within("24 what of " + text, 0, 7, x::table);
        }
        for (BackLogic none : new BackLogic[] {new BackLogic(), Check.told(ABCD + "gate a;")}) {
            for (int what = -2; what <= 9; what++) {
                due("24 without a table " + what, none.table(what), NONE);
            }
            for (int row : new int[] {LEAST, -1, 0, 1, 2, 63, 64, MOST}) {
                due("25 without a table " + row, none.laid(row), NONE);
            }
        }
        BackLogic x = Check.told("table 1 1 0 1;");
        Check.read(x, "wire a;");
        due("24 the next text has none", x.table(0), NONE);
        due("25 the next text has none", x.laid(0), NONE);
    }

    private static void tables(String text, int... answers) {
        BackLogic x = Check.told("table " + text + ";");
        for (int what = 0; what < answers.length; what++) {
            due("24 what " + what + " of " + text, x.table(what), answers[what]);
        }
    }

    /** "the least g so that 2 to the g is no less than COPIES; LINES: the greater of n and m + g" */
    private static void tableGarbage() {
        // n, m, copies, garbage, lines, wires more.
        tables("1 1 0 1", 1, 1, 1, 0, 1, 0, 0, 0);
        tables("1 1 1 0", 1, 1, 1, 0, 1, 0, 1, 1);
        tables("1 1 1 1", 1, 1, 2, 1, 2, 1);
        tables("1 2 3 0", 1, 2, 1, 0, 2, 1);
        tables("1 3 7 0", 1, 3, 1, 0, 3, 2);
        tables("1 3 7 7", 1, 3, 2, 1, 4, 3);
        tables("2 2 0 1 2 3", 2, 2, 1, 0, 2, 0, 0, 0);
        tables("2 1 0 1 1 0", 2, 1, 2, 1, 2, 0);
        tables("2 1 0 0 0 1", 2, 1, 3, 2, 3, 1);
        tables("2 1 0 0 0 0", 2, 1, 4, 2, 3, 1);
        tables("2 3 5 5 5 5", 2, 3, 4, 2, 5, 3);
        tables("3 3 0 1 2 3 4 5 6 7", 3, 3, 1, 0, 3, 0, 0, 0);
        tables("3 2 0 0 1 1 2 2 3 3", 3, 2, 2, 1, 3, 0);
        tables("3 2 0 0 0 1 2 2 3 3", 3, 2, 3, 2, 4, 1);
        tables("3 1 0 0 0 0 1 1 1 1", 3, 1, 4, 2, 3, 0);
        tables("3 1 0 0 0 0 0 1 1 1", 3, 1, 5, 3, 4, 1);
        tables("3 1 1 1 1 1 1 1 0 0", 3, 1, 6, 3, 4, 1);
        tables("3 1 1 1 1 1 1 1 1 0", 3, 1, 7, 3, 4, 1);
        tables("3 1 1 1 1 1 1 1 1 1", 3, 1, 8, 3, 4, 1);
        tables("3 3 7 7 7 7 7 7 7 7", 3, 3, 8, 3, 6, 3);
    }

    /** "6 how many GATES FOUND AHEAD, 7 FROM BOTH ENDS, for LAID": none, few, far more than sixteen. */
    private static void tableFound() {
        tables("2 2 0 1 2 3", 2, 2, 1, 0, 2, 0, 0, 0);
        // LAID is 3 0 1 2. Ahead, row 0: a by b, b; row 1: a by b, b by a. From both, row 0: a ahead, as
        // 0 is made of 1; row 1: b by a.
        tables("2 2 3 0 1 2", 2, 2, 1, 0, 2, 0, 4, 2);
        String[] many = {
            "1 3 7 7", "3 2 0 1 1 2 1 2 2 3", "3 3 7 7 7 7 7 7 7 7", "3 3 6 0 6 6 6 6 6 6", "3 3 1 0 0 0 1 0 0 1"
        };
        for (String text : many) {
            PlainModel plain = new PlainModel();
            String line = "table " + text + ";" + " ".repeat(20);
            for (int from = 0; from < line.length() - 20; from += 20) {
                plain.feed(Check.words(line, from));
            }
            due("24 plain read of " + text, plain.read(), 0);
            BackLogic x = Check.told("table " + text + ";");
            due("24 ahead for " + text, x.table(6), plain.table(6));
            due("24 both for " + text, x.table(7), plain.table(7));
        }
        due("24 the most", Check.told("table 3 3 6 0 6 6 6 6 6 6;").table(6), 188);
    }

    /** "What is made of a ROW in LAID; NONE: no such one": of 1 to 6 lines. */
    private static void laidWithin() {
        String[] texts = {
            "table 1 1 1 0;", "table 1 1 1 1;", "table 1 3 7 0;", "table 1 3 7 7;", "table 2 3 5 5 5 5;",
            "table 3 3 7 7 7 7 7 7 7 7;"
        };
        for (int lines = 1; lines <= 6; lines++) {
            BackLogic x = Check.told(texts[lines - 1]);
            due("25 lines", x.table(4), lines);
            int rows = 1 << lines;
            for (int row = 0; row < rows; row++) {
                int made = x.laid(row);
                due("25 row " + row + " of " + lines, made >= 0 && made < rows ? 1 : 0, 1);
            }
            for (int row : new int[] {LEAST, -2, -1, rows, rows + 1, 65, MOST}) {
                due("25 no row " + row + " of " + lines, x.laid(row), NONE);
            }
        }
    }

    private static void lays(String text, int... made) {
        BackLogic x = Check.told("table " + text + ";");
        for (int row = 0; row < made.length; row++) {
            due("25 row " + row + " of " + text, x.laid(row), made[row]);
        }
        due("25 no more of " + text, x.laid(made.length), NONE);
    }

    /** "2 to the m times how many lesser ones have the same value; the other ROWS .. what is not made yet" */
    private static void laidIsAnOrder() {
        lays("1 1 0 1", 0, 1);
        lays("1 1 1 1", 1, 3, 0, 2);
        lays("1 2 3 0", 3, 0, 1, 2);
        lays("2 1 0 1 1 0", 0, 1, 3, 2);
        lays("2 1 0 0 0 1", 0, 2, 4, 1, 3, 5, 6, 7);
        lays("1 3 7 7", 7, 15, 0, 1, 2, 3, 4, 5, 6, 8, 9, 10, 11, 12, 13, 14);
        lays("3 2 0 0 0 1 2 2 3 3", 0, 4, 8, 1, 2, 6, 3, 7, 5, 9, 10, 11, 12, 13, 14, 15);
    }

    // ---- promise 26

    /** "NONE: the SLOT holds nothing, 4 WIRES, no such one." */
    private static void offWithin() {
        BackLogic x = Check.told(ABC + "gate a b;");
        for (int slot = 0; slot <= 2; slot++) {
            due("26 it holds nothing", x.off(slot), NONE);
        }
        for (int slot = 0; slot <= 2; slot++) {
            x.hold(slot);
            int last = slot;
            within("26 slot", 0, last, x::off);
        }
        BackLogic four = Check.told(ABCD + "gate a b;");
        for (int slot = -1; slot <= 3; slot++) {
            four.hold(slot);
            due("26 four wires", four.off(slot), NONE);
        }
        BackLogic none = new BackLogic();
        none.hold(0);
        due("26 no wires", none.off(0), 0);
    }

    /** "How many GATES more .. the CASCADE must have behind it at least": none to eight. */
    private static void offFromNoneToEight() {
        BackLogic x = Check.told(EIGHT);
        x.hold(0);
        due("26 none", x.off(0), 0);
        for (int i = 0; i < 4; i++) {
            x.take(0);
        }
        due("26 eight behind no gates", x.off(0), 8);
        x.hold(1);
        x.restore(0);
        due("26 eight behind, to make nothing", x.off(1), 8);
        // Behind it, not ahead of it: b by a; then a turned behind takes more than ahead.
        BackLogic side = Check.told(AB + "gate a;gate b a;");
        side.hold(0);
        side.take(0);
        due("26 behind, not ahead", side.off(0), 2);
        for (int wires = 1; wires <= 3; wires++) {
            BackLogic y = Check.told(wires(wires));
            y.hold(2);
            y.put(0, wires - 1, 0, 0);
            due("26 one", y.off(2), 1);
        }
    }

    // ---- promise 29

    /** "NONE for others." */
    private static void countWithin() {
        for (String text : new String[] {"", ABCD, SIXTEEN_FIRM, SIXTEEN_ALIKE}) {
            BackLogic x = Check.told(text);
            within("29 what", 0, 16, x::count);
        }
    }

    /** 1, 4, 5, 13, 14, 16: of no gates, of one, of sixteen. */
    private static void countGates() {
        int[][] due = {
            // gates, that agree, wires, controls, rows that see, unlike ones
            counts(""), {0, 0, 0, 0, 0, 0},
            counts(ABCD), {0, 0, 0, 0, 65535, 0},
            counts("wire a;gate a;"), {1, 1, 1, 0, 3, 1},
            counts(ABCD + "gate d -a -b -c;"), {1, 1, 15, 3, 65535, 1},
            counts(SIXTEEN_ALIKE), {16, 65535, 1, 0, 3, 1},
            counts(ABCD + "gate d a -b c;".repeat(16)), {16, 65535, 15, 48, 65535, 1},
            counts(SIXTEEN_FIRM), {16, 0, 15, 31, 65535, 16},
            counts(AB + "gate a b;gate a -b;gate a;gate a b;"), {4, 15, 3, 3, 15, 3},
            counts(ABC + "gate a;gate b a;gate c;"), {3, 4, 7, 1, 255, 3}
        };
        for (int i = 0; i < due.length; i += 2) {
            for (int k = 0; k < 6; k++) {
                due("29 case " + i / 2 + " count " + k, due[i][k], due[i + 1][k]);
            }
        }
    }

    private static int[] counts(String text) {
        BackLogic x = Check.told(text);
        return new int[] {x.count(1), x.count(4), x.count(5), x.count(13), x.count(14), x.count(16)};
    }

    /** "COST: the PRICES of all GATES": none, the least, the most. */
    private static void countCost() {
        due("29 cost of none", Check.told(ABCD + "price 99 99 99 99;").count(2), 0);
        due("29 the least cost", Check.told("wire a;gate a;").count(2), 1);
        due("29 the most", Check.told(ABCD + "price 1 1 1 99;" + "gate a b -c d;".repeat(16)).count(2), 16 * 99);
        BackLogic x = Check.told(ABCD + "price 2 3 50 99;gate a;gate a b;gate a b -c;gate a -b -c -d;");
        int[] prices = {2, 3, 50, 99};
        for (int controls = 0; controls < 4; controls++) {
            due("11 price by controls", x.gate(controls, 3), prices[controls]);
        }
        due("29 cost of each once", x.count(2), 154);
        due("29 first prices", Check.told(ABCD + "gate a;gate a b;gate a b -c;gate a -b -c -d;").count(2), 20);
    }

    // ---- texts one behind the other

    /** Each call that looks at the cascade or the table, once or a few times. */
    private static List<Integer> looks(BackLogic x) {
        List<Integer> answers = new ArrayList<>();
        x.hold(1);
        for (int what = 0; what <= 4; what++) {
            answers.add(x.order(what));
            answers.add(x.count(2 + what));
            answers.add(x.count(12 + what));
            answers.add(x.table(3 + what));
            answers.add(x.terms(what));
            answers.add(x.gate(what, what + 2));
        }
        for (int i = -1; i <= 3; i++) {
            answers.add(x.test(i));
            answers.add(x.idle(i));
            answers.add(x.shrunk(i, 1));
            answers.add(x.found(false, i, 1));
            answers.add(x.found(true, i, 1));
            answers.add(x.least(i, 1));
            answers.add(x.undone(i));
            answers.add(x.laid(i));
            answers.add(x.like(i));
            answers.add(x.off(i));
            answers.add(x.stuck(i, 0, true));
        }
        return answers;
    }

    /** "else it is in place of the one ahead": what many wires and gates left behind shows nowhere. */
    private static void nothingLeftOfTheTextAhead() {
        String[] gates = {"", "gate a;", "gate a -b;gate b;", "gate c a;gate a -b -c;gate b;gate c b;", "gate d -a;"};
        String[] tables = {"", "table 1 1 1 1;"};
        for (int wires = 0; wires <= 4; wires++) {
            for (String table : tables) {
                String text = wires(wires) + gates[wires] + table;
                for (String ahead : new String[] {SIXTEEN_FIRM, EIGHT, SIXTEEN_ALIKE}) {
                    BackLogic x = Check.told(ahead + "table 3 3 6 0 6 6 6 6 6 6;price 9 9 9 9;");
                    looks(x);
                    due("behind another text: " + text, Check.read(x, text), 0);
                    List<Integer> got = looks(x);
                    List<Integer> want = looks(Check.told(text));
                    for (int i = 0; i < want.size(); i++) {
                        due("behind another text: " + text + ", look " + i, got.get(i), want.get(i));
                    }
                }
            }
        }
    }
}
