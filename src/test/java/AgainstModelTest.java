import java.util.Random;

/** Long runs of calls, the same ones on the class and on the plain model of the document. */
public final class AgainstModelTest {
    private static final int RUNS = 400;
    // What an object answers behind its 512th call is not promised.
    private static final int CALLS = 480;
    private static final int[] WILD = {
        Integer.MIN_VALUE, -3, -2, -1, 0, 1, 2, 3, 4, 7, 8, 15, 16, 17, 63, 64, 400, 2000, 2001,
        Integer.MAX_VALUE - 1, Integer.MAX_VALUE
    };
    private static final String[] NAMES = {"a", "b", "c", "d", "longname", "e"};

    private final Random random;
    private final BackLogic x = new BackLogic();
    private final PlainModel y = new PlainModel();
    private final Check check;
    private final int run;
    private int wires;
    private int calls;

    private AgainstModelTest(int run, Check check) {
        this.run = run;
        this.check = check;
        random = new Random(run);
    }

    public static void main(String[] args) {
        Check check = new Check("AgainstModelTest");
        for (int run = 0; run < RUNS; run++) {
            AgainstModelTest one = new AgainstModelTest(run, check);
            one.tell();
            if (run % 4 == 0) {
                one.manyByHand();
            }
            while (one.calls < CALLS) {
                one.callOne();
            }
        }
        check.end();
    }

    private int some(int most) {
        return random.nextInt(25) == 0 ? WILD[random.nextInt(WILD.length)] : random.nextInt(most + 1);
    }

    private int controls(int target) {
        return random.nextInt(1 << Math.max(wires, 1)) & ~(1 << target);
    }

    private String gateText() {
        int target = random.nextInt(wires);
        StringBuilder text = new StringBuilder("gate " + NAMES[target]);
        for (int w = 0; w < wires; w++) {
            int how = random.nextInt(3);
            if (w != target && how > 0) {
                text.append(how == 1 ? " " : " - ").append(NAMES[w]);
            }
        }
        return text.append(";").toString();
    }

    private String tableText() {
        int n = 1 + random.nextInt(3);
        int m = 1 + random.nextInt(3);
        StringBuilder text = new StringBuilder("table " + n + " " + m);
        for (int i = 0; i < 1 << n; i++) {
            text.append(" ").append(random.nextInt(1 << m));
        }
        return text.append(";").toString();
    }

    private String text() {
        wires = random.nextInt(20) == 0 ? 0 : 1 + random.nextInt(4);
        StringBuilder text = new StringBuilder();
        for (int w = 0; w < wires; w++) {
            text.append("wire ").append(NAMES[w]).append(";");
        }
        int gates = wires == 0 ? 0 : random.nextInt(random.nextBoolean() ? 17 : 8);
        for (int g = 0; g < gates; g++) {
            text.append(gateText());
        }
        if (random.nextBoolean()) {
            text.append(tableText());
        }
        if (random.nextInt(3) == 0) {
            text.append("price 2 03 0099 1;");
        }
        return text.toString();
    }

    private void feed(String text) {
        for (int from = 0; from < text.length(); from += 20) {
            int[] w = Check.words(text, from);
            due("feed", x.feed(w[0], w[1], w[2], w[3], w[4]), y.feed(w));
        }
        int blanks = (20 - text.length() % 20) % 20;
        due("back " + blanks, x.back(blanks), y.back(blanks));
    }

    private void tell() {
        feed(text());
        due("read", x.read(), y.read());
        due("place", x.place(), y.place());
    }

    private void due(String call, long got, long want) {
        calls++;
        check.due("run " + run + ": " + call, got, want);
    }

    private void due(String call, boolean got, boolean want) {
        calls++;
        check.due("run " + run + ": " + call, got, want);
    }

    private void callOne() {
        int kind = random.nextInt(100);
        if (kind < 20) {
            byHand();
        } else if (kind < 24) {
            slots();
        } else if (kind < 26) {
            tape();
        } else {
            look(kind % 17);
        }
    }

    private void byHand() {
        int a = some(16);
        int target = some(Math.max(wires - 1, 0));
        int on = controls(target & 3) & (random.nextInt(40) == 0 ? -1 : 15);
        int off = controls(target & 3) & ~(random.nextInt(20) == 0 ? 0 : on);
        switch (random.nextInt(9)) {
            case 0, 1, 2 -> {
                int at = random.nextInt(4) == 0 ? a : random.nextInt(y.count(1) + 1);
                due("put " + at + " " + target + " " + on + " " + off,
                    x.put(at, target, on, off), y.put(at, target, on, off));
            }
            case 3, 4 -> due("take " + a, x.take(a), y.take(a));
            case 5 -> due("swap " + a, x.swap(a), y.swap(a));
            case 6, 7 -> due("undo", x.undo(), y.undo());
            default -> {
                int what = some(4);
                due("become " + what, x.become(what), y.become(what));
            }
        }
        for (int what = 0; what < 3; what++) {
            due("count " + what, x.count(what), y.count(what));
        }
    }

    private void manyByHand() {
        for (int i = random.nextInt(60); i > 0; i--) {
            int size = y.count(1);
            int at = size > 8 ? 0 : random.nextInt(size + 1);
            int target = random.nextInt(Math.max(wires, 1));
            int on = controls(target);
            boolean takes = size > 8 || random.nextInt(3) == 0;
            due("many", takes ? x.take(at) : x.put(at, target, on, 0),
                takes ? y.take(at) : y.put(at, target, on, 0));
        }
        for (int i = random.nextInt(60); i > 0; i--) {
            due("undo of many", x.undo(), y.undo());
            due("cost of many", x.count(2), y.count(2));
            due("made of many", x.made(0, y.count(1)), y.made(0, y.count(1)));
        }
    }

    private void slots() {
        int slot = some(2);
        if (random.nextInt(3) > 0) {
            due("hold " + slot, x.hold(slot), y.hold(slot));
        } else {
            due("restore " + slot, x.restore(slot), y.restore(slot));
        }
        due("like " + slot, x.like(slot), y.like(slot));
        due("off " + slot, x.off(slot), y.off(slot));
    }

    private void tape() {
        int n = some(30);
        if (random.nextInt(8) == 0) {
            tell();
        } else if (random.nextInt(3) == 0) {
            due("back " + n, x.back(n), y.back(n));
        } else {
            feed("wire a;".substring(0, random.nextInt(7)));
        }
        if (random.nextInt(3) == 0) {
            due("read", x.read(), y.read());
            wires = y.count(0);
        }
        due("place", x.place(), y.place());
    }

    private void look(int kind) {
        int i = random.nextInt(4) == 0 ? -1 : some(16);
        int what = some(3);
        int row = some((1 << wires) - 1);
        int wire = some(Math.max(wires - 1, 0));
        boolean flag = random.nextBoolean();
        String of = " " + i + " " + what + " " + row + " " + wire + " " + flag;
        switch (kind) {
            case 0 -> {
                int part = some(7);
                due("gate " + part + of, x.gate(i, part), y.gate(i, part));
            }
            case 1 -> due("made" + of, x.made(row, i), y.made(row, i));
            case 2 -> due("undone" + of, x.undone(row), y.undone(row));
            case 3 -> due("order" + of, x.order(what + wire), y.order(what + wire));
            case 4 -> due("agree" + of, x.agree(i, row), y.agree(i, row));
            case 5 -> due("shrunk" + of, x.shrunk(i, what), y.shrunk(i, what));
            case 6 -> {
                int k = i < 0 ? i : some(40);
                due("found " + k + of, x.found(flag, k, what), y.found(flag, k, what));
            }
            case 7 -> due("least" + of, x.least(i, what), y.least(i, what));
            case 8 -> due("stuck" + of, x.stuck(row, wire, flag), y.stuck(row, wire, flag));
            case 9 -> due("terms" + of, x.terms(wire), y.terms(wire));
            case 10 -> due("idle" + of, x.idle(what), y.idle(what));
            case 11 -> due("test" + of, x.test(i % 4), y.test(i % 4));
            case 12 -> due("like" + of, x.like(what), y.like(what));
            case 13 -> due("table" + of, x.table(what + row), y.table(what + row));
            case 14 -> due("laid" + of, x.laid(row + i), y.laid(row + i));
            case 15 -> due("off" + of, x.off(what), y.off(what));
            default -> due("count" + of, x.count(i + what), y.count(i + what));
        }
    }
}
