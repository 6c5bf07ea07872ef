/**
 * Logic that can go backward: wires, gates that turn one of them where others are on or off, and
 * cascades of such gates, told in texts and changed by hand.
 */
public final class BackLogic {
    public static final int NONE = -1;

    private static final int NOTHING = -2;
    private static final int WORD_BYTES = 4;
    private static final int FEED_WORDS = 5;
    private static final int MOST_WIRES = 4;
    private static final int MOST_GATES = 16;
    private static final int MOST_ROWS = 16;
    private static final int MOST_CONTROLS = 3;
    private static final int SLOTS = 3;
    private static final int NAME_BITS = 2;
    private static final int[] FIRST_PRICES = {1, 1, 5, 13};

    private final Tape tape = new Tape();
    private final Grammar grammar = new Grammar();
    private final Meaning meaning = new Meaning();
    private final Cascade cascade = new Cascade(MOST_GATES);
    private final Cascade scratch = new Cascade(MOST_GATES);
    private final Cascade[] slots = new Cascade[SLOTS];
    private final boolean[] held = new boolean[SLOTS];
    private final History history = new History();
    private final Finder finder = new Finder();
    private final Tests tests = new Tests();
    private final Told told = new Told();
    private final int[] prices = FIRST_PRICES.clone();
    private final int[] levels = new int[MOST_GATES];
    // Its rows are large and few runs ask for it: it is made when it is first needed.
    private Shortest shortest;
    private int wires;
    private int faultPlace = NONE;

    public BackLogic() {
        for (int slot = 0; slot < SLOTS; slot++) {
            slots[slot] = new Cascade(MOST_GATES);
        }
    }

    // ---- the tape and the text

    public int feed(int a, int b, int c, int d, int e) {
        if (!tape.hasRoomFor(FEED_WORDS * WORD_BYTES)) {
            return NONE;
        }
        tape.addWord(a);
        tape.addWord(b);
        tape.addWord(c);
        tape.addWord(d);
        tape.addWord(e);
        return tape.length;
    }

    public int back(int n) {
        if (n < 0 || n > tape.length) {
            return NONE;
        }
        tape.length -= n;
        return tape.length;
    }

    public int read() {
        int fault = grammar.check(tape);
        faultPlace = grammar.faultPlace;
        if (fault == 0) {
            fault = meaning.check(tape);
            faultPlace = meaning.faultPlace;
        }
        tape.length = 0;
        if (fault == 0) {
            takeOver();
        }
        return fault;
    }

    private void takeOver() {
        wires = meaning.wires;
        meaning.tellGates(tape, cascade);
        System.arraycopy(FIRST_PRICES, 0, prices, 0, prices.length);
        meaning.tellPrices(tape, prices);
        meaning.tellTable(tape, told);
        history.clear();
        for (int slot = 0; slot < SLOTS; slot++) {
            held[slot] = false;
        }
    }

    public int place() {
        return faultPlace;
    }

    // ---- by hand

    public boolean put(int at, int target, int on, int off) {
        if (cascade.size >= MOST_GATES || at < 0 || at > cascade.size || !fits(target, on, off)) {
            return false;
        }
        history.keep(cascade);
        cascade.insert(at, Gate.of(target, on, off));
        return true;
    }

    private boolean fits(int target, int on, int off) {
        if (!isWire(target) || (on & off) != 0) {
            return false;
        }
        int others = (rows() - 1) & ~(1 << target);
        return ((on | off) & ~others) == 0;
    }

    public boolean take(int gate) {
        if (!cascade.has(gate)) {
            return false;
        }
        history.keep(cascade);
        cascade.remove(gate);
        return true;
    }

    public boolean swap(int gate) {
        if (gate < 0 || gate >= cascade.size - 1) {
            return false;
        }
        history.keep(cascade);
        cascade.exchange(gate);
        return true;
    }

    public int become(int what) {
        Cascade next = null;
        switch (what) {
            case 0:
                next = shrunkCascade();
                break;
            case 1:
                next = foundCascade(false);
                break;
            case 2:
                next = foundCascade(true);
                break;
            case 3:
                next = turnedCascade();
                break;
            case 4:
                next = leastCascade();
                break;
            default:
                break;
        }
        if (next == null || next.size > MOST_GATES) {
            return NONE;
        }
        history.keep(cascade);
        cascade.copy(next);
        return cascade.size;
    }

    private Cascade turnedCascade() {
        scratch.copy(cascade);
        scratch.turnRound();
        return scratch;
    }

    public boolean undo() {
        return history.bringBack(cascade);
    }

    public boolean hold(int slot) {
        if (!isSlot(slot)) {
            return false;
        }
        slots[slot].copy(cascade);
        held[slot] = true;
        return true;
    }

    public boolean restore(int slot) {
        if (!holds(slot)) {
            return false;
        }
        cascade.copy(slots[slot]);
        history.clear();
        return true;
    }

    // ---- one gate, two gates

    public int gate(int gate, int what) {
        if (!cascade.has(gate)) {
            return NONE;
        }
        switch (what) {
            case 0:
            case 1:
            case 2:
                return Gate.part(cascade.gateAt(gate), what);
            case 3:
                return priceOf(cascade.gateAt(gate));
            case 4:
                return levelOf(gate);
            case 5:
                return freeSteps(gate, -1);
            case 6:
                return freeSteps(gate, 1);
            default:
                return NONE;
        }
    }

    private int priceOf(int gate) {
        int controls = Integer.bitCount(Gate.controlsOf(gate));
        return controls < prices.length ? prices[controls] : 0;
    }

    private int levelOf(int gate) {
        setLevels();
        return gate >= 0 && gate < levels.length ? levels[gate] : NONE;
    }

    private int setLevels() {
        int top = 0;
        for (int i = 0; i < cascade.size && i < levels.length; i++) {
            int level = 0;
            for (int k = 0; k < i; k++) {
                if ((Gate.wiresOf(cascade.gateAt(i)) & Gate.wiresOf(cascade.gateAt(k))) != 0) {
                    level = Math.max(level, levels[k] + 1);
                }
            }
            levels[i] = level;
            top = Math.max(top, level + 1);
        }
        return top;
    }

    private int freeSteps(int gate, int step) {
        int steps = 0;
        for (int k = gate + step; k >= 0 && k < cascade.size; k += step) {
            if (!Gate.commute(cascade.gateAt(gate), cascade.gateAt(k), rows())) {
                break;
            }
            steps++;
        }
        return steps;
    }

    public int agree(int one, int other) {
        if (!cascade.has(one) || !cascade.has(other)) {
            return NONE;
        }
        return Gate.commute(cascade.gateAt(one), cascade.gateAt(other), rows()) ? 1 : 0;
    }

    // ---- what the cascade makes

    public int made(int row, int n) {
        if (!isRow(row) || n < 0 || n > cascade.size) {
            return NONE;
        }
        return cascade.run(row, 0, n);
    }

    public int undone(int row) {
        return isRow(row) ? cascade.runBack(row) : NONE;
    }

    public int order(int what) {
        int[] images = finder.images;
        cascade.makeOrder(rows(), images);
        switch (what) {
            case 0:
                return Rounds.howMany(images, rows());
            case 1:
                return Rounds.longest(images, rows());
            case 2:
                return Rounds.times(images, rows());
            case 3:
                return (rows() - Rounds.howMany(images, rows())) % 2 == 0 ? 1 : 0;
            case 4:
                return Rounds.still(images, rows());
            default:
                return NONE;
        }
    }

    public int stuck(int row, int wire, boolean one) {
        if (!isRow(row) || !isWire(wire)) {
            return NONE;
        }
        return cascade.runStuck(row, wire, one);
    }

    public int terms(int wire) {
        return isWire(wire) ? termsOf(wire) : NONE;
    }

    // A set is a term just if the wire is made 1 of an odd number of the rows within the set.
    private int termsOf(int wire) {
        int sets = 0;
        for (int set = 0; set < rows(); set++) {
            int odd = 0;
            for (int row = 0; row < rows(); row++) {
                if ((row & ~set) == 0) {
                    odd ^= (cascade.run(row, 0, cascade.size) >> wire) & 1;
                }
            }
            sets |= odd << set;
        }
        return sets;
    }

    private int degree() {
        int most = 0;
        for (int wire = 0; wire < wires; wire++) {
            int sets = termsOf(wire);
            for (int set = 0; set < rows(); set++) {
                if (((sets >> set) & 1) != 0) {
                    most = Math.max(most, Integer.bitCount(set));
                }
            }
        }
        return most;
    }

    public int idle(int what) {
        if (what != 0 && what != 1) {
            return NONE;
        }
        for (int length = 1; length <= cascade.size; length++) {
            for (int i = 0; i + length <= cascade.size; i++) {
                if (cascade.makesNothing(rows(), i, i + length)) {
                    return what == 0 ? i : i + length - 1;
                }
            }
        }
        return NOTHING;
    }

    public int test(int i) {
        tests.look(cascade, wires);
        tests.choose();
        if (i == NONE) {
            return tests.size;
        }
        return i >= 0 && i < tests.size ? tests.chosen[i] : NONE;
    }

    // ---- cascades shrunk, found, least

    public int shrunk(int i, int what) {
        return answer(shrunkCascade(), i, what, 2);
    }

    private Cascade shrunkCascade() {
        scratch.copy(cascade);
        scratch.shrink(rows());
        return scratch;
    }

    public int found(boolean both, int i, int what) {
        return answer(foundCascade(both), i, what, 1);
    }

    private Cascade foundCascade(boolean both) {
        cascade.makeOrder(rows(), finder.images);
        finder.find(rows(), both);
        return finder.cascade;
    }

    public int least(int i, int what) {
        return answer(leastCascade(), i, what, 1);
    }

    private Cascade leastCascade() {
        if (wires > Shortest.MOST_WIRES) {
            return null;
        }
        cascade.makeOrder(rows(), finder.images);
        return leastForImages();
    }

    private Cascade leastForImages() {
        if (shortest == null) {
            shortest = new Shortest();
        }
        shortest.solve(wires, finder.images);
        return shortest.cascade;
    }

    private static int answer(Cascade told, int i, int what, int lastPart) {
        if (told == null) {
            return NONE;
        }
        if (i == NONE) {
            return told.size;
        }
        if (!told.has(i) || what < 0 || what > lastPart) {
            return NONE;
        }
        return Gate.part(told.gateAt(i), what);
    }

    // ---- slots looked at

    public int like(int slot) {
        if (!holds(slot)) {
            return NONE;
        }
        int ways = 0;
        for (int names = 0; names < 1 << (NAME_BITS * wires); names++) {
            if (isRenaming(names) && becomes(slots[slot], names)) {
                ways++;
            }
        }
        return ways;
    }

    private boolean becomes(Cascade other, int names) {
        for (int row = 0; row < rows(); row++) {
            int image = renamed(cascade.run(row, 0, cascade.size), names);
            if (image != other.run(renamed(row, names), 0, other.size)) {
                return false;
            }
        }
        return true;
    }

    // Wires that change places are one number: two bits for each wire say which one it becomes.
    private static int newName(int wire, int names) {
        return (names >> (NAME_BITS * wire)) & ((1 << NAME_BITS) - 1);
    }

    private boolean isRenaming(int names) {
        int all = 0;
        for (int wire = 0; wire < wires; wire++) {
            all |= 1 << newName(wire, names);
        }
        return all == rows() - 1;
    }

    private int renamed(int row, int names) {
        int bits = 0;
        for (int wire = 0; wire < wires; wire++) {
            bits |= ((row >> wire) & 1) << newName(wire, names);
        }
        return bits;
    }

    public int off(int slot) {
        if (!holds(slot) || wires > Shortest.MOST_WIRES) {
            return NONE;
        }
        Cascade other = slots[slot];
        for (int row = 0; row < rows(); row++) {
            int now = cascade.run(row, 0, cascade.size);
            if (now >= 0 && now < rows()) {
                finder.images[now] = other.run(row, 0, other.size);
            }
        }
        return leastForImages().size;
    }

    // ---- the table

    public int table(int what) {
        if (!told.isThere) {
            return NONE;
        }
        switch (what) {
            case 0:
                return told.inputs;
            case 1:
                return told.outputs;
            case 2:
                return told.copies;
            case 3:
                return told.garbage;
            case 4:
                return told.lines;
            case 5:
                return told.lines - told.inputs;
            case 6:
                return gatesForLaid(false);
            case 7:
                return gatesForLaid(true);
            default:
                return NONE;
        }
    }

    private int gatesForLaid(boolean both) {
        told.lay(finder.images);
        finder.find(1 << told.lines, both);
        return finder.cascade.size;
    }

    public int laid(int row) {
        if (!told.isThere || row < 0 || row >= 1 << told.lines) {
            return NONE;
        }
        told.lay(finder.images);
        return row < finder.images.length ? finder.images[row] : NONE;
    }

    // ---- counts

    public int count(int what) {
        switch (what) {
            case 0:
                return wires;
            case 1:
                return cascade.size;
            case 2:
                return cost();
            case 3:
                return setLevels();
            case 4:
                return gatesThatAgree();
            case 5:
                return wiresUsed();
            case 6:
                return tape.length;
            case 7:
                return history.size;
            case 8:
                return slotsHeld();
            case 9:
            case 10:
            case 11:
            case 12:
                return prices[what - 9];
            case 13:
                return allControls();
            case 14:
                tests.look(cascade, wires);
                return tests.seeingRows();
            case 15:
                return degree();
            case 16:
                return unlikeGates();
            default:
                return NONE;
        }
    }

    private int cost() {
        int sum = 0;
        for (int i = 0; i < cascade.size; i++) {
            sum += priceOf(cascade.gateAt(i));
        }
        return sum;
    }

    private int gatesThatAgree() {
        int bits = 0;
        for (int i = 0; i < cascade.size; i++) {
            boolean all = true;
            for (int k = 0; k < cascade.size; k++) {
                all = all && Gate.commute(cascade.gateAt(i), cascade.gateAt(k), rows());
            }
            bits |= all ? 1 << i : 0;
        }
        return bits;
    }

    private int wiresUsed() {
        int bits = 0;
        for (int i = 0; i < cascade.size; i++) {
            bits |= Gate.wiresOf(cascade.gateAt(i));
        }
        return bits;
    }

    private int slotsHeld() {
        int sum = 0;
        for (int slot = 0; slot < SLOTS; slot++) {
            sum += held[slot] ? 1 : 0;
        }
        return sum;
    }

    private int allControls() {
        int sum = 0;
        for (int i = 0; i < cascade.size; i++) {
            sum += Integer.bitCount(Gate.controlsOf(cascade.gateAt(i)));
        }
        return sum;
    }

    private int unlikeGates() {
        int sum = 0;
        for (int i = 0; i < cascade.size; i++) {
            sum += cascade.firstPlaceOf(cascade.gateAt(i)) == i ? 1 : 0;
        }
        return sum;
    }

    // ---- what there is

    private int rows() {
        return 1 << wires;
    }

    private boolean isRow(int row) {
        return row >= 0 && row < rows();
    }

    private boolean isWire(int wire) {
        return wire >= 0 && wire < wires;
    }

    private static boolean isSlot(int slot) {
        return slot >= 0 && slot < SLOTS;
    }

    private boolean holds(int slot) {
        return isSlot(slot) && held[slot];
    }

    /** A gate is one number, so that two gates are alike just if their numbers are. */
    private static final class Gate {
        static final int APART = -1;
        static final int GONE = -2;
        static final int RULES = 3;
        // Six wires: the order that a table is laid into may have that many.
        private static final int WIDTH = 6;
        private static final int MASK = (1 << WIDTH) - 1;
        private static final int ON_SHIFT = 3;
        private static final int OFF_SHIFT = ON_SHIFT + WIDTH;
        private static final int TARGET_MASK = (1 << ON_SHIFT) - 1;

        static int of(int target, int on, int off) {
            return (target & TARGET_MASK) | ((on & MASK) << ON_SHIFT) | ((off & MASK) << OFF_SHIFT);
        }

        static int targetOf(int gate) {
            return gate & TARGET_MASK;
        }

        static int onOf(int gate) {
            return (gate >> ON_SHIFT) & MASK;
        }

        static int offOf(int gate) {
            return (gate >> OFF_SHIFT) & MASK;
        }

        static int controlsOf(int gate) {
            return ((gate >> ON_SHIFT) | (gate >> OFF_SHIFT)) & MASK;
        }

        static int wiresOf(int gate) {
            return controlsOf(gate) | (1 << targetOf(gate));
        }

        static int part(int gate, int what) {
            if (what == 0) {
                return targetOf(gate);
            }
            return what == 1 ? onOf(gate) : offOf(gate);
        }

        static int turn(int gate, int row) {
            int on = (gate >> ON_SHIFT) & MASK;
            int off = (gate >> OFF_SHIFT) & MASK;
            boolean turns = (row & on) == on && (row & off) == 0;
            return turns ? row ^ (1 << (gate & TARGET_MASK)) : row;
        }

        static boolean commute(int one, int other, int rows) {
            for (int row = 0; row < rows; row++) {
                if (turn(one, turn(other, row)) != turn(other, turn(one, row))) {
                    return false;
                }
            }
            return true;
        }

        // What two gates, one right behind the other, become by a rule of shrinking.
        static int joined(int rule, int one, int other) {
            if (targetOf(one) != targetOf(other)) {
                return APART;
            }
            if (rule == 1) {
                return one == other ? GONE : APART;
            }
            return rule == 2 ? withoutTurned(one, other) : withOneMore(one, other);
        }

        private static int withoutTurned(int one, int other) {
            int turned = onOf(one) ^ onOf(other);
            if (controlsOf(one) != controlsOf(other) || Integer.bitCount(turned) != 1) {
                return APART;
            }
            return of(targetOf(one), onOf(one) & ~turned, offOf(one) & ~turned);
        }

        private static int withOneMore(int one, int other) {
            boolean oneIsLonger = Integer.bitCount(controlsOf(one))
                > Integer.bitCount(controlsOf(other));
            int longer = oneIsLonger ? one : other;
            int shorter = oneIsLonger ? other : one;
            int more = controlsOf(longer) & ~controlsOf(shorter);
            boolean sameElse = (onOf(longer) & ~more) == onOf(shorter)
                && (offOf(longer) & ~more) == offOf(shorter);
            if (!sameElse || Integer.bitCount(more) != 1) {
                return APART;
            }
            return of(targetOf(one), onOf(longer) ^ more, offOf(longer) ^ more);
        }
    }

    /** Gates in a row, no more than it has room for. */
    private static final class Cascade {
        private final int[] gates;
        int size;

        Cascade(int room) {
            gates = new int[Math.max(room, 0)];
        }

        boolean has(int i) {
            return i >= 0 && i < size;
        }

        int gateAt(int i) {
            return has(i) ? gates[i] : 0;
        }

        int firstPlaceOf(int gate) {
            for (int i = 0; i < size; i++) {
                if (gates[i] == gate) {
                    return i;
                }
            }
            return NONE;
        }

        void append(int gate) {
            insert(size, gate);
        }

        void insert(int at, int gate) {
            if (at < 0 || at > size || size >= gates.length) {
                return;
            }
            for (int i = size; i > at; i--) {
                gates[i] = gates[i - 1];
            }
            gates[at] = gate;
            size++;
        }

        void remove(int at) {
            if (!has(at)) {
                return;
            }
            for (int i = at + 1; i < size; i++) {
                gates[i - 1] = gates[i];
            }
            size--;
        }

        void exchange(int at) {
            if (has(at) && has(at + 1)) {
                int first = gates[at];
                gates[at] = gates[at + 1];
                gates[at + 1] = first;
            }
        }

        void turnRound() {
            for (int i = 0, k = size - 1; i < k; i++, k--) {
                int first = gates[i];
                gates[i] = gates[k];
                gates[k] = first;
            }
        }

        void copy(Cascade from) {
            size = Math.min(from.size, gates.length);
            System.arraycopy(from.gates, 0, gates, 0, size);
        }

        int run(int row, int from, int to) {
            int now = row;
            for (int i = from; i < to; i++) {
                now = Gate.turn(gateAt(i), now);
            }
            return now;
        }

        // Each gate is its own way back.
        int runBack(int row) {
            int now = row;
            for (int i = size - 1; i >= 0; i--) {
                now = Gate.turn(gateAt(i), now);
            }
            return now;
        }

        int runStuck(int row, int wire, boolean one) {
            int now = force(row, wire, one);
            for (int i = 0; i < size; i++) {
                now = force(Gate.turn(gateAt(i), now), wire, one);
            }
            return now;
        }

        private static int force(int row, int wire, boolean one) {
            return one ? row | (1 << wire) : row & ~(1 << wire);
        }

        boolean makesNothing(int rows, int from, int to) {
            for (int row = 0; row < rows; row++) {
                if (run(row, from, to) != row) {
                    return false;
                }
            }
            return true;
        }

        void makeOrder(int rows, int[] images) {
            for (int row = 0; row < rows && row < images.length; row++) {
                images[row] = run(row, 0, size);
            }
        }

        // Each rule that is done takes a gate off.
        void shrink(int rows) {
            for (int left = size; left > 0; left--) {
                if (!shrinkOnce(rows)) {
                    return;
                }
            }
        }

        private boolean shrinkOnce(int rows) {
            for (int rule = 1; rule <= Gate.RULES; rule++) {
                for (int i = 0; i < size; i++) {
                    for (int k = i + 1; k < size; k++) {
                        int left = Gate.joined(rule, gates[i], gates[k]);
                        if (left != Gate.APART && reaches(i, k, rows)) {
                            join(i, k, left);
                            return true;
                        }
                    }
                }
            }
            return false;
        }

        private boolean reaches(int i, int k, int rows) {
            for (int between = i + 1; between < k; between++) {
                if (!Gate.commute(gateAt(i), gateAt(between), rows)) {
                    return false;
                }
            }
            return true;
        }

        // The later gate first: what is ahead of it keeps its place.
        private void join(int i, int k, int left) {
            if (left == Gate.GONE) {
                remove(k);
            } else if (has(k)) {
                gates[k] = left;
            }
            remove(i);
        }
    }

    /** The cascades ahead of the last things done by hand; the oldest gives way. */
    private static final class History {
        private static final int MOST = 40;
        private final Cascade[] steps = new Cascade[MOST];
        private int oldest;
        int size;

        History() {
            for (int i = 0; i < MOST; i++) {
                steps[i] = new Cascade(MOST_GATES);
            }
        }

        void clear() {
            size = 0;
        }

        void keep(Cascade now) {
            if (size == MOST) {
                oldest = (oldest + 1) % MOST;
                size--;
            }
            steps[(oldest + size) % MOST].copy(now);
            size++;
        }

        boolean bringBack(Cascade into) {
            if (size <= 0) {
                return false;
            }
            size--;
            into.copy(steps[(oldest + size) % MOST]);
            return true;
        }
    }

    /** The rounds of an order that is told as the image of each row. */
    private static final class Rounds {
        // The rows of the round of a row; 0 if a lesser row has told that round already.
        private static int lengthFrom(int row, int[] images, int rows) {
            int now = row;
            for (int length = 1; length <= rows; length++) {
                now = now >= 0 && now < images.length ? images[now] : row;
                if (now == row) {
                    return length;
                }
                if (now < row) {
                    return 0;
                }
            }
            return 0;
        }

        static int howMany(int[] images, int rows) {
            int sum = 0;
            for (int row = 0; row < rows; row++) {
                sum += lengthFrom(row, images, rows) > 0 ? 1 : 0;
            }
            return sum;
        }

        static int longest(int[] images, int rows) {
            int most = 0;
            for (int row = 0; row < rows; row++) {
                most = Math.max(most, lengthFrom(row, images, rows));
            }
            return most;
        }

        static int still(int[] images, int rows) {
            int sum = 0;
            for (int row = 0; row < rows; row++) {
                sum += lengthFrom(row, images, rows) == 1 ? 1 : 0;
            }
            return sum;
        }

        static int times(int[] images, int rows) {
            int all = 1;
            for (int row = 0; row < rows; row++) {
                int length = lengthFrom(row, images, rows);
                if (length > 0) {
                    all = leastCommonMultiple(all, length, rows);
                }
            }
            return all;
        }

        private static int leastCommonMultiple(int one, int other, int most) {
            for (int times = 1; times <= most; times++) {
                if (other > 0 && one * times % other == 0) {
                    return one * times;
                }
            }
            return one * other;
        }
    }

    /** Cascades found row by row, for an order of up to six wires. */
    private static final class Finder {
        private static final int MOST_LINES = 6;
        private static final int MOST_IMAGES = 1 << MOST_LINES;
        // A row is led home by at most one gate for each line.
        private static final int MOST_FOUND = MOST_IMAGES * MOST_LINES;

        // The order that is looked at; finding wears it down to the one that changes nothing.
        final int[] images = new int[MOST_IMAGES];
        final Cascade cascade = new Cascade(MOST_FOUND);
        private final Cascade behind = new Cascade(MOST_FOUND);

        void find(int rows, boolean both) {
            cascade.size = 0;
            behind.size = 0;
            for (int row = 0; row < rows && row < images.length; row++) {
                int image = images[row];
                int source = both ? sourceOf(row, rows) : image;
                if (Integer.bitCount(row ^ source) < Integer.bitCount(row ^ image)) {
                    lead(row, source, rows, true);
                } else {
                    lead(row, image, rows, false);
                }
            }
            for (int i = behind.size - 1; i >= 0; i--) {
                cascade.append(behind.gateAt(i));
            }
        }

        private int sourceOf(int image, int rows) {
            for (int row = 0; row < rows && row < images.length; row++) {
                if (images[row] == image) {
                    return row;
                }
            }
            return image;
        }

        private void lead(int row, int from, int rows, boolean ahead) {
            int now = from;
            for (int bit = 0; bit < MOST_LINES; bit++) {
                if ((row & ~now & (1 << bit)) != 0) {
                    note(Gate.of(bit, now, 0), rows, ahead);
                    now |= 1 << bit;
                }
            }
            for (int bit = 0; bit < MOST_LINES; bit++) {
                if ((now & ~row & (1 << bit)) != 0) {
                    now &= ~(1 << bit);
                    note(Gate.of(bit, now, 0), rows, ahead);
                }
            }
        }

        private void note(int gate, int rows, boolean ahead) {
            if (ahead) {
                goAhead(gate, rows);
                cascade.append(gate);
            } else {
                goBehind(gate, rows);
                behind.append(gate);
            }
        }

        private void goAhead(int gate, int rows) {
            for (int row = 0; row < rows && row < images.length; row++) {
                int other = Gate.turn(gate, row);
                if (other > row && other < images.length) {
                    int image = images[row];
                    images[row] = images[other];
                    images[other] = image;
                }
            }
        }

        private void goBehind(int gate, int rows) {
            for (int row = 0; row < rows && row < images.length; row++) {
                images[row] = Gate.turn(gate, images[row]);
            }
        }
    }

    /**
     * The shortest cascades of up to three wires. All orders of up to four gates are kept; a longer
     * cascade is looked for gate by gate till it meets one of them: with three wires eight gates
     * are enough for any order.
     */
    private static final class Shortest {
        static final int MOST_WIRES = 3;
        private static final int MOST_KINDS = 12;
        private static final int KEPT_GATES = 4;
        private static final int LOOKED_GATES = 4;
        // 3,520 orders take at most four gates; the room for them is a good deal larger, so that a
        // free place is near.
        private static final int INT_BITS = 32;
        private static final int PLACE_BITS = 13;
        private static final int PLACES = 1 << PLACE_BITS;
        private static final int SPREAD = 0x9E3779B1;
        private static final int MOST_KEPT = 3600;
        private static final int IMAGE_BITS = 3;
        private static final int IMAGE_MASK = (1 << IMAGE_BITS) - 1;
        private static final int ORDER_BITS = 24;
        private static final int ORDER_MASK = (1 << ORDER_BITS) - 1;

        final Cascade cascade = new Cascade(KEPT_GATES + LOOKED_GATES);
        private final int[] places = new int[PLACES];
        private final int[] kept = new int[MOST_KEPT];
        private final int[] kinds = new int[MOST_KINDS];
        private final int[] moved = new int[MOST_KINDS];
        private final int[] shifts = new int[MOST_KINDS];
        private int keptSize;
        private int kindsSize;
        private int wires = NONE;
        private int solved = NONE;

        void solve(int wiresNow, int[] images) {
            if (wires != wiresNow) {
                prepare(wiresNow);
            }
            int order = pack(images);
            if (order == solved) {
                return;
            }
            solved = order;
            cascade.size = 0;
            for (int ahead = 0; ahead <= LOOKED_GATES; ahead++) {
                if (lookAhead(order, ahead)) {
                    return;
                }
            }
        }

        private int pack(int[] images) {
            int order = 0;
            for (int row = 0; row < 1 << wires && row < images.length; row++) {
                order |= images[row] << (IMAGE_BITS * row);
            }
            return order;
        }

        private void prepare(int wiresNow) {
            wires = wiresNow;
            solved = NONE;
            setKinds();
            for (int i = 0; i < PLACES; i++) {
                places[i] = 0;
            }
            keptSize = 0;
            int nothing = 0;
            for (int row = 0; row < 1 << wires; row++) {
                nothing |= row << (IMAGE_BITS * row);
            }
            keep(nothing, 0);
            int from = 0;
            for (int depth = 1; depth <= KEPT_GATES; depth++) {
                int to = keptSize;
                for (int i = from; i < to && i < MOST_KEPT; i++) {
                    keepNext(kept[i], depth);
                }
                from = to;
            }
        }

        private void keepNext(int order, int depth) {
            for (int kind = 0; kind < kindsSize; kind++) {
                int next = without(kind, order);
                if (depthOf(next) == NONE) {
                    keep(next, depth);
                }
            }
        }

        // In the order of their numbers, so that what is met first is the first.
        private void setKinds() {
            kindsSize = 0;
            for (int target = 0; target < wires; target++) {
                for (int on = 0; on < 1 << wires; on++) {
                    if (((on >> target) & 1) == 0 && kindsSize < MOST_KINDS) {
                        kinds[kindsSize] = Gate.of(target, on, 0);
                        moved[kindsSize] = movedBy(target, on);
                        shifts[kindsSize] = IMAGE_BITS << target;
                        kindsSize++;
                    }
                }
            }
        }

        // The places, in a packed order, of the rows that the gate turns from 0 to 1.
        private int movedBy(int target, int on) {
            int mask = 0;
            for (int row = 0; row < 1 << wires; row++) {
                if ((row & on) == on && ((row >> target) & 1) == 0) {
                    mask |= IMAGE_MASK << (IMAGE_BITS * row);
                }
            }
            return mask;
        }

        // What is still to be made behind a gate of that kind, if all in all the order is made.
        private int without(int kind, int order) {
            if (kind < 0 || kind >= kindsSize) {
                return order;
            }
            int low = moved[kind];
            int shift = shifts[kind];
            int rest = order & ~(low | (low << shift));
            return rest | ((order & low) << shift) | ((order >>> shift) & low);
        }

        // Where the order stands or, if it isn't kept, a place that is free.
        private int placeOf(int order) {
            int place = (order * SPREAD) >>> (INT_BITS - PLACE_BITS);
            for (int tries = 0; tries < PLACES; tries++) {
                if (places[place] == 0 || (places[place] & ORDER_MASK) == order) {
                    return place;
                }
                place = (place + 1) & (PLACES - 1);
            }
            return place;
        }

        private void keep(int order, int depth) {
            if (keptSize >= MOST_KEPT) {
                return;
            }
            kept[keptSize] = order;
            keptSize++;
            places[placeOf(order)] = ((depth + 1) << ORDER_BITS) | order;
        }

        private int depthOf(int order) {
            int there = places[placeOf(order)];
            return there == 0 ? NONE : (there >> ORDER_BITS) - 1;
        }

        private boolean lookAhead(int order, int ahead) {
            if (ahead <= 0) {
                return finish(order);
            }
            for (int kind = 0; kind < kindsSize; kind++) {
                cascade.append(kinds[kind]);
                if (lookAhead(without(kind, order), ahead - 1)) {
                    return true;
                }
                cascade.remove(cascade.size - 1);
            }
            return false;
        }

        private boolean finish(int order) {
            int rest = order;
            int depth = depthOf(order);
            for (int left = depth - 1; left >= 0; left--) {
                for (int kind = 0; kind < kindsSize; kind++) {
                    int next = without(kind, rest);
                    if (depthOf(next) == left) {
                        cascade.append(kinds[kind]);
                        rest = next;
                        break;
                    }
                }
            }
            return depth != NONE;
        }
    }

    /** The fewest rows by which all stuck wires are seen. */
    private static final class Tests {
        private static final int MOST_STUCK = 2 * MOST_WIRES;
        private final int[] seen = new int[MOST_ROWS];
        final int[] chosen = new int[MOST_STUCK];
        private int rows;
        int size;

        // For each row the stuck wires that it sees, as bits.
        void look(Cascade cascade, int wires) {
            rows = 1 << wires;
            for (int row = 0; row < rows && row < MOST_ROWS; row++) {
                int right = cascade.run(row, 0, cascade.size);
                int bits = 0;
                for (int stuck = 0; stuck < 2 * wires; stuck++) {
                    if (cascade.runStuck(row, stuck / 2, stuck % 2 == 1) != right) {
                        bits |= 1 << stuck;
                    }
                }
                seen[row] = bits;
            }
        }

        int seeingRows() {
            int bits = 0;
            for (int row = 0; row < rows && row < MOST_ROWS; row++) {
                bits |= seen[row] != 0 ? 1 << row : 0;
            }
            return bits;
        }

        void choose() {
            int all = 0;
            for (int row = 0; row < rows && row < MOST_ROWS; row++) {
                all |= seen[row];
            }
            for (size = 0; size < MOST_STUCK; size++) {
                if (chooseFrom(0, 0, all)) {
                    return;
                }
            }
            // Each stuck wire asks for one row at most: as many rows always do.
            chooseFrom(0, 0, all);
        }

        private boolean chooseFrom(int first, int depth, int missing) {
            if (depth >= size || depth >= MOST_STUCK) {
                return missing == 0;
            }
            for (int row = first; row < rows && row < MOST_ROWS; row++) {
                chosen[depth] = row;
                if (chooseFrom(row + 1, depth + 1, missing & ~seen[row])) {
                    return true;
                }
            }
            return false;
        }
    }

    /** The table that a text told, and the order that it is laid into. */
    private static final class Told {
        static final int MOST_VALUES = 8;
        boolean isThere;
        int inputs;
        int outputs;
        int copies;
        int garbage;
        int lines;
        final int[] values = new int[MOST_VALUES];

        void settle() {
            isThere = true;
            copies = 0;
            for (int x = 0; x < 1 << inputs && x < MOST_VALUES; x++) {
                copies = Math.max(copies, lesserAlike(x) + 1);
            }
            garbage = 0;
            for (int all = 1; all < copies && all < MOST_VALUES; all *= 2) {
                garbage++;
            }
            lines = Math.max(inputs, outputs + garbage);
        }

        private int lesserAlike(int x) {
            int sum = 0;
            for (int i = 0; i < x && x < MOST_VALUES; i++) {
                sum += values[i] == values[x] ? 1 : 0;
            }
            return sum;
        }

        void lay(int[] images) {
            int rows = Math.min(1 << lines, images.length);
            int told = Math.min(1 << inputs, Math.min(rows, MOST_VALUES));
            long madeBits = 0L;
            for (int x = 0; x < told; x++) {
                images[x] = values[x] + (lesserAlike(x) << outputs);
                madeBits |= 1L << images[x];
            }
            int next = 0;
            for (int x = told; x < rows; x++) {
                while (next < rows && ((madeBits >>> next) & 1L) != 0L) {
                    next++;
                }
                images[x] = next;
                next++;
            }
        }
    }

    /** The tape, and the tokens read off it: those kept and the one that is looked at. */
    private static final class Tape {
        static final int NO_TOKEN = 0;
        static final int END = 1;
        static final int WIRE = 2;
        static final int GATE = 3;
        static final int PRICE = 4;
        static final int TABLE = 5;
        static final int NAME = 6;
        static final int INT = 7;
        static final int MINUS = 8;
        static final int CLOSE = 9;

        private static final int MOST_BYTES = 2000;
        private static final int BYTE_BITS = 8;
        private static final int BYTE_MASK = 255;
        private static final int MOST_TOKENS = 400;
        private static final int MOST_LETTERS = 8;
        private static final int MOST_DIGITS = 4;
        private static final int LETTERS = 27;

        private final byte[] bytes = new byte[MOST_BYTES];
        private final int[] kinds = new int[MOST_TOKENS];
        private final int[] starts = new int[MOST_TOKENS];
        private final long[] values = new long[MOST_TOKENS];
        int length;
        int size;
        int kind;
        int start;
        private int next;
        private long value;

        boolean hasRoomFor(int more) {
            return length + more <= MOST_BYTES;
        }

        void addWord(int word) {
            for (int shift = (WORD_BYTES - 1) * BYTE_BITS; shift >= 0; shift -= BYTE_BITS) {
                if (length < MOST_BYTES) {
                    bytes[length] = (byte) (word >>> shift);
                    length++;
                }
            }
        }

        // Behind the last byte comes NONE, which no token has in it.
        private int byteAt(int at) {
            return at >= 0 && at < length && at < MOST_BYTES ? bytes[at] & BYTE_MASK : NONE;
        }

        void begin() {
            size = 0;
            next = 0;
        }

        boolean isFull() {
            return size >= MOST_TOKENS;
        }

        void keep() {
            if (size < MOST_TOKENS) {
                kinds[size] = kind;
                starts[size] = start;
                values[size] = value;
                size++;
            }
        }

        private boolean has(int i) {
            return i >= 0 && i < size;
        }

        int kindAt(int i) {
            return has(i) ? kinds[i] : END;
        }

        int startAt(int i) {
            return has(i) ? starts[i] : NONE;
        }

        long valueAt(int i) {
            return has(i) ? values[i] : 0L;
        }

        void advance() {
            while (next < length && isBlank(byteAt(next))) {
                next++;
            }
            start = next;
            value = 0L;
            int sign = byteAt(start);
            if (sign == NONE) {
                kind = END;
            } else if (isLetter(sign)) {
                scanWord();
            } else if (isDigit(sign)) {
                scanInt();
            } else {
                next++;
                kind = signKind(sign);
            }
        }

        private static int signKind(int sign) {
            if (sign == '-') {
                return MINUS;
            }
            return sign == ';' ? CLOSE : NO_TOKEN;
        }

        private void scanWord() {
            while (next < length && isLetter(byteAt(next))) {
                value = value * LETTERS + letterCode(byteAt(next));
                next++;
            }
            kind = next - start <= MOST_LETTERS ? wordKind(value) : NO_TOKEN;
        }

        private void scanInt() {
            while (next < length && isDigit(byteAt(next))) {
                value = value * 10L + (byteAt(next) - '0');
                next++;
            }
            kind = next - start <= MOST_DIGITS ? INT : NO_TOKEN;
        }

        private static int wordKind(long word) {
            if (word == wordCode("wire")) {
                return WIRE;
            }
            if (word == wordCode("gate")) {
                return GATE;
            }
            if (word == wordCode("price")) {
                return PRICE;
            }
            return word == wordCode("table") ? TABLE : NAME;
        }

        // No two words of up to eight letters have the same one.
        private static long wordCode(String word) {
            long code = 0L;
            for (int i = 0; i < word.length(); i++) {
                code = code * LETTERS + letterCode(word.charAt(i));
            }
            return code;
        }

        private static int letterCode(int letter) {
            return letter - 'a' + 1;
        }

        private static boolean isBlank(int sign) {
            return sign == 9 || sign == 10 || sign == 13 || sign == 32;
        }

        private static boolean isLetter(int sign) {
            return sign >= 'a' && sign <= 'z';
        }

        private static boolean isDigit(int sign) {
            return sign >= '0' && sign <= '9';
        }
    }

    /** Whether a text goes on with each token, and has room for it. */
    private static final class Grammar {
        private static final int SYNTAX = 1;
        private static final int ROOM = 2;

        private static final int BROKEN = -1;
        private static final int LINE = 0;
        private static final int WIRE_NAME = 1;
        private static final int GATE_TARGET = 2;
        private static final int CONTROLS = 3;
        private static final int CONTROL_NAME = 4;
        private static final int LINE_END = 5;
        private static final int TABLE_INPUTS = 6;
        private static final int TABLE_OUTPUTS = 7;
        private static final int FIRST_VALUE = 8;
        private static final int VALUES = 9;
        private static final int PRICES = 10;
        private static final int LAST_PRICE = 13;

        int faultPlace;
        private int state;
        private int wireLines;
        private int gateLines;
        private int controls;
        private int values;

        int check(Tape tape) {
            begin(tape);
            // Each token has a byte at least, then comes the end.
            for (int left = tape.length; left >= 0; left--) {
                tape.advance();
                if (tape.kind == Tape.END && state == LINE) {
                    return 0;
                }
                int fault = faultOf(tape);
                if (fault != 0) {
                    faultPlace = tape.start;
                    return fault;
                }
                tape.keep();
            }
            return 0;
        }

        private void begin(Tape tape) {
            tape.begin();
            faultPlace = NONE;
            state = LINE;
            wireLines = 0;
            gateLines = 0;
        }

        private int faultOf(Tape tape) {
            int next = stateBehind(tape.kind);
            if (next == BROKEN) {
                return SYNTAX;
            }
            boolean fits = hasRoom(tape.kind);
            state = next;
            return fits && !tape.isFull() ? 0 : ROOM;
        }

        private int stateBehind(int kind) {
            switch (state) {
                case LINE:
                    return stateInLine(kind);
                case WIRE_NAME:
                    return kind == Tape.NAME ? LINE_END : BROKEN;
                case GATE_TARGET:
                case CONTROL_NAME:
                    return kind == Tape.NAME ? CONTROLS : BROKEN;
                case CONTROLS:
                    return stateInControls(kind);
                case LINE_END:
                    return kind == Tape.CLOSE ? LINE : BROKEN;
                case VALUES:
                    return kind == Tape.CLOSE ? LINE : stateBehindInt(kind, VALUES);
                case LAST_PRICE:
                    return stateBehindInt(kind, LINE_END);
                default:
                    return stateBehindInt(kind, state + 1);
            }
        }

        private static int stateInLine(int kind) {
            switch (kind) {
                case Tape.WIRE:
                    return WIRE_NAME;
                case Tape.GATE:
                    return GATE_TARGET;
                case Tape.PRICE:
                    return PRICES;
                case Tape.TABLE:
                    return TABLE_INPUTS;
                default:
                    return BROKEN;
            }
        }

        private static int stateInControls(int kind) {
            switch (kind) {
                case Tape.NAME:
                    return CONTROLS;
                case Tape.MINUS:
                    return CONTROL_NAME;
                case Tape.CLOSE:
                    return LINE;
                default:
                    return BROKEN;
            }
        }

        private static int stateBehindInt(int kind, int next) {
            return kind == Tape.INT ? next : BROKEN;
        }

        private boolean hasRoom(int kind) {
            switch (state) {
                case LINE:
                    return hasRoomForLine(kind);
                case CONTROLS:
                    controls += kind == Tape.CLOSE ? 0 : 1;
                    return controls <= MOST_CONTROLS;
                case FIRST_VALUE:
                case VALUES:
                    values += kind == Tape.CLOSE ? 0 : 1;
                    return values <= Told.MOST_VALUES;
                default:
                    return true;
            }
        }

        private boolean hasRoomForLine(int kind) {
            controls = 0;
            values = 0;
            wireLines += kind == Tape.WIRE ? 1 : 0;
            gateLines += kind == Tape.GATE ? 1 : 0;
            return wireLines <= MOST_WIRES && gateLines <= MOST_GATES;
        }
    }

    /** What the tokens of a text without faults of grammar and room mean. */
    private static final class Meaning {
        private static final int TWICE = 3;
        private static final int UNKNOWN = 4;
        private static final int WRONG = 5;
        private static final int LACKS = 6;
        private static final int MOST_PRICE = 99;
        private static final int MOST_PUTS = 3;

        int faultPlace;
        int wires;
        private final long[] names = new long[MOST_WIRES];

        int check(Tape tape) {
            faultPlace = NONE;
            collectNames(tape);
            int line = 0;
            for (int i = 0; i < tape.size; i++) {
                int fault = faultAt(tape, line, i);
                if (fault != 0) {
                    faultPlace = tape.startAt(i);
                    return fault;
                }
                if (tape.kindAt(i) == Tape.CLOSE) {
                    line = i + 1;
                }
            }
            return 0;
        }

        private void collectNames(Tape tape) {
            wires = 0;
            for (int i = 0; i < tape.size; i++) {
                if (tape.kindAt(i) == Tape.WIRE && wires < MOST_WIRES) {
                    names[wires] = tape.valueAt(i + 1);
                    wires++;
                }
            }
        }

        private int wireNamed(long name) {
            for (int wire = 0; wire < wires; wire++) {
                if (names[wire] == name) {
                    return wire;
                }
            }
            return NONE;
        }

        private int faultAt(Tape tape, int line, int i) {
            switch (tape.kindAt(line)) {
                case Tape.WIRE:
                    return wireFault(tape, line, i);
                case Tape.GATE:
                    return gateFault(tape, line, i);
                case Tape.PRICE:
                    return tape.kindAt(i) == Tape.INT && !isPrice(tape.valueAt(i)) ? WRONG : 0;
                default:
                    return tableFault(tape, line, i);
            }
        }

        private static boolean isPrice(long value) {
            return value >= 1 && value <= MOST_PRICE;
        }

        private static boolean isPutCount(long value) {
            return value >= 1 && value <= MOST_PUTS;
        }

        private static int wireFault(Tape tape, int line, int i) {
            if (tape.kindAt(i) != Tape.NAME) {
                return 0;
            }
            for (int k = 1; k < line; k++) {
                if (tape.kindAt(k - 1) == Tape.WIRE && tape.valueAt(k) == tape.valueAt(i)) {
                    return TWICE;
                }
            }
            return 0;
        }

        private int gateFault(Tape tape, int line, int i) {
            if (tape.kindAt(i) != Tape.NAME) {
                return 0;
            }
            for (int k = line + 1; k < i; k++) {
                if (tape.kindAt(k) == Tape.NAME && tape.valueAt(k) == tape.valueAt(i)) {
                    return TWICE;
                }
            }
            return wireNamed(tape.valueAt(i)) == NONE ? UNKNOWN : 0;
        }

        private static int tableFault(Tape tape, int line, int i) {
            long inputs = tape.valueAt(line + 1);
            long outputs = tape.valueAt(line + 2);
            int valuesAhead = i - line - 3;
            if (tape.kindAt(i) == Tape.CLOSE) {
                return isPutCount(inputs) && valuesAhead != 1 << (int) inputs ? LACKS : 0;
            }
            if (i == line + 1) {
                return isPutCount(inputs) ? 0 : WRONG;
            }
            if (i == line + 2) {
                return isPutCount(outputs) ? 0 : WRONG;
            }
            boolean isTooMuch = isPutCount(outputs) && tape.valueAt(i) >= 1L << outputs;
            return i > line + 2 && isTooMuch ? WRONG : 0;
        }

        void tellGates(Tape tape, Cascade cascade) {
            cascade.size = 0;
            for (int i = 0; i < tape.size; i++) {
                if (tape.kindAt(i) == Tape.GATE) {
                    cascade.append(gateFrom(tape, i));
                }
            }
        }

        private int gateFrom(Tape tape, int line) {
            int on = 0;
            int off = 0;
            for (int i = line + 2; i < tape.size && tape.kindAt(i) != Tape.CLOSE; i++) {
                if (tape.kindAt(i) != Tape.NAME) {
                    continue;
                }
                int bit = 1 << wireNamed(tape.valueAt(i));
                if (tape.kindAt(i - 1) == Tape.MINUS) {
                    off |= bit;
                } else {
                    on |= bit;
                }
            }
            return Gate.of(wireNamed(tape.valueAt(line + 1)), on, off);
        }

        void tellPrices(Tape tape, int[] prices) {
            for (int i = 0; i < tape.size; i++) {
                if (tape.kindAt(i) == Tape.PRICE) {
                    for (int k = 0; k < prices.length; k++) {
                        prices[k] = (int) tape.valueAt(i + 1 + k);
                    }
                }
            }
        }

        void tellTable(Tape tape, Told told) {
            told.isThere = false;
            for (int i = 0; i < tape.size; i++) {
                if (tape.kindAt(i) == Tape.TABLE) {
                    told.inputs = (int) tape.valueAt(i + 1);
                    told.outputs = (int) tape.valueAt(i + 2);
                    for (int x = 0; x < 1 << told.inputs && x < told.values.length; x++) {
                        told.values[x] = (int) tape.valueAt(i + 3 + x);
                    }
                    told.settle();
                }
            }
        }
    }
}
