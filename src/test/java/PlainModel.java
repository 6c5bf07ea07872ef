import java.util.ArrayDeque;
import java.util.ArrayList;
import java.util.Arrays;
import java.util.HashMap;
import java.util.List;
import java.util.Map;
import java.util.TreeSet;
import java.util.regex.Matcher;
import java.util.regex.Pattern;

/** The document once more, in its plainest words and without a thought of time or room. */
final class PlainModel {
    static final int NONE = -1;

    record Gate(int target, int on, int off) {
        int turn(int row) {
            for (int w = 0; w < 6; w++) {
                boolean is = (row >> w & 1) == 1;
                if ((on >> w & 1) == 1 && !is || (off >> w & 1) == 1 && is) {
                    return row;
                }
            }
            return row ^ 1 << target;
        }

        int controls() {
            return Integer.bitCount(on) + Integer.bitCount(off);
        }

        int wires() {
            return on | off | 1 << target;
        }
    }

    record Token(char kind, int start, String text) { }

    private final StringBuilder tape = new StringBuilder();
    private int place = NONE;
    private int wires;
    private List<Gate> gates = new ArrayList<>();
    private int[] prices = {1, 1, 5, 13};
    private int n;
    private int m;
    private int[] values;
    private final ArrayDeque<List<Gate>> steps = new ArrayDeque<>();
    private final List<List<Gate>> slots = new ArrayList<>(Arrays.asList(null, null, null));

    // ---- tape and text

    int feed(int... words) {
        if (tape.length() + 20 > 2000) {
            return NONE;
        }
        for (int w : words) {
            for (int s = 24; s >= 0; s -= 8) {
                tape.append((char) (w >>> s & 255));
            }
        }
        return tape.length();
    }

    int back(int count) {
        if (count < 0 || count > tape.length()) {
            return NONE;
        }
        tape.setLength(tape.length() - count);
        return tape.length();
    }

    private static final Pattern TOKEN = Pattern.compile("([a-z]+)|([0-9]+)|([-;])");
    private static final Pattern BLANKS = Pattern.compile("[\\t\\n\\r ]*");
    private static final Pattern TEXT =
        Pattern.compile("(?:wN;|gN(?:-?N)*;|pIIII;|tIII(?:I)*;)*");

    private static List<Token> tokens(String text) {
        List<Token> all = new ArrayList<>();
        int at = 0;
        while (true) {
            Matcher blanks = BLANKS.matcher(text).region(at, text.length());
            blanks.lookingAt();
            at = blanks.end();
            if (at == text.length()) {
                all.add(new Token('$', at, ""));
                return all;
            }
            Matcher token = TOKEN.matcher(text).region(at, text.length());
            if (!token.lookingAt()) {
                all.add(new Token('?', at, ""));
                return all;
            }
            String t = token.group();
            char kind = t.charAt(0);
            if (token.group(1) != null) {
                kind = t.length() > 8 ? '?' : switch (t) {
                    case "wire" -> 'w';
                    case "gate" -> 'g';
                    case "price" -> 'p';
                    case "table" -> 't';
                    default -> 'N';
                };
            } else if (token.group(2) != null) {
                kind = t.length() > 4 ? '?' : 'I';
            }
            all.add(new Token(kind, at, t));
            at = token.end();
        }
    }

    private static boolean goesOn(String kinds) {
        if (kinds.endsWith("$")) {
            return TEXT.matcher(kinds.substring(0, kinds.length() - 1)).matches();
        }
        Matcher all = TEXT.matcher(kinds);
        return all.matches() || all.hitEnd();
    }

    private static void addFault(List<int[]> faults, int start, int number) {
        faults.add(new int[] {start, number});
    }

    private static int[] first(List<int[]> faults) {
        int[] best = null;
        for (int[] f : faults) {
            if (best == null || f[0] < best[0] || f[0] == best[0] && f[1] < best[1]) {
                best = f;
            }
        }
        return best;
    }

    private static int[] grammarFault(List<Token> tokens) {
        List<int[]> faults = new ArrayList<>();
        StringBuilder kinds = new StringBuilder();
        for (Token t : tokens) {
            kinds.append(t.kind);
            if (!goesOn(kinds.toString())) {
                addFault(faults, t.start, 1);
                break;
            }
        }
        int wireLines = 0;
        int gateLines = 0;
        char line = ' ';
        int inLine = 0;
        int controls = 0;
        for (int i = 0; i < tokens.size(); i++) {
            Token t = tokens.get(i);
            if (t.kind == '?' || t.kind == '$') {
                break;
            }
            if (i >= 400) {
                addFault(faults, t.start, 2);
            }
            if (line == ' ') {
                line = t.kind;
                inLine = 0;
                controls = 0;
                wireLines += line == 'w' ? 1 : 0;
                gateLines += line == 'g' ? 1 : 0;
                if (line == 'w' && wireLines > 4 || line == 'g' && gateLines > 16) {
                    addFault(faults, t.start, 2);
                }
                continue;
            }
            inLine++;
            boolean behindMinus = tokens.get(i - 1).kind == '-';
            if (line == 'g' && inLine >= 2 && (t.kind == '-' || t.kind == 'N' && !behindMinus)) {
                controls++;
                if (controls > 3) {
                    addFault(faults, t.start, 2);
                }
            }
            if (line == 't' && t.kind == 'I' && inLine - 2 > 8) {
                addFault(faults, t.start, 2);
            }
            if (t.kind == ';') {
                line = ' ';
            }
        }
        return first(faults);
    }

    private static List<List<Token>> lines(List<Token> tokens) {
        List<List<Token>> lines = new ArrayList<>();
        List<Token> line = new ArrayList<>();
        for (Token t : tokens) {
            if (t.kind == '$') {
                break;
            }
            line.add(t);
            if (t.kind == ';') {
                lines.add(line);
                line = new ArrayList<>();
            }
        }
        return lines;
    }

    private static int[] meaningFault(List<List<Token>> lines, List<String> names) {
        List<int[]> faults = new ArrayList<>();
        List<String> toldNames = new ArrayList<>();
        for (List<Token> line : lines) {
            char kind = line.get(0).kind;
            List<String> inGate = new ArrayList<>();
            for (int i = 1; i < line.size(); i++) {
                Token t = line.get(i);
                int number = t.kind == 'I' ? Integer.parseInt(t.text) : 0;
                if (kind == 'w' && t.kind == 'N') {
                    if (toldNames.contains(t.text)) {
                        addFault(faults, t.start, 3);
                    }
                    toldNames.add(t.text);
                }
                if (kind == 'g' && t.kind == 'N') {
                    if (inGate.contains(t.text)) {
                        addFault(faults, t.start, 3);
                    }
                    if (!names.contains(t.text)) {
                        addFault(faults, t.start, 4);
                    }
                    inGate.add(t.text);
                }
                if (kind == 'p' && t.kind == 'I' && (number < 1 || number > 99)) {
                    addFault(faults, t.start, 5);
                }
            }
            if (kind == 't') {
                tableFaults(line, faults);
            }
        }
        return first(faults);
    }

    private static void tableFaults(List<Token> line, List<int[]> faults) {
        int in = Integer.parseInt(line.get(1).text);
        int out = Integer.parseInt(line.get(2).text);
        boolean inRight = in >= 1 && in <= 3;
        boolean outRight = out >= 1 && out <= 3;
        if (!inRight) {
            addFault(faults, line.get(1).start, 5);
        }
        if (!outRight) {
            addFault(faults, line.get(2).start, 5);
        }
        int told = line.size() - 4;
        for (int i = 0; i < told && outRight; i++) {
            if (Integer.parseInt(line.get(3 + i).text) > Math.pow(2, out) - 1) {
                addFault(faults, line.get(3 + i).start, 5);
            }
        }
        if (inRight && told != Math.pow(2, in)) {
            addFault(faults, line.get(line.size() - 1).start, 6);
        }
    }

    int read() {
        String text = tape.toString();
        tape.setLength(0);
        List<Token> tokens = tokens(text);
        int[] fault = grammarFault(tokens);
        List<List<Token>> lines = lines(tokens);
        List<String> names = new ArrayList<>();
        if (fault == null) {
            for (List<Token> line : lines) {
                if (line.get(0).kind == 'w') {
                    names.add(line.get(1).text);
                }
            }
            fault = meaningFault(lines, names);
        }
        if (fault != null) {
            place = fault[0];
            return fault[1];
        }
        place = NONE;
        take(lines, names);
        return 0;
    }

    private void take(List<List<Token>> lines, List<String> names) {
        wires = names.size();
        gates = new ArrayList<>();
        prices = new int[] {1, 1, 5, 13};
        values = null;
        steps.clear();
        slots.replaceAll(s -> null);
        for (List<Token> line : lines) {
            switch (line.get(0).kind) {
                case 'g' -> gates.add(gateOf(line, names));
                case 'p' -> {
                    for (int i = 0; i < 4; i++) {
                        prices[i] = Integer.parseInt(line.get(1 + i).text);
                    }
                }
                case 't' -> {
                    n = Integer.parseInt(line.get(1).text);
                    m = Integer.parseInt(line.get(2).text);
                    values = new int[1 << n];
                    for (int i = 0; i < values.length; i++) {
                        values[i] = Integer.parseInt(line.get(3 + i).text);
                    }
                }
                default -> { }
            }
        }
    }

    private static Gate gateOf(List<Token> line, List<String> names) {
        int on = 0;
        int off = 0;
        for (int i = 2; i < line.size(); i++) {
            if (line.get(i).kind == 'N') {
                int bit = 1 << names.indexOf(line.get(i).text);
                if (line.get(i - 1).kind == '-') {
                    off += bit;
                } else {
                    on += bit;
                }
            }
        }
        return new Gate(names.indexOf(line.get(1).text), on, off);
    }

    int place() {
        return place;
    }

    // ---- by hand

    private void done(List<Gate> next) {
        steps.addLast(gates);
        if (steps.size() > 40) {
            steps.removeFirst();
        }
        gates = next;
    }

    boolean put(int at, int target, int on, int off) {
        int all = (1 << wires) - 1;
        boolean noSuch = target < 0 || target >= wires || (on | all) != all || (off | all) != all;
        if (gates.size() == 16 || at < 0 || at > gates.size() || noSuch) {
            return false;
        }
        if ((on & off) != 0 || ((on | off) >> target & 1) == 1) {
            return false;
        }
        List<Gate> next = new ArrayList<>(gates);
        next.add(at, new Gate(target, on, off));
        done(next);
        return true;
    }

    private boolean has(int gate) {
        return gate >= 0 && gate < gates.size();
    }

    boolean take(int gate) {
        if (!has(gate)) {
            return false;
        }
        List<Gate> next = new ArrayList<>(gates);
        next.remove(gate);
        done(next);
        return true;
    }

    boolean swap(int gate) {
        if (!has(gate) || gate == gates.size() - 1) {
            return false;
        }
        List<Gate> next = new ArrayList<>(gates);
        java.util.Collections.swap(next, gate, gate + 1);
        done(next);
        return true;
    }

    int become(int what) {
        List<Gate> next = null;
        if (what == 0) {
            next = shrunkOf(gates);
        } else if (what == 1 || what == 2) {
            next = foundFor(orderOf(gates), what == 2);
        } else if (what == 3) {
            next = new ArrayList<>(gates);
            java.util.Collections.reverse(next);
        } else if (what == 4 && wires < 4) {
            next = firstLeast(orderOf(gates));
        }
        if (next == null || next.size() > 16) {
            return NONE;
        }
        done(next);
        return gates.size();
    }

    boolean undo() {
        if (steps.isEmpty()) {
            return false;
        }
        gates = steps.removeLast();
        return true;
    }

    boolean hold(int slot) {
        if (slot < 0 || slot > 2) {
            return false;
        }
        slots.set(slot, gates);
        return true;
    }

    private List<Gate> heldIn(int slot) {
        return slot < 0 || slot > 2 ? null : slots.get(slot);
    }

    boolean restore(int slot) {
        if (heldIn(slot) == null) {
            return false;
        }
        gates = heldIn(slot);
        steps.clear();
        return true;
    }

    // ---- looking

    private int rows() {
        return (int) Math.pow(2, wires);
    }

    private static int run(List<Gate> cascade, int row) {
        int now = row;
        for (Gate g : cascade) {
            now = g.turn(now);
        }
        return now;
    }

    private int[] orderOf(List<Gate> cascade) {
        int[] order = new int[rows()];
        for (int row = 0; row < order.length; row++) {
            order[row] = run(cascade, row);
        }
        return order;
    }

    private boolean agrees(Gate one, Gate other) {
        return Arrays.equals(orderOf(List.of(one, other)), orderOf(List.of(other, one)));
    }

    private List<Integer> levels() {
        List<Integer> levels = new ArrayList<>();
        for (int i = 0; i < gates.size(); i++) {
            int level = 0;
            for (int k = 0; k < i; k++) {
                if ((gates.get(i).wires() & gates.get(k).wires()) != 0 && levels.get(k) >= level) {
                    level = levels.get(k) + 1;
                }
            }
            levels.add(level);
        }
        return levels;
    }

    int gate(int gate, int what) {
        if (!has(gate)) {
            return NONE;
        }
        Gate g = gates.get(gate);
        int run = 0;
        switch (what) {
            case 0:
                return g.target;
            case 1:
                return g.on;
            case 2:
                return g.off;
            case 3:
                return prices[g.controls()];
            case 4:
                return levels().get(gate);
            case 5:
                while (gate - run - 1 >= 0 && agrees(g, gates.get(gate - run - 1))) {
                    run++;
                }
                return run;
            case 6:
                while (gate + run + 1 < gates.size() && agrees(g, gates.get(gate + run + 1))) {
                    run++;
                }
                return run;
            default:
                return NONE;
        }
    }

    int made(int row, int count) {
        if (row < 0 || row >= rows() || count < 0 || count > gates.size()) {
            return NONE;
        }
        return run(gates.subList(0, count), row);
    }

    int undone(int row) {
        if (row < 0 || row >= rows()) {
            return NONE;
        }
        int[] order = orderOf(gates);
        for (int r = 0; r < order.length; r++) {
            if (order[r] == row) {
                return r;
            }
        }
        throw new IllegalStateException();
    }

    int order(int what) {
        int[] order = orderOf(gates);
        List<Integer> rounds = new ArrayList<>();
        boolean[] seen = new boolean[order.length];
        for (int r = 0; r < order.length; r++) {
            int length = 0;
            for (int at = r; !seen[at]; at = order[at]) {
                seen[at] = true;
                length++;
            }
            if (length > 0) {
                rounds.add(length);
            }
        }
        switch (what) {
            case 0:
                return rounds.size();
            case 1:
                return rounds.stream().mapToInt(i -> i).max().getAsInt();
            case 2:
                return times(order);
            case 3:
                return (order.length - rounds.size()) % 2 == 0 ? 1 : 0;
            case 4:
                return (int) rounds.stream().filter(i -> i == 1).count();
            default:
                return NONE;
        }
    }

    private static int times(int[] order) {
        int[] now = order.clone();
        int times = 1;
        while (true) {
            boolean same = true;
            for (int r = 0; r < now.length; r++) {
                same &= now[r] == r;
            }
            if (same) {
                return times;
            }
            for (int r = 0; r < now.length; r++) {
                now[r] = order[now[r]];
            }
            times++;
        }
    }

    int agree(int one, int other) {
        if (!has(one) || !has(other)) {
            return NONE;
        }
        return agrees(gates.get(one), gates.get(other)) ? 1 : 0;
    }

    private static int part(List<Gate> cascade, int i, int what, int parts) {
        if (i == NONE) {
            return cascade.size();
        }
        if (i < 0 || i >= cascade.size() || what < 0 || what >= parts) {
            return NONE;
        }
        Gate g = cascade.get(i);
        return what == 0 ? g.target : what == 1 ? g.on : g.off;
    }

    private List<Gate> shrunkOf(List<Gate> cascade) {
        List<Gate> now = new ArrayList<>(cascade);
        boolean more = true;
        while (more) {
            more = false;
            search:
            for (int rule = 1; rule <= 3; rule++) {
                for (int i = 0; i < now.size(); i++) {
                    for (int k = i + 1; k < now.size(); k++) {
                        if (agreesBetween(now, i, k) && done(now, i, k, rule)) {
                            more = true;
                            break search;
                        }
                    }
                }
            }
        }
        return now;
    }

    private boolean agreesBetween(List<Gate> now, int i, int k) {
        for (int b = i + 1; b < k; b++) {
            if (!agrees(now.get(i), now.get(b))) {
                return false;
            }
        }
        return true;
    }

    private static int stateOf(Gate g, int wire) {
        return (g.on >> wire & 1) == 1 ? 1 : (g.off >> wire & 1) == 1 ? 2 : 0;
    }

    private static boolean done(List<Gate> now, int i, int k, int rule) {
        Gate a = now.get(i);
        Gate b = now.get(k);
        if (a.target != b.target) {
            return false;
        }
        int turned = 0;
        int inOneOnly = 0;
        int wire = NONE;
        for (int w = 0; w < 4; w++) {
            int x = stateOf(a, w);
            int y = stateOf(b, w);
            if (x != y) {
                wire = w;
                turned += x != 0 && y != 0 ? 1 : 0;
                inOneOnly += x == 0 || y == 0 ? 1 : 0;
            }
        }
        if (rule == 1 && turned == 0 && inOneOnly == 0) {
            now.remove(k);
            now.remove(i);
            return true;
        }
        if (rule == 2 && turned == 1 && inOneOnly == 0) {
            now.set(k, new Gate(b.target, b.on & ~(1 << wire), b.off & ~(1 << wire)));
            now.remove(i);
            return true;
        }
        if (rule == 3 && turned == 0 && inOneOnly == 1) {
            Gate longer = a.controls() > b.controls() ? a : b;
            boolean wasOn = stateOf(longer, wire) == 1;
            int on = wasOn ? longer.on - (1 << wire) : longer.on + (1 << wire);
            int off = wasOn ? longer.off + (1 << wire) : longer.off - (1 << wire);
            now.set(k, new Gate(b.target, on, off));
            now.remove(i);
            return true;
        }
        return false;
    }

    int shrunk(int i, int what) {
        return part(shrunkOf(gates), i, what, 3);
    }

    /** Gates for one row that bring y to x. */
    private static List<Gate> path(int x, int from) {
        List<Gate> path = new ArrayList<>();
        int y = from;
        for (int b = 0; b < 6; b++) {
            if ((x >> b & 1) == 1 && (from >> b & 1) == 0) {
                path.add(new Gate(b, y, 0));
                y = path.get(path.size() - 1).turn(y);
            }
        }
        for (int b = 0; b < 6; b++) {
            if ((x >> b & 1) == 0 && (from >> b & 1) == 1) {
                path.add(new Gate(b, y - (1 << b), 0));
                y = path.get(path.size() - 1).turn(y);
            }
        }
        if (y != x) {
            throw new IllegalStateException();
        }
        return path;
    }

    static List<Gate> foundFor(int[] order, boolean both) {
        int[] p = order.clone();
        List<Gate> front = new ArrayList<>();
        List<Gate> rear = new ArrayList<>();
        for (int x = 0; x < p.length; x++) {
            int y = p[x];
            int z = 0;
            while (p[z] != x) {
                z++;
            }
            boolean fromFront = both && Integer.bitCount(x ^ z) < Integer.bitCount(x ^ y);
            for (Gate g : path(x, fromFront ? z : y)) {
                int[] next = new int[p.length];
                for (int r = 0; r < p.length; r++) {
                    next[r] = fromFront ? p[g.turn(r)] : g.turn(p[r]);
                }
                p = next;
                if (fromFront) {
                    front.add(g);
                } else {
                    rear.add(0, g);
                }
            }
        }
        front.addAll(rear);
        for (int r = 0; r < p.length; r++) {
            if (p[r] != r || run(front, r) != order[r]) {
                throw new IllegalStateException("not found");
            }
        }
        return front;
    }

    int found(boolean both, int i, int what) {
        return part(foundFor(orderOf(gates), both), i, what, 2);
    }

    private static final Map<Integer, Map<String, Integer>> DISTANCES = new HashMap<>();

    private List<Gate> kinds() {
        List<Gate> kinds = new ArrayList<>();
        for (int target = 0; target < wires; target++) {
            for (int on = 0; on < rows(); on++) {
                if ((on >> target & 1) == 0) {
                    kinds.add(new Gate(target, on, 0));
                }
            }
        }
        return kinds;
    }

    private static int[] without(Gate first, int[] order) {
        int[] rest = new int[order.length];
        for (int r = 0; r < order.length; r++) {
            rest[first.turn(r)] = order[r];
        }
        return rest;
    }

    /** How many gates each order takes, all orders there are. */
    private Map<String, Integer> distances() {
        return DISTANCES.computeIfAbsent(wires, w -> {
            Map<String, Integer> all = new HashMap<>();
            ArrayDeque<int[]> queue = new ArrayDeque<>();
            int[] nothing = orderOf(List.of());
            all.put(Arrays.toString(nothing), 0);
            queue.add(nothing);
            List<Gate> kinds = kinds();
            while (!queue.isEmpty()) {
                int[] order = queue.remove();
                int far = all.get(Arrays.toString(order));
                for (Gate g : kinds) {
                    int[] next = without(g, order);
                    if (all.putIfAbsent(Arrays.toString(next), far + 1) == null) {
                        queue.add(next);
                    }
                }
            }
            return all;
        });
    }

    private List<Gate> firstLeast(int[] order) {
        Map<String, Integer> distances = distances();
        List<Gate> cascade = new ArrayList<>();
        int[] rest = order;
        for (int left = distances.get(Arrays.toString(order)); left > 0; left--) {
            for (Gate g : kinds()) {
                if (distances.get(Arrays.toString(without(g, rest))) == left - 1) {
                    cascade.add(g);
                    rest = without(g, rest);
                    break;
                }
            }
        }
        return cascade;
    }

    int least(int i, int what) {
        return wires == 4 ? NONE : part(firstLeast(orderOf(gates)), i, what, 2);
    }

    private int runStuck(int row, int wire, boolean one) {
        int bit = 1 << wire;
        int now = one ? row | bit : row & ~bit;
        for (Gate g : gates) {
            now = g.turn(now);
            now = one ? now | bit : now & ~bit;
        }
        return now;
    }

    int stuck(int row, int wire, boolean one) {
        if (row < 0 || row >= rows() || wire < 0 || wire >= wires) {
            return NONE;
        }
        return runStuck(row, wire, one);
    }

    /** From small sets to large ones: a set is in just if the lesser ones don't yet make it right. */
    private int termsOf(int wire) {
        int terms = 0;
        for (int set = 0; set < rows(); set++) {
            int odd = 0;
            for (int s = 0; s < set; s++) {
                if ((terms >> s & 1) == 1 && (s & set) == s) {
                    odd ^= 1;
                }
            }
            if (odd != (run(gates, set) >> wire & 1)) {
                terms |= 1 << set;
            }
        }
        return terms;
    }

    int terms(int wire) {
        return wire < 0 || wire >= wires ? NONE : termsOf(wire);
    }

    int idle(int what) {
        if (what < 0 || what > 1) {
            return NONE;
        }
        int[] nothing = orderOf(List.of());
        int bestI = -2;
        int bestK = -2;
        for (int i = 0; i < gates.size(); i++) {
            for (int k = i; k < gates.size(); k++) {
                boolean fewer = bestI == -2 || k - i < bestK - bestI;
                if (fewer && Arrays.equals(nothing, orderOf(gates.subList(i, k + 1)))) {
                    bestI = i;
                    bestK = k;
                }
            }
        }
        return what == 0 ? bestI : bestK;
    }

    private int seenBy(int row) {
        int bits = 0;
        for (int w = 0; w < wires; w++) {
            bits |= runStuck(row, w, false) != run(gates, row) ? 1 << w : 0;
            bits |= runStuck(row, w, true) != run(gates, row) ? 16 << w : 0;
        }
        return bits;
    }

    private static List<Integer> asList(int set) {
        List<Integer> list = new ArrayList<>();
        for (int r = 0; r < 16; r++) {
            if ((set >> r & 1) == 1) {
                list.add(r);
            }
        }
        return list;
    }

    private static boolean isBefore(List<Integer> a, List<Integer> b) {
        if (a.size() != b.size()) {
            return a.size() < b.size();
        }
        for (int i = 0; i < a.size(); i++) {
            if (!a.get(i).equals(b.get(i))) {
                return a.get(i) < b.get(i);
            }
        }
        return false;
    }

    int test(int i) {
        int[] seen = new int[rows()];
        int all = 0;
        for (int r = 0; r < seen.length; r++) {
            seen[r] = seenBy(r);
            all |= seen[r];
        }
        List<Integer> best = null;
        for (int set = 0; set < 1 << seen.length; set++) {
            int got = 0;
            for (int r = 0; r < seen.length; r++) {
                got |= (set >> r & 1) == 1 ? seen[r] : 0;
            }
            if (got == all && (best == null || Integer.bitCount(set) <= best.size())) {
                List<Integer> list = asList(set);
                best = best == null || isBefore(list, best) ? list : best;
            }
        }
        return i == NONE ? best.size() : i >= 0 && i < best.size() ? best.get(i) : NONE;
    }

    private static List<List<Integer>> orders(int count) {
        if (count == 0) {
            return List.of(List.of());
        }
        List<List<Integer>> all = new ArrayList<>();
        for (List<Integer> shorter : orders(count - 1)) {
            for (int at = 0; at <= shorter.size(); at++) {
                List<Integer> longer = new ArrayList<>(shorter);
                longer.add(at, count - 1);
                all.add(longer);
            }
        }
        return all;
    }

    private static int rename(int row, List<Integer> names) {
        int renamed = 0;
        for (int w = 0; w < names.size(); w++) {
            renamed += (row >> w & 1) << names.get(w);
        }
        return renamed;
    }

    int like(int slot) {
        if (heldIn(slot) == null) {
            return NONE;
        }
        int ways = 0;
        for (List<Integer> names : orders(wires)) {
            List<Gate> renamed = new ArrayList<>();
            for (Gate g : gates) {
                renamed.add(new Gate(names.get(g.target), rename(g.on, names), rename(g.off, names)));
            }
            ways += Arrays.equals(orderOf(renamed), orderOf(heldIn(slot))) ? 1 : 0;
        }
        return ways;
    }

    private int copies() {
        int most = 0;
        for (int v : values) {
            most = Math.max(most, (int) Arrays.stream(values).filter(x -> x == v).count());
        }
        return most;
    }

    private int garbage() {
        int g = 0;
        while (Math.pow(2, g) < copies()) {
            g++;
        }
        return g;
    }

    private int[] laidOrder() {
        int[] order = new int[1 << Math.max(n, m + garbage())];
        TreeSet<Integer> free = new TreeSet<>();
        for (int r = 0; r < order.length; r++) {
            free.add(r);
        }
        for (int x = 0; x < order.length; x++) {
            if (x < values.length) {
                int before = 0;
                for (int l = 0; l < x; l++) {
                    before += values[l] == values[x] ? 1 : 0;
                }
                order[x] = values[x] + before * (1 << m);
                free.remove(order[x]);
            }
        }
        for (int x = values.length; x < order.length; x++) {
            order[x] = free.pollFirst();
        }
        return order;
    }

    int table(int what) {
        if (values == null) {
            return NONE;
        }
        int lines = Math.max(n, m + garbage());
        return switch (what) {
            case 0 -> n;
            case 1 -> m;
            case 2 -> copies();
            case 3 -> garbage();
            case 4 -> lines;
            case 5 -> lines - n;
            case 6 -> foundFor(laidOrder(), false).size();
            case 7 -> foundFor(laidOrder(), true).size();
            default -> NONE;
        };
    }

    int laid(int row) {
        if (values == null || row < 0 || row >= laidOrder().length) {
            return NONE;
        }
        return laidOrder()[row];
    }

    int off(int slot) {
        if (heldIn(slot) == null || wires == 4) {
            return NONE;
        }
        int[] due = orderOf(heldIn(slot));
        int[] rest = new int[rows()];
        for (int r = 0; r < rows(); r++) {
            rest[run(gates, r)] = due[r];
        }
        return distances().get(Arrays.toString(rest));
    }

    int count(int what) {
        switch (what) {
            case 0:
                return wires;
            case 1:
                return gates.size();
            case 2:
                return gates.stream().mapToInt(g -> prices[g.controls()]).sum();
            case 3:
                return levels().stream().mapToInt(l -> l + 1).max().orElse(0);
            case 4:
                int bits = 0;
                for (int i = 0; i < gates.size(); i++) {
                    Gate g = gates.get(i);
                    bits |= gates.stream().allMatch(other -> agrees(g, other)) ? 1 << i : 0;
                }
                return bits;
            case 5:
                return gates.stream().mapToInt(Gate::wires).reduce(0, (a, b) -> a | b);
            case 6:
                return tape.length();
            case 7:
                return steps.size();
            case 8:
                return (int) slots.stream().filter(s -> s != null).count();
            case 9: case 10: case 11: case 12:
                return prices[what - 9];
            case 13:
                return gates.stream().mapToInt(Gate::controls).sum();
            case 14:
                int seeing = 0;
                for (int r = 0; r < rows(); r++) {
                    seeing |= seenBy(r) != 0 ? 1 << r : 0;
                }
                return seeing;
            case 15:
                return degree();
            case 16:
                return (int) gates.stream().distinct().count();
            default:
                return NONE;
        }
    }

    private int degree() {
        int most = 0;
        for (int w = 0; w < wires; w++) {
            for (int set : asList(termsOf(w))) {
                most = Math.max(most, Integer.bitCount(set));
            }
        }
        return most;
    }
}
