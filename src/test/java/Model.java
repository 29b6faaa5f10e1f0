import java.util.ArrayList;
import java.util.Arrays;
import java.util.List;
import java.util.TreeMap;
import java.util.TreeSet;

/**
 * The document's words put down as plainly as they go, with no thought of speed or room: sets of values are
 * TreeSets, reach goes over all code again until nothing changes, orders of blocks are all tried. As nothing may
 * tell a laid program from the one told, a laid run is here a run of the program as told.
 */
final class Model {
    static final int NONE = -1;

    static final class Item {
        int size;
        int align;
        int group;
        boolean vital;
        int[] bytes;
        TreeMap<Integer, Integer> references = new TreeMap<>();
    }

    static final class State {
        final List<TreeSet<Integer>> sets = new ArrayList<>();

        State() {
            for (int r = 0; r < 4; r++) {
                sets.add(new TreeSet<>());
            }
        }

        State with(int r, TreeSet<Integer> set) {
            State other = new State();
            other.sets.clear();
            other.sets.addAll(sets);
            other.sets.set(r, set);
            return other;
        }

        boolean take(State more) {
            boolean grew = false;
            for (int r = 0; r < 4; r++) {
                grew |= sets.get(r).addAll(more.sets.get(r));
            }
            return grew;
        }
    }

    /** What the latest shrink() found. */
    static final class Found {
        Item[] items = new Item[24];
        int[] lengths = new int[12];
        List<List<State>> states = new ArrayList<>();
        List<State> ends = new ArrayList<>();
        boolean[] comeTo = new boolean[12];
        List<List<TreeSet<Integer>>> stand = new ArrayList<>();
        List<TreeSet<Integer>> read = new ArrayList<>();
        boolean[] written = new boolean[24];
        boolean[] compared = new boolean[24];
        TreeSet<Integer> edges = new TreeSet<>();
        int[] why = new int[36];
        boolean[] kept = new boolean[24];
        int[] stands = new int[24];
        int[] inside = new int[24];
        int[] address = new int[24];
        List<Integer> blocks = new ArrayList<>();
        int[] laid = new int[0];
        boolean grew;
    }

    private final Item[] items = new Item[24];
    private final List<List<int[]>> functions = new ArrayList<>();
    private final boolean[] entries = new boolean[12];
    private final List<Integer> input = new ArrayList<>();
    private Found found;
    private boolean fresh;

    private boolean hasRun;
    private List<Integer> outs = new ArrayList<>();
    private int done;
    private int endFunction = NONE;
    private int endPlace = NONE;

    Model() {
        for (int f = 0; f < 12; f++) {
            functions.add(new ArrayList<>());
        }
    }

    private static boolean in(int n, int least, int most) {
        return least <= n && n <= most;
    }

    private static int byteOf(long v, int i) {
        return (int) ((v >> (56 - 8 * i)) & 0xFF);
    }

    boolean item(int k, int size, int align, int group, boolean vital) {
        if (!in(k, 0, 23) || !in(size, 0, 64) || !in(group, 0, 3) || !List.of(1, 2, 4, 8).contains(align)) {
            return false;
        }
        fresh = false;
        if (size == 0) {
            items[k] = null;
            for (Item other : items) {
                if (other != null) {
                    other.references.values().removeIf(to -> to == k);
                }
            }
            return true;
        }
        Item told = new Item();
        told.size = size;
        told.align = align;
        told.group = group;
        told.vital = vital;
        told.bytes = new int[size];
        items[k] = told;
        return true;
    }

    private boolean hasPlace(int k, int place) {
        return in(k, 0, 23) && items[k] != null && in(place, 0, items[k].size - 1);
    }

    int bytes(int k, int place, int n, long v) {
        if (!hasPlace(k, place) || !in(n, 1, 8)) {
            return NONE;
        }
        fresh = false;
        int count = 0;
        while (count < n && place + count < items[k].size) {
            items[k].bytes[place + count] = byteOf(v, count);
            count++;
        }
        return count;
    }

    boolean refer(int k, int place, int to) {
        if (!hasPlace(k, place) || !(to == NONE || hasPlace(to, 0))) {
            return false;
        }
        fresh = false;
        if (to == NONE) {
            items[k].references.remove(place);
        } else {
            items[k].references.put(place, to);
        }
        return true;
    }

    int code(int f, int op, int a, int b, int c) {
        boolean good;
        switch (op) {
            case 0: case 2: good = in(a, 0, 3) && in(b, 0, 255) && c == 0; break;
            case 1: good = in(a, 0, 3) && in(b, -255, 255) && c == 0; break;
            case 3: case 11: good = in(a, 0, 3) && in(b, 0, 23) && in(c, 0, 3); break;
            case 4: good = in(a, 0, 23) && in(b, 0, 3) && in(c, 0, 3); break;
            case 5: good = in(a, 0, 11) && b == 0 && c == 0; break;
            case 6: good = in(a, 0, 3) && in(b, -40, 40) && c == 0; break;
            case 7: case 9: good = in(a, 0, 3) && b == 0 && c == 0; break;
            case 8: good = a == 0 && b == 0 && c == 0; break;
            case 10: good = in(a, 0, 3) && in(b, 0, 23) && in(c, 0, 23); break;
            default: good = false;
        }
        if (!good || !in(f, 0, 11) || functions.get(f).size() == 40) {
            return NONE;
        }
        fresh = false;
        functions.get(f).add(new int[] {op, a, b, c});
        return functions.get(f).size();
    }

    int clear(int f) {
        if (!in(f, 0, 11)) {
            return NONE;
        }
        fresh = false;
        int had = functions.get(f).size();
        functions.get(f).clear();
        return had;
    }

    boolean entry(int f, boolean is) {
        if (!in(f, 0, 11) || entries[f] == is) {
            return false;
        }
        fresh = false;
        entries[f] = is;
        return true;
    }

    int input(int n, long v) {
        if (!in(n, 1, 8) || input.size() + n > 200) {
            return NONE;
        }
        for (int i = 0; i < n; i++) {
            input.add(byteOf(v, i));
        }
        return input.size();
    }

    int input() {
        int had = input.size();
        input.clear();
        return had;
    }

    int runLaid(int f) {
        return fresh ? run(f) : NONE;
    }

    int run(int f) {
        if (!in(f, 0, 11) || !entries[f]) {
            return NONE;
        }
        hasRun = true;
        outs = new ArrayList<>();
        done = 0;
        int[][] memory = new int[24][];
        for (int k = 0; k < 24; k++) {
            memory[k] = items[k] == null ? new int[0] : items[k].bytes.clone();
        }
        int[] regs = new int[4];
        int taken = 0;
        ArrayList<int[]> open = new ArrayList<>();
        open.add(new int[] {f, 0});
        while (true) {
            int[] top = open.get(open.size() - 1);
            List<int[]> code = functions.get(top[0]);
            if (top[1] < 0 || top[1] >= code.size()) {
                open.remove(open.size() - 1);
                if (open.isEmpty()) {
                    endFunction = NONE;
                    endPlace = NONE;
                    return 0;
                }
                continue;
            }
            endFunction = top[0];
            endPlace = top[1];
            if (done == 2000) {
                return 2;
            }
            int[] x = code.get(top[1]);
            int next = top[1] + 1;
            int[] called = null;
            switch (x[0]) {
                case 0: regs[x[1]] = x[2]; break;
                case 1: regs[x[1]] = (regs[x[1]] + x[2] + 512) % 256; break;
                case 2: regs[x[1]] &= x[2]; break;
                case 3:
                    if (regs[x[3]] >= memory[x[2]].length) {
                        return 1;
                    }
                    regs[x[1]] = memory[x[2]][regs[x[3]]];
                    break;
                case 4:
                    if (regs[x[2]] >= memory[x[1]].length) {
                        return 1;
                    }
                    memory[x[1]][regs[x[2]]] = regs[x[3]];
                    break;
                case 5:
                    if (open.size() == 16) {
                        return 3;
                    }
                    called = new int[] {x[1], 0};
                    break;
                case 6: next = regs[x[1]] == 0 ? next + x[2] : next; break;
                case 7: outs.add(regs[x[1]]); break;
                case 8: next = 99; break;
                case 9: regs[x[1]] = taken < input.size() ? input.get(taken++) : 0; break;
                case 10: regs[x[1]] = x[2] == x[3] ? 1 : 0; break;
                default:
                    if (items[x[2]] == null || !items[x[2]].references.containsKey(regs[x[3]])) {
                        return 1;
                    }
                    regs[x[1]] = memory[items[x[2]].references.get(regs[x[3]])][0];
            }
            done++;
            top[1] = next;
            if (called != null) {
                open.add(called);
            }
        }
    }

    int ran(int what) {
        if (!hasRun || !in(what, 0, 3)) {
            return NONE;
        }
        return new int[] {outs.size(), done, endFunction, endPlace}[what];
    }

    int out(int i) {
        return hasRun && in(i, 0, Math.min(100, outs.size()) - 1) ? outs.get(i) : NONE;
    }

    int shrink() {
        found = new Found();
        fresh = true;
        begin();
        do {
            found.grew = false;
            for (int f = 0; f < 12; f++) {
                for (int i = 0; i < functions.get(f).size(); i++) {
                    State state = found.states.get(f).get(i);
                    if (!state.sets.get(0).isEmpty()) {
                        step(f, i, state, functions.get(f).get(i));
                    }
                }
            }
        } while (found.grew);
        findWhy();
        keep();
        lay();
        return found.laid.length;
    }

    private void begin() {
        for (int k = 0; k < 24; k++) {
            found.items[k] = items[k];
            found.read.add(new TreeSet<>());
            List<TreeSet<Integer>> places = new ArrayList<>();
            for (int place = 0; items[k] != null && place < items[k].size; place++) {
                places.add(new TreeSet<>(List.of(items[k].bytes[place])));
            }
            found.stand.add(places);
        }
        for (int f = 0; f < 12; f++) {
            found.lengths[f] = functions.get(f).size();
            found.ends.add(new State());
            List<State> states = new ArrayList<>();
            for (int i = 0; i < found.lengths[f]; i++) {
                states.add(new State());
            }
            found.states.add(states);
        }
        State noughts = new State();
        for (int r = 0; r < 4; r++) {
            noughts.sets.get(r).add(0);
        }
        for (int f = 0; f < 12; f++) {
            if (entries[f]) {
                found.comeTo[f] = true;
                go(noughts, f, 0);
            }
        }
    }

    private void go(State state, int f, int i) {
        State target = in(i, 0, found.lengths[f] - 1) ? found.states.get(f).get(i) : found.ends.get(f);
        found.grew |= target.take(state);
    }

    private TreeSet<Integer> placesHad(int k, TreeSet<Integer> set) {
        TreeSet<Integer> places = new TreeSet<>(set);
        places.removeIf(place -> !hasPlace(k, place));
        return places;
    }

    private void step(int f, int i, State state, int[] x) {
        TreeSet<Integer> set = new TreeSet<>();
        switch (x[0]) {
            case 0:
                set.add(x[2]);
                go(state.with(x[1], set), f, i + 1);
                break;
            case 1:
                state.sets.get(x[1]).forEach(v -> set.add(Math.floorMod(v + x[2], 256)));
                go(state.with(x[1], set), f, i + 1);
                break;
            case 2:
                state.sets.get(x[1]).forEach(v -> set.add(v & x[2]));
                go(state.with(x[1], set), f, i + 1);
                break;
            case 3:
                for (int place : placesHad(x[2], state.sets.get(x[3]))) {
                    found.grew |= found.read.get(x[2]).add(place);
                    found.edges.add(f * 36 + 12 + x[2]);
                    set.addAll(found.stand.get(x[2]).get(place));
                }
                if (!set.isEmpty()) {
                    go(state.with(x[1], set), f, i + 1);
                }
                break;
            case 4:
                TreeSet<Integer> places = placesHad(x[1], state.sets.get(x[2]));
                for (int place : places) {
                    found.written[x[1]] = true;
                    found.grew |= found.stand.get(x[1]).get(place).addAll(state.sets.get(x[3]));
                }
                if (!places.isEmpty()) {
                    go(state, f, i + 1);
                }
                break;
            case 5:
                found.comeTo[x[1]] = true;
                found.edges.add(f * 36 + x[1]);
                go(state, x[1], 0);
                go(found.ends.get(x[1]), f, i + 1);
                break;
            case 6:
                if (state.sets.get(x[1]).contains(0)) {
                    go(state.with(x[1], new TreeSet<>(List.of(0))), f, i + 1 + x[2]);
                }
                set.addAll(state.sets.get(x[1]));
                set.remove(0);
                if (!set.isEmpty()) {
                    go(state.with(x[1], set), f, i + 1);
                }
                break;
            case 7:
                go(state, f, i + 1);
                break;
            case 8:
                go(state, f, 99);
                break;
            case 9:
                for (int v = 0; v < 256; v++) {
                    set.add(v);
                }
                go(state.with(x[1], set), f, i + 1);
                break;
            case 10:
                if (x[2] != x[3]) {
                    found.compared[x[2]] = true;
                    found.compared[x[3]] = true;
                }
                set.add(x[2] == x[3] ? 1 : 0);
                go(state.with(x[1], set), f, i + 1);
                break;
            default:
                for (int place : placesHad(x[2], state.sets.get(x[3]))) {
                    Integer to = items[x[2]].references.get(place);
                    if (to != null) {
                        found.read.get(x[2]).add(place);
                        found.read.get(to).add(0);
                        found.edges.add(f * 36 + 12 + x[2]);
                        found.edges.add((12 + x[2]) * 36 + 12 + to);
                        set.addAll(found.stand.get(to).get(0));
                    }
                }
                if (!set.isEmpty()) {
                    go(state.with(x[1], set), f, i + 1);
                }
        }
    }

    private void findWhy() {
        int far = 1000;
        Arrays.fill(found.why, far);
        for (int f = 0; f < 12; f++) {
            found.why[f] = entries[f] ? 1 : far;
        }
        for (int round = 0; round < 36; round++) {
            for (int edge : found.edges) {
                found.why[edge % 36] = Math.min(found.why[edge % 36], found.why[edge / 36] + 1);
            }
        }
        for (int n = 0; n < 36; n++) {
            found.why[n] = found.why[n] >= far ? NONE : found.why[n];
        }
    }

    private void keep() {
        for (int k = 0; k < 24; k++) {
            found.kept[k] = items[k] != null && (items[k].vital || !found.read.get(k).isEmpty());
        }
        boolean[] before = found.kept.clone();
        for (int k = 0; k < 24; k++) {
            for (int other = 0; other < 24; other++) {
                if (items[k] != null && items[k].group != 0 && before[other] && items[other].group == items[k].group) {
                    found.kept[k] = true;
                }
            }
        }
    }

    private void lay() {
        int[] align = new int[24];
        List<Integer> still = new ArrayList<>();
        Arrays.fill(found.stands, NONE);
        Arrays.fill(found.inside, NONE);
        Arrays.fill(found.address, NONE);
        for (int k = 0; k < 24; k++) {
            align[k] = items[k] == null ? 0 : items[k].align;
            if (found.kept[k] && items[k].references.isEmpty() && !found.written[k] && !found.compared[k]) {
                still.add(k);
            }
        }
        for (int k : still) {
            for (int least : still) {
                if (least < k && found.stands[k] == NONE && Arrays.equals(items[least].bytes, items[k].bytes)) {
                    found.stands[k] = least;
                    align[least] = Math.max(align[least], align[k]);
                }
            }
        }
        still.removeIf(k -> found.stands[k] != NONE);
        for (int k : still) {
            boolean holds = still.stream().anyMatch(other -> found.inside[other] == k);
            for (int outer : still) {
                int ahead = items[outer].size - items[k].size;
                if (!holds && found.inside[k] == NONE && ahead > 0 && found.inside[outer] == NONE
                        && Arrays.equals(Arrays.copyOfRange(items[outer].bytes, ahead, items[outer].size), items[k].bytes)
                        && align[outer] % align[k] == 0 && ahead % align[k] == 0) {
                    found.inside[k] = outer;
                }
            }
        }
        for (int k = 0; k < 24; k++) {
            if (found.kept[k] && found.stands[k] == NONE && found.inside[k] == NONE) {
                found.blocks.add(k);
            }
        }
        List<Integer> order = found.blocks;
        if (order.size() <= 7) {
            order = bestOrder(order, align);
        }
        place(order, align);
    }

    private List<Integer> bestOrder(List<Integer> blocks, int[] align) {
        List<List<Integer>> orders = new ArrayList<>();
        addOrders(orders, new ArrayList<>(), blocks);
        List<Integer> best = orders.get(0);
        for (List<Integer> order : orders) {
            if (end(order, align) < end(best, align)) {
                best = order;
            }
        }
        return best;
    }

    private void addOrders(List<List<Integer>> orders, List<Integer> begun, List<Integer> blocks) {
        if (begun.size() == blocks.size()) {
            orders.add(new ArrayList<>(begun));
        }
        for (int k : blocks) {
            if (!begun.contains(k)) {
                begun.add(k);
                addOrders(orders, begun, blocks);
                begun.remove(begun.size() - 1);
            }
        }
    }

    private int end(List<Integer> order, int[] align) {
        int end = 0;
        for (int k : order) {
            while (end % align[k] != 0) {
                end++;
            }
            end += items[k].size;
        }
        return end;
    }

    private void place(List<Integer> order, int[] align) {
        found.laid = new int[end(order, align)];
        int end = 0;
        for (int k : order) {
            while (end % align[k] != 0) {
                end++;
            }
            found.address[k] = end;
            for (int octet : items[k].bytes) {
                found.laid[end++] = octet;
            }
        }
        for (int k = 0; k < 24; k++) {
            if (found.inside[k] != NONE) {
                Item outer = items[found.inside[k]];
                found.address[k] = found.address[found.inside[k]] + outer.size - items[k].size;
            }
        }
        for (int k = 0; k < 24; k++) {
            if (found.stands[k] != NONE) {
                found.address[k] = found.address[found.stands[k]];
            }
        }
    }

    int kept(int k, int what) {
        if (found == null || !in(k, 0, 23) || found.items[k] == null || !in(what, 0, 6)) {
            return NONE;
        }
        switch (what) {
            case 0: return found.kept[k] ? 1 : 0;
            case 1: return found.read.get(k).size();
            case 2: return found.written[k] ? 1 : 0;
            case 3: return found.compared[k] ? 1 : 0;
            case 4: return found.address[k];
            case 5: return Math.max(found.stands[k], found.inside[k]);
            default: return found.why[12 + k];
        }
    }

    int read(int k, int place) {
        if (found == null || !in(k, 0, 23) || !in(place, 0, found.stand.get(k).size() - 1)) {
            return NONE;
        }
        return found.read.get(k).contains(place) ? 1 : 0;
    }

    int function(int f, int what) {
        if (found == null || !in(f, 0, 11) || !in(what, 0, 2)) {
            return NONE;
        }
        int count = 0;
        for (State state : found.states.get(f)) {
            count += state.sets.get(0).isEmpty() ? 0 : 1;
        }
        return new int[] {found.comeTo[f] ? 1 : 0, count, found.why[f]}[what];
    }

    int values(int f, int i, int r) {
        if (found == null || !in(f, 0, 11) || !in(i, 0, found.lengths[f] - 1) || !in(r, 0, 3)) {
            return NONE;
        }
        return found.states.get(f).get(i).sets.get(r).size();
    }

    int octet(int i) {
        return found != null && in(i, 0, found.laid.length - 1) ? found.laid[i] : NONE;
    }

    int shrunk(int what) {
        if (found == null || !in(what, 0, 6)) {
            return NONE;
        }
        int[] counts = new int[7];
        counts[3] = found.blocks.size();
        counts[6] = found.laid.length;
        for (int k = 0; k < 24; k++) {
            if (found.items[k] != null) {
                counts[found.kept[k] ? 0 : 1]++;
                counts[2] += found.kept[k] ? 0 : found.stand.get(k).size();
                counts[4] += found.stands[k] != NONE ? 1 : 0;
                counts[5] += found.inside[k] != NONE ? 1 : 0;
            }
        }
        return counts[what];
    }
}
