import java.util.Arrays;

/** Finds what any run of a joined program can read, drops the rest and lays what is kept; see README.md. */
public final class DataShrinker {
    public static final int NONE = -1;

    private static final int ITEMS = 24;
    private static final int LONGEST = 64;
    private static final int WIDEST = 8;
    private static final int GROUPS = 3;
    private static final int FUNCTIONS = 12;
    private static final int INSTRUCTIONS = 40;
    private static final int REGISTERS = 4;
    private static final int VALUES = 256;
    private static final int MOST_AT_ONCE = 8;
    private static final int INPUT_ROOM = 200;
    private static final int ROOM = ITEMS * (LONGEST + WIDEST);

    /** Functions and items numbered in one row, for chains and for the places that a change wakes. */
    private static final int THINGS = FUNCTIONS + ITEMS;

    /** A bound far above what any run needs, so that the end of each open loop can be seen. */
    private static final int FAR = 1000000;

    private static final int SET = 0;
    private static final int ADD = 1;
    private static final int AND = 2;
    private static final int LOAD = 3;
    private static final int STORE = 4;
    private static final int CALL = 5;
    private static final int SKIP = 6;
    private static final int OUT = 7;
    private static final int RETURN = 8;
    private static final int IN = 9;
    private static final int SAME = 10;
    private static final int FOLLOW = 11;

    private final Program program;
    private final Reach reach;
    private final Layout layout;
    private final Machine machine;
    private boolean wasShrunk;
    private boolean laidHolds;

    public DataShrinker() {
        program = new Program();
        reach = new Reach(program);
        layout = new Layout(program, reach);
        machine = new Machine(program);
    }

    public boolean item(int k, int size, int align, int group, boolean vital) {
        if (!Program.isItem(k, size, align, group)) {
            return false;
        }
        program.tellItem(k, size, align, group, vital);
        laidHolds = false;
        return true;
    }

    public int bytes(int k, int place, int n, long v) {
        if (!program.hasPlace(k, place) || !within(n, 1, MOST_AT_ONCE)) {
            return NONE;
        }
        laidHolds = false;
        return program.tellOctets(k, place, n, v);
    }

    public boolean refer(int k, int place, int to) {
        if (!program.hasPlace(k, place) || (to != NONE && !program.hasItem(to))) {
            return false;
        }
        program.tellReference(k, place, to);
        laidHolds = false;
        return true;
    }

    public int code(int function, int op, int a, int b, int c) {
        if (!isFunction(function) || !Program.isInstruction(op, a, b, c)) {
            return NONE;
        }
        if (program.length[function] >= INSTRUCTIONS) {
            return NONE;
        }
        laidHolds = false;
        return program.addInstruction(function, op, a, b, c);
    }

    public int clear(int function) {
        if (!isFunction(function)) {
            return NONE;
        }
        int had = program.length[function];
        program.length[function] = 0;
        laidHolds = false;
        return had;
    }

    public boolean entry(int function, boolean is) {
        if (!isFunction(function) || program.isEntry[function] == is) {
            return false;
        }
        program.isEntry[function] = is;
        laidHolds = false;
        return true;
    }

    public int input(int n, long v) {
        if (!within(n, 1, MOST_AT_ONCE) || program.inputLength + n > INPUT_ROOM) {
            return NONE;
        }
        return program.addInput(n, v);
    }

    public int input() {
        int had = program.inputLength;
        program.inputLength = 0;
        return had;
    }

    public int run(int entry) {
        if (!program.hasEntry(entry)) {
            return NONE;
        }
        machine.takeAsTold();
        return machine.work(entry);
    }

    public int runLaid(int entry) {
        if (!laidHolds || !program.hasEntry(entry)) {
            return NONE;
        }
        machine.takeAsLaid(layout);
        return machine.work(entry);
    }

    public int ran(int what) {
        return machine.tell(what);
    }

    public int out(int i) {
        return machine.sentAt(i);
    }

    public int shrink() {
        reach.work();
        layout.work();
        wasShrunk = true;
        laidHolds = true;
        return layout.total;
    }

    public int kept(int k, int what) {
        if (!hadItem(k)) {
            return NONE;
        }
        switch (what) {
            case 0:
                return asNumber(layout.isKept[k]);
            case 1:
                return Long.bitCount(reach.placesRead[k]);
            case 2:
                return asNumber(reach.isWritten[k]);
            case 3:
                return asNumber(reach.isCompared[k]);
            case 4:
                return layout.address[k];
            case 5:
                return layout.holderOf(k);
            case 6:
                return reach.chains.lengths[FUNCTIONS + k];
            default:
                return NONE;
        }
    }

    public int read(int k, int place) {
        if (!hadItem(k) || !within(place, 0, layout.size[k] - 1)) {
            return NONE;
        }
        return asNumber((reach.placesRead[k] >>> place & 1) != 0);
    }

    public int function(int k, int what) {
        if (!wasShrunk || !isFunction(k)) {
            return NONE;
        }
        switch (what) {
            case 0:
                return asNumber(reach.comeTo[k] != 0);
            case 1:
                return reach.countComeTo(k);
            case 2:
                return reach.chains.lengths[k];
            default:
                return NONE;
        }
    }

    public int values(int function, int i, int r) {
        if (!wasShrunk || !isFunction(function) || !isRegister(r)) {
            return NONE;
        }
        if (!within(i, 0, reach.length[function] - 1)) {
            return NONE;
        }
        return reach.countValues(function, i, r);
    }

    public int octet(int i) {
        if (!wasShrunk || !within(i, 0, layout.total - 1)) {
            return NONE;
        }
        return layout.octets[i];
    }

    public int shrunk(int what) {
        if (!wasShrunk) {
            return NONE;
        }
        switch (what) {
            case 0:
                return layout.countKept();
            case 1:
                return layout.countDropped();
            case 2:
                return layout.countDroppedOctets();
            case 3:
                return layout.blockCount;
            case 4:
                return countOthers(layout.standIn);
            case 5:
                return countOthers(layout.outer);
            case 6:
                return layout.total;
            default:
                return NONE;
        }
    }

    private boolean hadItem(int k) {
        return wasShrunk && isItemNumber(k) && layout.size[k] > 0;
    }

    private static boolean within(int n, int least, int greatest) {
        return n >= least && n <= greatest;
    }

    private static boolean isItemNumber(int k) {
        return k >= 0 && k < ITEMS;
    }

    private static boolean isFunction(int k) {
        return k >= 0 && k < FUNCTIONS;
    }

    private static boolean isRegister(int r) {
        return r >= 0 && r < REGISTERS;
    }

    private static int asNumber(boolean is) {
        return is ? 1 : 0;
    }

    private static int countOthers(int[] numbers) {
        int count = 0;
        for (int k = 0; k < numbers.length; k++) {
            count += asNumber(numbers[k] != NONE);
        }
        return count;
    }

    /** Byte i of a number of eight bytes, the first one highest. */
    private static int octetOf(long v, int i) {
        return (int) (v >>> (8 * (MOST_AT_ONCE - 1 - i))) & (VALUES - 1);
    }

    /** The program as told: items, functions, entries, input. */
    private static final class Program {
        final int[] size = new int[ITEMS];
        final int[] align = new int[ITEMS];
        final int[] group = new int[ITEMS];
        final boolean[] isVital = new boolean[ITEMS];
        final int[] octets = new int[ITEMS * LONGEST];
        final int[] leadsTo = new int[ITEMS * LONGEST];
        /** Of each item a bit for each place with a reference. */
        final long[] references = new long[ITEMS];
        final int[] length = new int[FUNCTIONS];
        final int[] op = new int[FUNCTIONS * INSTRUCTIONS];
        final int[] a = new int[FUNCTIONS * INSTRUCTIONS];
        final int[] b = new int[FUNCTIONS * INSTRUCTIONS];
        final int[] c = new int[FUNCTIONS * INSTRUCTIONS];
        final boolean[] isEntry = new boolean[FUNCTIONS];
        final int[] given = new int[INPUT_ROOM];
        int inputLength;

        static boolean isItem(int k, int size, int align, int group) {
            boolean aligned = align == 1 || align == 2 || align == 4 || align == WIDEST;
            return isItemNumber(k) && within(size, 0, LONGEST) && aligned && within(group, 0, GROUPS);
        }

        static boolean isInstruction(int op, int a, int b, int c) {
            switch (op) {
                case SET:
                case AND:
                    return isRegister(a) && within(b, 0, VALUES - 1) && c == 0;
                case ADD:
                    return isRegister(a) && within(b, 1 - VALUES, VALUES - 1) && c == 0;
                case LOAD:
                case FOLLOW:
                    return isRegister(a) && isItemNumber(b) && isRegister(c);
                case STORE:
                    return isItemNumber(a) && isRegister(b) && isRegister(c);
                case CALL:
                    return isFunction(a) && b == 0 && c == 0;
                case SKIP:
                    return isRegister(a) && within(b, -INSTRUCTIONS, INSTRUCTIONS) && c == 0;
                case OUT:
                case IN:
                    return isRegister(a) && b == 0 && c == 0;
                case RETURN:
                    return a == 0 && b == 0 && c == 0;
                case SAME:
                    return isRegister(a) && isItemNumber(b) && isItemNumber(c);
                default:
                    return false;
            }
        }

        boolean hasItem(int k) {
            return isItemNumber(k) && size[k] > 0;
        }

        boolean hasPlace(int k, int place) {
            return isItemNumber(k) && within(place, 0, size[k] - 1);
        }

        boolean hasEntry(int f) {
            return isFunction(f) && isEntry[f];
        }

        /** Of an item a bit for each place that it has. */
        long placesOf(int k) {
            return size[k] == 0 ? 0 : -1L >>> (LONGEST - size[k]);
        }

        void tellItem(int k, int newSize, int newAlign, int newGroup, boolean vital) {
            size[k] = newSize;
            align[k] = newAlign;
            group[k] = newGroup;
            isVital[k] = vital;
            references[k] = 0;
            for (int place = 0; place < LONGEST; place++) {
                octets[k * LONGEST + place] = 0;
            }
            if (newSize == 0) {
                forgetReferencesTo(k);
            }
        }

        private void forgetReferencesTo(int gone) {
            for (int k = 0; k < ITEMS; k++) {
                for (int place = 0; place < size[k]; place++) {
                    if (leadsTo[k * LONGEST + place] == gone) {
                        references[k] &= ~(1L << place);
                    }
                }
            }
        }

        int tellOctets(int k, int place, int n, long v) {
            int count = Math.min(n, size[k] - place);
            for (int i = 0; i < count; i++) {
                octets[k * LONGEST + place + i] = octetOf(v, i);
            }
            return count;
        }

        void tellReference(int k, int place, int to) {
            if (to == NONE) {
                references[k] &= ~(1L << place);
            } else {
                references[k] |= 1L << place;
                leadsTo[k * LONGEST + place] = to;
            }
        }

        boolean hasReference(int k, int place) {
            return (references[k] >>> place & 1) != 0;
        }

        int addInstruction(int f, int newOp, int newA, int newB, int newC) {
            int at = f * INSTRUCTIONS + length[f];
            op[at] = newOp;
            a[at] = newA;
            b[at] = newB;
            c[at] = newC;
            length[f]++;
            return length[f];
        }

        int addInput(int n, long v) {
            for (int i = 0; i < n; i++) {
                given[inputLength + i] = octetOf(v, i);
            }
            inputLength += n;
            return inputLength;
        }
    }

    /** Sets of 0 to 255: four longs in a row, a bit for each value. */
    private static final class OctetSet {
        static final int WORDS = 4;
        private static final int BITS = 64;
        private static final int WORD_BITS = 6;

        /** For each bit of a value below 6: where in a word the values stand that have it. */
        private static final long[] HAVING = {
            0xAAAAAAAAAAAAAAAAL, 0xCCCCCCCCCCCCCCCCL, 0xF0F0F0F0F0F0F0F0L,
            0xFF00FF00FF00FF00L, 0xFFFF0000FFFF0000L, 0xFFFFFFFF00000000L
        };

        static void makeOnly(long[] set, int value) {
            Arrays.fill(set, 0);
            add(set, 0, value);
        }

        static void add(long[] sets, int at, int value) {
            sets[at + value / BITS] |= 1L << value % BITS;
        }

        static boolean join(long[] into, int at, long[] from, int start) {
            boolean grew = false;
            for (int w = 0; w < WORDS; w++) {
                long more = from[start + w] & ~into[at + w];
                if (more != 0) {
                    into[at + w] |= more;
                    grew = true;
                }
            }
            return grew;
        }

        /** Each value and n, of 256 the rest: the whole row turns round by n. */
        static void makeSums(long[] set, long[] from, int start, int n) {
            int turn = Math.floorMod(n, VALUES);
            int words = turn / BITS;
            int bits = turn % BITS;
            for (int w = 0; w < WORDS; w++) {
                set[w] = from[start + (w - words & WORDS - 1)] << bits;
                if (bits > 0) {
                    set[w] |= from[start + (w - words - 1 & WORDS - 1)] >>> BITS - bits;
                }
            }
        }

        /** Folds the row once for each bit that n has not: far cheaper than going through 256 values. */
        static void makeMasked(long[] set, long[] from, int start, int n) {
            System.arraycopy(from, start, set, 0, WORDS);
            for (int bit = 0; bit < HAVING.length; bit++) {
                if ((n >>> bit & 1) == 0) {
                    foldWords(set, bit);
                }
            }
            if ((n >>> WORD_BITS & 1) == 0) {
                moveWord(set, 1, 0);
                moveWord(set, 3, 2);
            }
            if ((n >>> WORD_BITS + 1 & 1) == 0) {
                moveWord(set, 2, 0);
                moveWord(set, 3, 1);
            }
        }

        private static void foldWords(long[] set, int bit) {
            for (int w = 0; w < WORDS; w++) {
                long high = set[w] & HAVING[bit];
                set[w] = set[w] & ~HAVING[bit] | high >>> (1 << bit);
            }
        }

        private static void moveWord(long[] set, int from, int to) {
            set[to] |= set[from];
            set[from] = 0;
        }

        static boolean isEmpty(long[] set) {
            return (set[0] | set[1] | set[2] | set[3]) == 0;
        }

        static int count(long[] sets, int at) {
            int count = 0;
            for (int w = 0; w < WORDS; w++) {
                count += Long.bitCount(sets[at + w]);
            }
            return count;
        }
    }

    /** Shortest chains from the entries: which thing leads to which, and how long the chain to each is. */
    private static final class Chains {
        private final long[] leads = new long[THINGS];
        final int[] lengths = new int[THINGS];

        void forget() {
            Arrays.fill(leads, 0);
        }

        void link(int from, int to) {
            leads[from] |= 1L << to;
        }

        void measure(boolean[] isEntry) {
            Arrays.fill(lengths, NONE);
            long front = 0;
            for (int f = 0; f < FUNCTIONS; f++) {
                front |= isEntry[f] ? 1L << f : 0;
            }
            long found = front;
            for (int n = 1; n <= THINGS && front != 0; n++) {
                front = stepOn(front, n) & ~found;
                found |= front;
            }
        }

        private long stepOn(long front, int n) {
            long next = 0;
            for (int thing = 0; thing < THINGS; thing++) {
                if ((front >>> thing & 1) != 0) {
                    lengths[thing] = n;
                    next |= leads[thing];
                }
            }
            return next;
        }
    }

    /** The sets of values that registers and places may have, worked out through all the code that can run. */
    private static final class Reach {
        /** Behind the last instruction that a function may have: the state that returns from it. */
        private static final int END = INSTRUCTIONS;
        private static final int SLOTS = INSTRUCTIONS + 1;
        private static final int STATE = REGISTERS * OctetSet.WORDS;
        private static final int FOLLOWS = THINGS;

        private final Program program;
        final Chains chains = new Chains();
        final int[] length = new int[FUNCTIONS];
        private final long[] states = new long[FUNCTIONS * SLOTS * STATE];
        private final long[] stand = new long[ITEMS * LONGEST * OctetSet.WORDS];
        /** Of each function a bit for each instruction that is come to, and for its end. */
        final long[] comeTo = new long[FUNCTIONS];
        private final long[] waiting = new long[FUNCTIONS];
        /** The calls of each function, the loads of each item and all follows, a word for each function. */
        private final long[] sites = new long[(THINGS + 1) * FUNCTIONS];
        private final long[] made = new long[OctetSet.WORDS];
        final long[] placesRead = new long[ITEMS];
        final boolean[] isWritten = new boolean[ITEMS];
        final boolean[] isCompared = new boolean[ITEMS];

        Reach(Program told) {
            program = told;
        }

        void work() {
            forget();
            standAsTold();
            findSites();
            beginAtEntries();
            boolean moved = true;
            for (int round = 0; round < FAR && moved; round++) {
                moved = goRound();
            }
            chains.measure(program.isEntry);
        }

        int countComeTo(int f) {
            return Long.bitCount(comeTo[f] & ~(1L << END));
        }

        int countValues(int f, int i, int r) {
            return OctetSet.count(states, setAt(slotOf(f, i), r));
        }

        private void forget() {
            chains.forget();
            forgetStates();
            Arrays.fill(comeTo, 0);
            Arrays.fill(waiting, 0);
            Arrays.fill(sites, 0);
            Arrays.fill(placesRead, 0);
            for (int k = 0; k < ITEMS; k++) {
                isWritten[k] = false;
                isCompared[k] = false;
            }
            System.arraycopy(program.length, 0, length, 0, FUNCTIONS);
        }

        /** Most functions are often never come to, and the row is long: only what was filled is emptied. */
        private void forgetStates() {
            for (int f = 0; f < FUNCTIONS; f++) {
                if (comeTo[f] != 0) {
                    Arrays.fill(states, setAt(f * SLOTS, 0), setAt((f + 1) * SLOTS, 0), 0);
                }
            }
        }

        private void standAsTold() {
            for (int k = 0; k < ITEMS; k++) {
                Arrays.fill(stand, standAt(k, 0), standAt(k, program.size[k]), 0);
                for (int place = 0; place < program.size[k]; place++) {
                    OctetSet.add(stand, standAt(k, place), program.octets[k * LONGEST + place]);
                }
            }
        }

        private void findSites() {
            for (int f = 0; f < FUNCTIONS; f++) {
                for (int i = 0; i < length[f]; i++) {
                    int waker = wakerOf(f * INSTRUCTIONS + i);
                    if (waker != NONE) {
                        sites[waker * FUNCTIONS + f] |= 1L << i;
                    }
                }
            }
        }

        /** The thing whose change an instruction must hear of. */
        private int wakerOf(int at) {
            switch (program.op[at]) {
                case CALL:
                    return program.a[at];
                case LOAD:
                    return FUNCTIONS + program.b[at];
                case FOLLOW:
                    return FOLLOWS;
                default:
                    return NONE;
            }
        }

        private void wake(int waker) {
            for (int f = 0; f < FUNCTIONS; f++) {
                waiting[f] |= sites[waker * FUNCTIONS + f] & comeTo[f];
            }
        }

        private void beginAtEntries() {
            OctetSet.makeOnly(made, 0);
            for (int f = 0; f < FUNCTIONS; f++) {
                if (program.isEntry[f]) {
                    int first = placeIn(f, 0);
                    for (int r = 0; r < REGISTERS; r++) {
                        OctetSet.join(states, setAt(slotOf(f, first), r), made, 0);
                    }
                    arriveAt(f, first);
                }
            }
        }

        private boolean goRound() {
            boolean moved = false;
            for (int f = 0; f < FUNCTIONS; f++) {
                for (int turn = 0; turn < FAR && waiting[f] != 0; turn++) {
                    int i = Long.numberOfTrailingZeros(waiting[f]);
                    waiting[f] &= ~(1L << i);
                    takeOn(f, i);
                    moved = true;
                }
            }
            return moved;
        }

        private void takeOn(int f, int i) {
            if (i >= length[f]) {
                wake(f);
                return;
            }
            int from = slotOf(f, i);
            int at = f * INSTRUCTIONS + i;
            int a = program.a[at];
            int b = program.b[at];
            int c = program.c[at];
            switch (program.op[at]) {
                case STORE:
                    if (takeStore(from, a, b, c)) {
                        flow(from, f, i + 1, NONE);
                    }
                    break;
                case CALL:
                    takeCall(f, i, a);
                    break;
                case OUT:
                    flow(from, f, i + 1, NONE);
                    break;
                case RETURN:
                    flow(from, f, END, NONE);
                    break;
                case SKIP:
                    takeNought(f, i, a, b);
                    if (makeRest(from, a)) {
                        flow(from, f, i + 1, a);
                    }
                    break;
                case LOAD:
                    if (takeLoad(f, from, b, c)) {
                        flow(from, f, i + 1, a);
                    }
                    break;
                case FOLLOW:
                    if (takeFollow(f, from, b, c)) {
                        flow(from, f, i + 1, a);
                    }
                    break;
                default:
                    makeSimple(at, from);
                    flow(from, f, i + 1, a);
                    break;
            }
        }

        /** Makes the set of the first operand's register, for instructions that always go on. */
        private void makeSimple(int at, int from) {
            int b = program.b[at];
            int set = setAt(from, program.a[at]);
            switch (program.op[at]) {
                case SET:
                    OctetSet.makeOnly(made, b);
                    break;
                case ADD:
                    OctetSet.makeSums(made, states, set, b);
                    break;
                case AND:
                    OctetSet.makeMasked(made, states, set, b);
                    break;
                case SAME:
                    compare(b, program.c[at]);
                    OctetSet.makeOnly(made, asNumber(b == program.c[at]));
                    break;
                default:
                    Arrays.fill(made, -1L);
                    break;
            }
        }

        private boolean beginRead(int f, int k, long places) {
            if (places == 0) {
                return false;
            }
            placesRead[k] |= places;
            chains.link(f, FUNCTIONS + k);
            Arrays.fill(made, 0);
            return true;
        }

        private boolean takeLoad(int f, int from, int k, int q) {
            long places = placesIn(from, q) & program.placesOf(k);
            if (!beginRead(f, k, places)) {
                return false;
            }
            for (int place = Long.numberOfTrailingZeros(places); place < program.size[k]; place++) {
                if ((places >>> place & 1) != 0) {
                    OctetSet.join(made, 0, stand, standAt(k, place));
                }
            }
            return true;
        }

        private boolean takeStore(int from, int k, int q, int r) {
            long places = placesIn(from, q) & program.placesOf(k);
            if (places == 0) {
                return false;
            }
            isWritten[k] = true;
            boolean grew = false;
            for (int place = Long.numberOfTrailingZeros(places); place < program.size[k]; place++) {
                if ((places >>> place & 1) != 0) {
                    grew |= OctetSet.join(stand, standAt(k, place), states, setAt(from, r));
                }
            }
            if (grew) {
                wake(FUNCTIONS + k);
                wake(FOLLOWS);
            }
            return true;
        }

        private void takeCall(int f, int i, int called) {
            chains.link(f, called);
            flow(slotOf(f, i), called, 0, NONE);
            if ((comeTo[called] >>> END & 1) != 0) {
                flow(slotOf(called, END), f, i + 1, NONE);
            }
        }

        private void takeNought(int f, int i, int r, int n) {
            int from = slotOf(f, i);
            if ((states[setAt(from, r)] & 1) != 0) {
                OctetSet.makeOnly(made, 0);
                flow(from, f, i + n + 1, r);
            }
        }

        private boolean makeRest(int from, int r) {
            System.arraycopy(states, setAt(from, r), made, 0, OctetSet.WORDS);
            made[0] &= ~1L;
            return !OctetSet.isEmpty(made);
        }

        private void compare(int k, int other) {
            if (k != other) {
                isCompared[k] = true;
                isCompared[other] = true;
            }
        }

        private boolean takeFollow(int f, int from, int k, int q) {
            long places = placesIn(from, q) & program.references[k];
            if (!beginRead(f, k, places)) {
                return false;
            }
            for (int place = Long.numberOfTrailingZeros(places); place < program.size[k]; place++) {
                if ((places >>> place & 1) != 0) {
                    int to = program.leadsTo[k * LONGEST + place];
                    placesRead[to] |= 1;
                    chains.link(FUNCTIONS + k, FUNCTIONS + to);
                    OctetSet.join(made, 0, stand, standAt(to, 0));
                }
            }
            return true;
        }

        /** A state goes to a place of a function; of register r (NONE: of none) it is the set just made. */
        private void flow(int from, int f, int place, int r) {
            int at = placeIn(f, place);
            int to = slotOf(f, at);
            boolean grew = false;
            for (int q = 0; q < REGISTERS; q++) {
                if (q == r) {
                    grew |= OctetSet.join(states, setAt(to, q), made, 0);
                } else {
                    grew |= OctetSet.join(states, setAt(to, q), states, setAt(from, q));
                }
            }
            if (grew) {
                arriveAt(f, at);
            }
        }

        private void arriveAt(int f, int place) {
            comeTo[f] |= 1L << place;
            waiting[f] |= 1L << place;
        }

        private int placeIn(int f, int place) {
            return place < 0 || place >= length[f] ? END : place;
        }

        /** The first word of a register's set holds just the values that can be places. */
        private long placesIn(int slot, int q) {
            return states[setAt(slot, q)];
        }

        private static int slotOf(int f, int place) {
            return f * SLOTS + place;
        }

        private static int setAt(int slot, int r) {
            return slot * STATE + r * OctetSet.WORDS;
        }

        private static int standAt(int k, int place) {
            return (k * LONGEST + place) * OctetSet.WORDS;
        }
    }

    /** What is kept, what stands for or within what, and the bytes and addresses of all that. */
    private static final class Layout {
        private final Program program;
        private final Reach reach;
        private final BlockOrder order = new BlockOrder();
        final int[] size = new int[ITEMS];
        private final int[] align = new int[ITEMS];
        final boolean[] isKept = new boolean[ITEMS];
        private final boolean[] isStill = new boolean[ITEMS];
        final int[] standIn = new int[ITEMS];
        final int[] outer = new int[ITEMS];
        final int[] address = new int[ITEMS];
        private final int[] blocks = new int[ITEMS];
        int blockCount;
        final int[] octets = new int[ROOM];
        int total;

        Layout(Program told, Reach found) {
            program = told;
            reach = found;
        }

        void work() {
            begin();
            keepItems();
            keepGroups();
            findStill();
            joinAlike();
            layTails();
            listBlocks();
            placeBlocks();
            placeOthers();
            writeOctets();
        }

        int holderOf(int k) {
            return standIn[k] != NONE ? standIn[k] : outer[k];
        }

        int countKept() {
            int count = 0;
            for (int k = 0; k < ITEMS; k++) {
                count += asNumber(isKept[k]);
            }
            return count;
        }

        int countDropped() {
            int count = 0;
            for (int k = 0; k < ITEMS; k++) {
                count += asNumber(isDropped(k));
            }
            return count;
        }

        int countDroppedOctets() {
            int count = 0;
            for (int k = 0; k < ITEMS; k++) {
                count += isDropped(k) ? size[k] : 0;
            }
            return count;
        }

        private boolean isDropped(int k) {
            return size[k] > 0 && !isKept[k];
        }

        private void begin() {
            System.arraycopy(program.size, 0, size, 0, ITEMS);
            System.arraycopy(program.align, 0, align, 0, ITEMS);
            Arrays.fill(standIn, NONE);
            Arrays.fill(outer, NONE);
            Arrays.fill(address, NONE);
            Arrays.fill(octets, 0);
        }

        private void keepItems() {
            for (int k = 0; k < ITEMS; k++) {
                isKept[k] = size[k] > 0 && (program.isVital[k] || reach.placesRead[k] != 0);
            }
        }

        private void keepGroups() {
            int groups = 0;
            for (int k = 0; k < ITEMS; k++) {
                if (isKept[k]) {
                    groups |= 1 << program.group[k];
                }
            }
            for (int k = 0; k < ITEMS; k++) {
                int group = program.group[k];
                if (size[k] > 0 && group > 0 && (groups >>> group & 1) != 0) {
                    isKept[k] = true;
                }
            }
        }

        private void findStill() {
            for (int k = 0; k < ITEMS; k++) {
                boolean changes = reach.isWritten[k] || program.references[k] != 0;
                isStill[k] = isKept[k] && !changes && !reach.isCompared[k];
            }
        }

        private boolean standsStill(int k) {
            return isStill[k] && standIn[k] == NONE;
        }

        private void joinAlike() {
            for (int k = 0; k < ITEMS; k++) {
                for (int other = k + 1; other < ITEMS && standsStill(k); other++) {
                    if (standsStill(other) && size[other] == size[k] && endsWith(k, other)) {
                        standIn[other] = k;
                        align[k] = Math.max(align[k], align[other]);
                    }
                }
            }
        }

        private boolean endsWith(int k, int tail) {
            int ahead = size[k] - size[tail];
            if (ahead < 0) {
                return false;
            }
            for (int place = 0; place < size[tail]; place++) {
                int octet = program.octets[k * LONGEST + ahead + place];
                if (octet != program.octets[tail * LONGEST + place]) {
                    return false;
                }
            }
            return true;
        }

        private void layTails() {
            for (int k = 0; k < ITEMS; k++) {
                if (standsStill(k) && !holdsAny(k)) {
                    outer[k] = findOuter(k);
                }
            }
        }

        private boolean holdsAny(int k) {
            for (int tail = 0; tail < ITEMS; tail++) {
                if (outer[tail] == k) {
                    return true;
                }
            }
            return false;
        }

        private int findOuter(int tail) {
            for (int k = 0; k < ITEMS; k++) {
                boolean mayHold = standsStill(k) && outer[k] == NONE && size[k] > size[tail];
                if (mayHold && fitsAlign(k, tail) && endsWith(k, tail)) {
                    return k;
                }
            }
            return NONE;
        }

        /** An align is 1, 2, 4 or 8: it divides what has none of the bits below it. */
        private boolean fitsAlign(int k, int tail) {
            int below = align[tail] - 1;
            return (align[k] & below) == 0 && (size[k] - size[tail] & below) == 0;
        }

        private void listBlocks() {
            blockCount = 0;
            for (int k = 0; k < ITEMS; k++) {
                if (isKept[k] && holderOf(k) == NONE) {
                    blocks[blockCount] = k;
                    blockCount++;
                }
            }
            if (blockCount <= BlockOrder.MOST) {
                order.arrange(blocks, blockCount, size, align);
            }
        }

        private void placeBlocks() {
            total = 0;
            for (int n = 0; n < blockCount; n++) {
                int k = blocks[n];
                total += BlockOrder.gap(total, align[k]);
                address[k] = total;
                total += size[k];
            }
        }

        /** Tails ahead of those that another stands for: the one that stands may be a tail itself. */
        private void placeOthers() {
            for (int k = 0; k < ITEMS; k++) {
                if (outer[k] != NONE) {
                    address[k] = address[outer[k]] + size[outer[k]] - size[k];
                }
            }
            for (int k = 0; k < ITEMS; k++) {
                if (standIn[k] != NONE) {
                    address[k] = address[standIn[k]];
                }
            }
        }

        private void writeOctets() {
            for (int n = 0; n < blockCount; n++) {
                int k = blocks[n];
                System.arraycopy(program.octets, k * LONGEST, octets, address[k], size[k]);
            }
        }
    }

    /** The order of up to seven blocks that needs fewest bytes, of such orders the first by numbers. */
    private static final class BlockOrder {
        static final int MOST = 7;
        private final int[] taken = new int[MOST];
        /** By the blocks laid already and the end's rest of 8 (no more matters): fewest bytes still to come. */
        private final int[] fewest = new int[(1 << MOST) * WIDEST];

        /** Bytes between an end and the next address that an align of 1, 2, 4 or 8 divides. */
        static int gap(int end, int align) {
            return -end & align - 1;
        }

        void arrange(int[] blocks, int count, int[] size, int[] align) {
            System.arraycopy(blocks, 0, taken, 0, count);
            measure(count, size, align);
            int laid = 0;
            int end = 0;
            for (int n = 0; n < count; n++) {
                int block = choose(laid, end, count, size, align);
                int k = taken[block];
                blocks[n] = k;
                end += gap(end, align[k]) + size[k];
                laid |= 1 << block;
            }
        }

        private void measure(int count, int[] size, int[] align) {
            int all = (1 << count) - 1;
            for (int rest = 0; rest < WIDEST; rest++) {
                fewest[all * WIDEST + rest] = 0;
            }
            for (int laid = all - 1; laid >= 0; laid--) {
                for (int rest = 0; rest < WIDEST; rest++) {
                    int best = FAR;
                    for (int block = 0; block < count; block++) {
                        if ((laid >>> block & 1) == 0) {
                            best = Math.min(best, need(laid, rest, block, size, align));
                        }
                    }
                    fewest[laid * WIDEST + rest] = best;
                }
            }
        }

        private int need(int laid, int end, int block, int[] size, int[] align) {
            int k = taken[block];
            int grown = gap(end, align[k]) + size[k];
            return grown + fewest[(laid | 1 << block) * WIDEST + (end + grown) % WIDEST];
        }

        private int choose(int laid, int end, int count, int[] size, int[] align) {
            int best = fewest[laid * WIDEST + end % WIDEST];
            for (int block = 0; block < count; block++) {
                boolean isFree = (laid >>> block & 1) == 0;
                if (isFree && need(laid, end, block, size, align) == best) {
                    return block;
                }
            }
            return 0;
        }
    }

    /** Runs the program's instructions over memory as told or as laid. */
    private static final class Machine {
        private static final int RETURNED = 0;
        private static final int REFUSED = 1;
        private static final int STEPS = 2;
        private static final int DEPTH = 3;
        private static final int MOST_STEPS = 2000;
        private static final int MOST_OPEN = 16;
        private static final int MOST_SENT = 100;

        private final Program program;
        private final int[] memory = new int[ROOM];
        private final int[] home = new int[ITEMS];
        private final int[] registers = new int[REGISTERS];
        private final int[] callers = new int[MOST_OPEN];
        private final int[] returns = new int[MOST_OPEN];
        private final int[] sent = new int[MOST_SENT];
        private boolean hasWorked;
        private int open;
        private int current;
        private int place;
        private int inputTaken;
        private int sentCount;
        private int done;

        Machine(Program told) {
            program = told;
        }

        void takeAsTold() {
            for (int k = 0; k < ITEMS; k++) {
                home[k] = k * LONGEST;
            }
            System.arraycopy(program.octets, 0, memory, 0, ITEMS * LONGEST);
        }

        void takeAsLaid(Layout layout) {
            System.arraycopy(layout.address, 0, home, 0, ITEMS);
            System.arraycopy(layout.octets, 0, memory, 0, ROOM);
        }

        int tell(int what) {
            if (!hasWorked) {
                return NONE;
            }
            switch (what) {
                case 0:
                    return sentCount;
                case 1:
                    return done;
                case 2:
                    return current;
                case 3:
                    return place;
                default:
                    return NONE;
            }
        }

        int sentAt(int i) {
            return within(i, 0, Math.min(sentCount, MOST_SENT) - 1) ? sent[i] : NONE;
        }

        int work(int entry) {
            begin(entry);
            for (int turn = 0; turn < FAR; turn++) {
                if (place >= program.length[current]) {
                    if (open == 1) {
                        current = NONE;
                        place = NONE;
                        return RETURNED;
                    }
                    leave();
                } else if (done == MOST_STEPS) {
                    return STEPS;
                } else {
                    int refusal = carryOut(current * INSTRUCTIONS + place);
                    if (refusal != NONE) {
                        return refusal;
                    }
                    done++;
                }
            }
            return STEPS;
        }

        private void begin(int entry) {
            Arrays.fill(registers, 0);
            hasWorked = true;
            open = 1;
            current = entry;
            place = 0;
            inputTaken = 0;
            sentCount = 0;
            done = 0;
        }

        private void leave() {
            open--;
            current = callers[open];
            place = returns[open];
        }

        /** NONE if the instruction is done, else how the run ends there. */
        private int carryOut(int at) {
            int a = program.a[at];
            int b = program.b[at];
            int c = program.c[at];
            switch (program.op[at]) {
                case SET:
                    return put(a, b);
                case ADD:
                    return put(a, Math.floorMod(registers[a] + b, VALUES));
                case AND:
                    return put(a, registers[a] & b);
                case LOAD:
                    return load(a, b, registers[c]);
                case STORE:
                    return store(a, registers[b], registers[c]);
                case CALL:
                    return openFunction(a);
                case SKIP:
                    return skip(registers[a] == 0 ? place + b + 1 : place + 1);
                case OUT:
                    return send(registers[a]);
                case RETURN:
                    return skip(program.length[current]);
                case IN:
                    return put(a, takeInput());
                case SAME:
                    return put(a, asNumber(standAsOne(b, c)));
                default:
                    return follow(a, b, registers[c]);
            }
        }

        private int put(int r, int value) {
            registers[r] = value;
            place++;
            return NONE;
        }

        private int load(int r, int k, int where) {
            if (!program.hasPlace(k, where) || home[k] == NONE) {
                return REFUSED;
            }
            return put(r, memory[home[k] + where]);
        }

        private int store(int k, int where, int value) {
            if (!program.hasPlace(k, where)) {
                return REFUSED;
            }
            if (home[k] != NONE) {
                memory[home[k] + where] = value;
            }
            place++;
            return NONE;
        }

        private int openFunction(int called) {
            if (open == MOST_OPEN) {
                return DEPTH;
            }
            callers[open] = current;
            returns[open] = place + 1;
            open++;
            current = called;
            place = 0;
            return NONE;
        }

        private int skip(int to) {
            place = to < 0 ? program.length[current] : to;
            return NONE;
        }

        private int send(int value) {
            if (sentCount < MOST_SENT) {
                sent[sentCount] = value;
            }
            sentCount++;
            place++;
            return NONE;
        }

        private int takeInput() {
            if (inputTaken >= program.inputLength) {
                return 0;
            }
            inputTaken++;
            return program.given[inputTaken - 1];
        }

        private boolean standAsOne(int k, int other) {
            return k == other || (home[k] != NONE && home[k] == home[other]);
        }

        private int follow(int r, int k, int where) {
            if (!program.hasPlace(k, where) || !program.hasReference(k, where)) {
                return REFUSED;
            }
            return load(r, program.leadsTo[k * LONGEST + where], 0);
        }
    }
}
