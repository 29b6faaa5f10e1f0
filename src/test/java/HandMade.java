/** What the tests with answers worked out by hand share: short ways to tell a program and to ask of it. */
abstract class HandMade {
    static final int SET = 0;
    static final int ADD = 1;
    static final int AND = 2;
    static final int LOAD = 3;
    static final int STORE = 4;
    static final int CALL = 5;
    static final int SKIP = 6;
    static final int OUT = 7;
    static final int RETURN = 8;
    static final int IN = 9;
    static final int SAME = 10;
    static final int FOLLOW = 11;
    static final int[] ODD = {-1, Integer.MIN_VALUE, Integer.MAX_VALUE};

    static final Check CHECK = new Check("by hand");

    static void due(String call, long got, long want) {
        CHECK.due(call, got, want);
    }

    static void due(String call, boolean got, boolean want) {
        CHECK.due(call, got, want);
    }

    /** Bytes for a v, the first one highest. */
    static long row(int... octets) {
        long v = 0;
        for (int i = 0; i < 8; i++) {
            v = v << 8 | (i < octets.length ? octets[i] : 0);
        }
        return v;
    }

    static DataShrinker withEntry(int... code) {
        DataShrinker x = new DataShrinker();
        x.entry(0, true);
        add(x, 0, code);
        return x;
    }

    /** Instructions of four numbers each. */
    static void add(DataShrinker x, int f, int... code) {
        for (int i = 0; i < code.length; i += 4) {
            if (x.code(f, code[i], code[i + 1], code[i + 2], code[i + 3]) == DataShrinker.NONE) {
                due("code of instruction " + i / 4, -1, 0);
            }
        }
    }

    static void tell(DataShrinker x, int k, int align, int... octets) {
        tell(x, k, align, false, octets);
    }

    /** A vital item is kept though no code reads it. */
    static void tellVital(DataShrinker x, int k, int align, int... octets) {
        tell(x, k, align, true, octets);
    }

    private static void tell(DataShrinker x, int k, int align, boolean vital, int... octets) {
        due("item " + k, x.item(k, octets.length, align, 0, vital), true);
        for (int i = 0; i < octets.length; i++) {
            x.bytes(k, i, 1, row(octets[i]));
        }
    }

    static void dueOut(String what, DataShrinker x, int... octets) {
        due(what + ": ran(0)", x.ran(0), octets.length);
        for (int i = 0; i < octets.length; i++) {
            due(what + ": out(" + i + ")", x.out(i), octets[i]);
        }
        due(what + ": out behind", x.out(octets.length), -1);
    }

    /** How each register is counted ahead of an instruction of function 0. */
    static void dueValues(String what, DataShrinker x, int i, int... counts) {
        for (int r = 0; r < counts.length; r++) {
            due(what + ": values(0, " + i + ", " + r + ")", x.values(0, i, r), counts[r]);
        }
    }

    static void dueOctets(String what, DataShrinker x, int... octets) {
        for (int i = 0; i < octets.length; i++) {
            due(what + ": octet(" + i + ")", x.octet(i), octets[i]);
        }
        due(what + ": octet behind", x.octet(octets.length), -1);
    }
}
