import java.util.Random;

/** Many runs of 512 calls by chance (from set seeds): each answer must be the one that Model gives. */
public final class ModelTest {
    private static final int RUNS = 5000;
    private static final int CALLS = 512;
    private static final int CALLS_AT_ONCE = 13;

    private final Check check;
    private final Random chance;
    private final DataShrinker x = new DataShrinker();
    private final Model model = new Model();
    private final int itemCount;
    private final int functionCount;
    private final int largest;
    private final int byteKinds;
    private final int stillness;
    private final int vitalOdds;
    private int calls;

    private ModelTest(Check check, long seed) {
        this.check = check;
        chance = new Random(seed);
        itemCount = 2 + chance.nextInt(chance.nextInt(3) == 0 ? 22 : 9);
        functionCount = 1 + chance.nextInt(chance.nextInt(4) == 0 ? 11 : 4);
        largest = chance.nextInt(5) == 0 ? 64 : 2 + chance.nextInt(9);
        byteKinds = chance.nextInt(4) == 0 ? 256 : 1 + chance.nextInt(3);
        stillness = 1 + chance.nextInt(8);
        vitalOdds = chance.nextInt(3) == 0 ? 2 : 8;
    }

    public static void main(String[] args) {
        Check check = new Check("model");
        for (int run = 0; run < RUNS && check.wrong() == 0; run++) {
            new ModelTest(check, run).play();
            if (check.wrong() != 0) {
                System.out.println("in run " + run);
            }
        }
        check.end();
    }

    private void play() {
        boolean all = chance.nextBoolean();
        for (int k = 0; k < itemCount; k++) {
            tellItem(k);
        }
        int built = 20 + chance.nextInt(all ? 80 : 200);
        for (int n = 0; n < built; n++) {
            build();
        }
        if (all) {
            askAll();
        } else {
            playOn();
        }
    }

    private void playOn() {
        while (calls + CALLS_AT_ONCE <= CALLS && check.wrong() == 0) {
            int what = chance.nextInt(100);
            if (what < 6) {
                build();
            } else if (what < 12) {
                due("shrink()", x.shrink(), model.shrink());
            } else if (what < 20) {
                start();
            } else if (what < 23) {
                give();
            } else {
                ask();
            }
        }
    }

    /** Each set of values, then all of each item and all bytes, as far as the calls last. */
    private void askAll() {
        due("shrink()", x.shrink(), model.shrink());
        for (int f = 0; f < functionCount; f++) {
            for (int i = 0; model.values(f, i, 0) > 0; i++) {
                for (int r = 0; r < 4 && calls < CALLS; r++) {
                    due("values(" + f + ", " + i + ", " + r + ")", x.values(f, i, r), model.values(f, i, r));
                }
            }
        }
        for (int k = 0; k < itemCount; k++) {
            for (int what = 0; what < 7 && calls < CALLS; what++) {
                due("kept(" + k + ", " + what + ")", x.kept(k, what), model.kept(k, what));
            }
        }
        for (int i = 0; calls < CALLS; i++) {
            due("octet(" + i + ")", x.octet(i), model.octet(i));
        }
    }

    private void due(String call, int got, int want) {
        calls++;
        check.due(call, got, want);
    }

    private void due(String call, boolean got, boolean want) {
        calls++;
        check.due(call, got, want);
    }

    /** A number from 0 to one below the count, and now and then one that is not. */
    private int some(int count) {
        int odd = chance.nextInt(120);
        if (odd == 0) {
            return -1;
        }
        if (odd == 1) {
            return count;
        }
        if (odd == 2) {
            return chance.nextInt();
        }
        return chance.nextInt(count);
    }

    private int someItem() {
        return chance.nextInt(40) == 0 ? some(24) : some(itemCount);
    }

    private int someFunction() {
        return chance.nextInt(40) == 0 ? some(12) : some(functionCount);
    }

    private long someBytes() {
        long v = 0;
        for (int i = 0; i < 8; i++) {
            v = v << 8 | chance.nextInt(byteKinds);
        }
        return v;
    }

    private void tellItem(int k) {
        int size = chance.nextInt(12) == 0 ? some(66) : 1 + some(largest);
        if (chance.nextInt(10) == 0) {
            size = 0;
        }
        int align = chance.nextInt(60) == 0 ? some(10) : 1 << chance.nextInt(4);
        if (chance.nextInt(2) == 0) {
            align = 1;
        }
        int group = chance.nextInt(3) == 0 ? some(4) : 0;
        boolean vital = chance.nextInt(vitalOdds) == 0;
        String call = "item(" + k + ", " + size + ", " + align + ", " + group + ", " + vital + ")";
        due(call, x.item(k, size, align, group, vital), model.item(k, size, align, group, vital));
    }

    private void build() {
        int what = chance.nextInt(100);
        if (what < 5) {
            tellItem(someItem());
        } else if (what < 20) {
            int k = someItem();
            int place = chance.nextInt(3) == 0 ? some(largest) : 0;
            int n = chance.nextInt(30) == 0 ? some(10) : 8;
            long v = someBytes();
            due("bytes(" + k + ", " + place + ", " + n + ", " + v + ")", x.bytes(k, place, n, v), model.bytes(k, place, n, v));
        } else if (what < 26) {
            int k = someItem();
            int place = chance.nextBoolean() ? 0 : some(largest);
            int to = chance.nextInt(5) == 0 ? -1 : someItem();
            due("refer(" + k + ", " + place + ", " + to + ")", x.refer(k, place, to), model.refer(k, place, to));
        } else if (what < 32) {
            int f = someFunction();
            boolean is = chance.nextInt(3) > 0;
            due("entry(" + f + ", " + is + ")", x.entry(f, is), model.entry(f, is));
        } else if (what < 33) {
            int f = someFunction();
            due("clear(" + f + ")", x.clear(f), model.clear(f));
        } else {
            tellCode();
        }
    }

    private void tellCode() {
        int f = someFunction();
        int op = chance.nextInt(12);
        if ((op == 4 || op == 10) && chance.nextInt(8) < stillness) {
            op = 3;
        }
        if (op == 8 && chance.nextInt(4) > 0) {
            op = 7;
        }
        if (chance.nextInt(100) == 0) {
            op = some(13);
        }
        int a = some(4);
        int b = 0;
        int c = 0;
        switch (op) {
            case 0: b = chance.nextInt(3) == 0 ? some(256) : some(largest); break;
            case 1: b = chance.nextInt(3) == 0 ? some(512) - 255 : some(5) - 2; break;
            case 2: b = chance.nextInt(3) == 0 ? some(256) : some(largest); break;
            case 3: case 11: b = someItem(); c = some(4); break;
            case 4: a = someItem(); b = some(4); c = some(4); break;
            case 5: a = someFunction(); break;
            case 6: b = chance.nextInt(4) == 0 ? some(81) - 40 : some(9) - 4; break;
            case 8: a = 0; break;
            case 10: b = someItem(); c = chance.nextInt(3) == 0 ? b : someItem(); break;
            default: break;
        }
        if (chance.nextInt(80) == 0) {
            c = some(3);
        }
        due("code(" + f + ", " + op + ", " + a + ", " + b + ", " + c + ")", x.code(f, op, a, b, c), model.code(f, op, a, b, c));
    }

    private void start() {
        int f = someFunction();
        if (chance.nextInt(3) == 0) {
            due("run(" + f + ")", x.run(f), model.run(f));
        } else {
            due("runLaid(" + f + ")", x.runLaid(f), model.runLaid(f));
        }
        for (int what = 0; what < 4; what++) {
            due("ran(" + what + ")", x.ran(what), model.ran(what));
        }
        for (int i = 0; i < 8; i++) {
            due("out(" + i + ")", x.out(i), model.out(i));
        }
    }

    private void give() {
        if (chance.nextInt(8) == 0) {
            due("input()", x.input(), model.input());
            return;
        }
        int n = chance.nextInt(20) == 0 ? some(10) : 1 + chance.nextInt(8);
        long v = someBytes();
        due("input(" + n + ", " + v + ")", x.input(n, v), model.input(n, v));
    }

    private void ask() {
        int k = someItem();
        int f = someFunction();
        switch (chance.nextInt(8)) {
            case 0: case 1:
                int what = some(7);
                due("kept(" + k + ", " + what + ")", x.kept(k, what), model.kept(k, what));
                break;
            case 2:
                int place = some(largest);
                due("read(" + k + ", " + place + ")", x.read(k, place), model.read(k, place));
                break;
            case 3:
                int which = some(3);
                due("function(" + f + ", " + which + ")", x.function(f, which), model.function(f, which));
                break;
            case 4:
                int i = some(chance.nextInt(4) == 0 ? 40 : 12);
                int r = some(4);
                due("values(" + f + ", " + i + ", " + r + ")", x.values(f, i, r), model.values(f, i, r));
                break;
            case 5:
                int at = some(itemCount * largest);
                due("octet(" + at + ")", x.octet(at), model.octet(at));
                break;
            case 6:
                int count = some(7);
                due("shrunk(" + count + ")", x.shrunk(count), model.shrunk(count));
                break;
            default:
                int behind = some(110);
                due("out(" + behind + ")", x.out(behind), model.out(behind));
                break;
        }
    }
}
