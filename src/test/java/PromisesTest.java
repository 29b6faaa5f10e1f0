/** A part for each promise of the document: ordinary inputs, the edges that it names, and wrong inputs. */
public final class PromisesTest extends HandMade {
    private PromisesTest() {
    }

    public static void main(String[] args) {
        promise1();
        promise2();
        promise2Anew();
        promise2None();
        promise3();
        promise4();
        promise5();
        promise5Limits();
        promise6();
        promise7();
        promise8And9();
        promise10Sums();
        promise10Memory();
        promise10Skips();
        promise10Ends();
        promise10Fresh();
        promise11();
        promise11Told();
        promise11Dropped();
        promise12();
        promise13();
        promise14Orders();
        promise14Eight();
        promise14Again();
        promise14Alike();
        promise14Tails();
        promise15();
        promise15Groups();
        promise15Why();
        promise15Again();
        promise16();
        promise16Places();
        promise17();
        promise18Sums();
        promise18Words();
        promise18Flow();
        promise18Calls();
        promise18Forty();
        promise18Memory();
        promise18Order();
        promise19();
        promise20();
        CHECK.end();
    }

    private static void promise1() {
        DataShrinker x = new DataShrinker();
        due("1 NONE", DataShrinker.NONE, -1);
        due("1 input()", x.input(), 0);
        for (int f = 0; f < 12; f++) {
            due("1 run", x.run(f), -1);
            due("1 clear", x.clear(f), 0);
            due("1 entry", x.entry(f, false), false);
        }
        for (int k = 0; k < 24; k++) {
            due("1 bytes", x.bytes(k, 0, 1, 0), -1);
            due("1 refer", x.refer(k, 0, -1), false);
        }
        due("1 shrink", x.shrink(), 0);
        due("1 kept", x.kept(0, 0), -1);
        due("1 function", x.function(0, 0), 0);
        for (int what = 0; what < 7; what++) {
            due("1 shrunk", x.shrunk(what), 0);
        }
    }

    private static void promise2() {
        DataShrinker x = new DataShrinker();
        due("2 least", x.item(0, 1, 1, 0, false), true);
        due("2 greatest", x.item(23, 64, 8, 3, true), true);
        due("2 align 2", x.item(1, 64, 2, 1, true), true);
        due("2 align 4", x.item(1, 64, 4, 2, true), true);
        due("2 size 65", x.item(2, 65, 1, 0, false), false);
        due("2 item 24", x.item(24, 1, 1, 0, false), false);
        due("2 group 4", x.item(2, 1, 1, 4, false), false);
        for (int align : new int[] {0, 3, 5, 6, 7, 9, 16}) {
            due("2 align " + align, x.item(2, 1, align, 0, false), false);
        }
        for (int odd : ODD) {
            due("2 odd item", x.item(odd, 1, 1, 0, false), false);
            due("2 odd size", x.item(2, odd, 1, 0, false), false);
            due("2 odd align", x.item(2, 1, odd, 0, false), false);
            due("2 odd group", x.item(2, 1, 1, odd, false), false);
        }
        due("2 still none", x.bytes(2, 0, 1, 0), -1);
        due("2 place 63", x.bytes(23, 63, 1, 0), 1);
        due("2 place 64", x.bytes(23, 64, 1, 0), -1);
        due("2 refused, so nothing happens", x.item(23, 2, 3, 0, false), false);
        due("2 place 63 yet", x.bytes(23, 63, 1, 0), 1);
    }

    private static void promise2Anew() {
        DataShrinker x = withEntry(LOAD, 1, 0, 0, OUT, 1, 0, 0, FOLLOW, 1, 1, 0, OUT, 1, 0, 0, FOLLOW, 1, 0, 0);
        tell(x, 0, 1, 5, 6);
        tell(x, 1, 1, 7);
        x.refer(1, 0, 0);
        x.refer(0, 0, 0);
        due("2 as told", x.run(0), 0);
        dueOut("2 as told", x, 5, 5);
        due("2 anew", x.item(0, 2, 1, 0, false), true);
        due("2 its references go", x.run(0), 1);
        due("2 its references go", x.ran(3), 4);
        dueOut("2 bytes are 0, references to it stay", x, 0, 0);
        due("2 size 0", x.item(0, 0, 1, 0, false), true);
        due("2 none then", x.run(0), 1);
        due("2 none then", x.ran(3), 0);
        due("2 told once more", x.item(0, 1, 1, 0, false), true);
        due("2 references to it went", x.run(0), 1);
        due("2 references to it went", x.ran(3), 2);
        due("2 none twice", x.item(5, 0, 8, 3, true), true);
        due("2 size 0, wrong align", x.item(5, 0, 3, 0, true), false);
        due("2 none is not vital", x.shrink(), 1);
    }

    private static void promise2None() {
        DataShrinker x = withEntry(FOLLOW, 1, 7, 0, OUT, 1, 0, 0, ADD, 0, 1, 0, FOLLOW, 1, 7, 0, OUT, 1, 0, 0);
        tell(x, 3, 1, 30);
        tell(x, 4, 1, 40);
        tell(x, 7, 1, 1, 2);
        x.refer(7, 0, 3);
        x.refer(7, 1, 4);
        due("2 both references", x.run(0), 0);
        dueOut("2 both references", x, 30, 40);
        x.item(4, 0, 1, 0, false);
        due("2 the reference to it went", x.run(0), 1);
        dueOut("2 the other one stays", x, 30);
        tell(x, 4, 1, 44);
        due("2 the reference does not come again", x.run(0), 1);
        dueOut("2 the reference does not come again", x, 30);
        x.item(4, 0, 1, 0, false);
        x.item(5, 0, 1, 2, true);
        x.item(6, 1, 1, 2, true);
        x.shrink();
        due("2 none is kept by being vital or in a group", x.shrunk(0), 3);
        due("2 none is dropped", x.shrunk(1), 0);
        due("2 none", x.kept(5, 0), -1);
    }

    private static void promise3() {
        DataShrinker x = new DataShrinker();
        x.item(3, 10, 1, 0, true);
        due("3 eight", x.bytes(3, 0, 8, row(1, 2, 3, 4, 5, 6, 7, 255)), 8);
        due("3 as far as it goes", x.bytes(3, 8, 8, row(8, 9, 10)), 2);
        due("3 one", x.bytes(3, 1, 1, row(77, 78)), 1);
        due("3 n 0", x.bytes(3, 0, 0, row(9)), -1);
        due("3 n 9", x.bytes(3, 0, 9, row(9)), -1);
        due("3 place 10", x.bytes(3, 10, 1, row(9)), -1);
        due("3 without the item", x.bytes(4, 0, 1, row(9)), -1);
        due("3 item 24", x.bytes(24, 0, 1, row(9)), -1);
        for (int odd : ODD) {
            due("3 odd item", x.bytes(odd, 0, 1, row(9)), -1);
            due("3 odd place", x.bytes(3, odd, 1, row(9)), -1);
            due("3 odd n", x.bytes(3, 0, odd, row(9)), -1);
        }
        x.shrink();
        int[] want = {1, 77, 3, 4, 5, 6, 7, 255, 8, 9};
        for (int i = 0; i < want.length; i++) {
            due("3 octet " + i, x.octet(i), want[i]);
        }
    }

    private static void promise4() {
        DataShrinker x = withEntry(FOLLOW, 0, 0, 1, OUT, 0, 0, 0);
        tell(x, 0, 1, 10, 11);
        tell(x, 1, 1, 20);
        due("4 to another", x.refer(0, 0, 1), true);
        x.run(0);
        dueOut("4 to another", x, 20);
        due("4 to itself", x.refer(0, 0, 0), true);
        x.run(0);
        dueOut("4 to itself", x, 10);
        due("4 the byte stays besides", x.bytes(0, 0, 1, row(12)), 1);
        x.run(0);
        dueOut("4 the reference stays besides", x, 12);
        due("4 place 2", x.refer(0, 2, 1), false);
        due("4 to no item", x.refer(0, 0, 2), false);
        due("4 of no item", x.refer(2, 0, 0), false);
        due("4 to -2", x.refer(0, 0, -2), false);
        due("4 to 24", x.refer(0, 0, 24), false);
        due("4 of 24", x.refer(24, 0, 0), false);
        for (int odd : ODD) {
            due("4 odd item", x.refer(odd, 0, 0), false);
            due("4 odd place", x.refer(0, odd, 0), false);
            due("4 odd to", x.refer(0, 0, odd), odd == -1);
        }
        due("4 to none any more", x.run(0), 1);
        due("4 none where none was", x.refer(0, 1, -1), true);
    }

    private static void promise5() {
        DataShrinker x = new DataShrinker();
        int[][] least = {
            {SET, 0, 0, 0}, {ADD, 0, -255, 0}, {AND, 0, 0, 0}, {LOAD, 0, 0, 0}, {STORE, 0, 0, 0}, {CALL, 0, 0, 0},
            {SKIP, 0, -40, 0}, {OUT, 0, 0, 0}, {RETURN, 0, 0, 0}, {IN, 0, 0, 0}, {SAME, 0, 0, 0}, {FOLLOW, 0, 0, 0}
        };
        int[][] greatest = {
            {SET, 3, 255, 0}, {ADD, 3, 255, 0}, {AND, 3, 255, 0}, {LOAD, 3, 23, 3}, {STORE, 23, 3, 3}, {CALL, 11, 0, 0},
            {SKIP, 3, 40, 0}, {OUT, 3, 0, 0}, {RETURN, 0, 0, 0}, {IN, 3, 0, 0}, {SAME, 3, 23, 23}, {FOLLOW, 3, 23, 3}
        };
        for (int op = 0; op < 12; op++) {
            due("5 least of " + op, x.code(0, op, least[op][1], least[op][2], least[op][3]), 2 * op + 1);
            due("5 greatest of " + op, x.code(0, op, greatest[op][1], greatest[op][2], greatest[op][3]), 2 * op + 2);
            for (int n = 1; n < 4; n++) {
                int[] low = least[op].clone();
                low[n]--;
                due("5 below, " + op + " " + n, x.code(0, op, low[1], low[2], low[3]), -1);
                int[] high = greatest[op].clone();
                high[n]++;
                due("5 above, " + op + " " + n, x.code(0, op, high[1], high[2], high[3]), -1);
            }
        }
        due("5 none of them came", x.clear(0), 24);
    }

    private static void promise5Limits() {
        DataShrinker x = new DataShrinker();
        for (int i = 1; i <= 40; i++) {
            due("5 count", x.code(11, OUT, 0, 0, 0), i);
        }
        due("5 forty-first", x.code(11, OUT, 0, 0, 0), -1);
        due("5 function 12", x.code(12, OUT, 0, 0, 0), -1);
        due("5 op 12", x.code(0, 12, 0, 0, 0), -1);
        for (int odd : ODD) {
            due("5 odd function", x.code(odd, OUT, 0, 0, 0), -1);
            due("5 odd op", x.code(0, odd, 0, 0, 0), -1);
            due("5 odd a", x.code(0, LOAD, odd, 0, 0), -1);
            due("5 odd b", x.code(0, LOAD, 0, odd, 0), -1);
            due("5 odd c", x.code(0, LOAD, 0, 0, odd), -1);
            due("5 odd skip", x.code(0, SKIP, 0, odd, 0), odd == -1 ? 1 : -1);
        }
        x.entry(11, true);
        due("5 forty run", x.run(11), 0);
        due("5 forty run", x.ran(1), 40);
    }

    private static void promise6() {
        DataShrinker x = withEntry(SET, 0, 9, 0, OUT, 0, 0, 0);
        add(x, 11, OUT, 0, 0, 0);
        due("6 clear", x.clear(0), 2);
        due("6 empty", x.clear(0), 0);
        due("6 another one stays", x.clear(11), 1);
        due("6 an entry yet", x.run(0), 0);
        due("6 no instruction", x.ran(1), 0);
        due("6 first again", x.code(0, RETURN, 0, 0, 0), 1);
        due("6 function 12", x.clear(12), -1);
        for (int odd : ODD) {
            due("6 odd", x.clear(odd), -1);
        }
        due("6 nothing happened", x.clear(0), 1);
    }

    private static void promise7() {
        DataShrinker x = new DataShrinker();
        due("7 entry", x.entry(11, true), true);
        due("7 again", x.entry(11, true), false);
        due("7 runs", x.run(11), 0);
        due("7 no more", x.entry(11, false), true);
        due("7 no more again", x.entry(11, false), false);
        due("7 runs no more", x.run(11), -1);
        due("7 function 12", x.entry(12, true), false);
        for (int odd : ODD) {
            due("7 odd", x.entry(odd, true), false);
            due("7 odd", x.entry(odd, false), false);
        }
    }

    private static void promise8And9() {
        DataShrinker x = withEntry(
            IN, 0, 0, 0, OUT, 0, 0, 0, IN, 0, 0, 0, OUT, 0, 0, 0, IN, 0, 0, 0, OUT, 0, 0, 0, IN, 0, 0, 0, OUT, 0, 0, 0);
        due("8 one", x.input(1, row(255, 9)), 1);
        due("8 two behind", x.input(2, row(2, 3, 4)), 3);
        due("8 n 0", x.input(0, 0), -1);
        due("8 n 9", x.input(9, 0), -1);
        for (int odd : ODD) {
            due("8 odd", x.input(odd, 0), -1);
        }
        x.run(0);
        dueOut("8 from its begin", x, 255, 2, 3, 0);
        x.run(0);
        dueOut("8 from its begin again", x, 255, 2, 3, 0);
        due("9 had", x.input(), 3);
        due("9 empty", x.input(), 0);
        x.run(0);
        dueOut("9 empty", x, 0, 0, 0, 0);
        for (int n = 1; n <= 24; n++) {
            due("8 eight more", x.input(8, row(1, 2, 3, 4, 5, 6, 7, 8)), 8 * n);
        }
        due("8 199", x.input(7, row(9, 9, 9, 9, 9, 9, 9)), 199);
        due("8 would be 201", x.input(2, 0), -1);
        due("8 200", x.input(1, 0), 200);
        due("8 full", x.input(1, 0), -1);
        x.run(0);
        dueOut("8 full", x, 1, 2, 3, 4);
        due("9 full", x.input(), 200);
    }

    private static void promise10Sums() {
        DataShrinker x = withEntry(
            OUT, 3, 0, 0, SET, 0, 255, 0, ADD, 0, 3, 0, OUT, 0, 0, 0, ADD, 0, -5, 0, OUT, 0, 0, 0,
            AND, 0, 15, 0, OUT, 0, 0, 0, ADD, 0, -255, 0, OUT, 0, 0, 0, ADD, 0, 255, 0, OUT, 0, 0, 0,
            SAME, 1, 4, 4, OUT, 1, 0, 0, SAME, 1, 4, 5, OUT, 1, 0, 0);
        due("10 sums", x.run(0), 0);
        dueOut("10 sums", x, 0, 2, 253, 13, 14, 13, 1, 0);
        due("10 nothing happens", x.run(1), -1);
        due("10 nothing happens", x.run(12), -1);
        for (int odd : ODD) {
            due("10 odd", x.run(odd), -1);
        }
        dueOut("10 the latest run stays", x, 0, 2, 253, 13, 14, 13, 1, 0);
    }

    private static void promise10Memory() {
        DataShrinker x = withEntry(
            SET, 0, 1, 0, SET, 1, 9, 0, LOAD, 2, 0, 0, OUT, 2, 0, 0, STORE, 0, 0, 1, LOAD, 2, 0, 0, OUT, 2, 0, 0,
            FOLLOW, 2, 1, 0, OUT, 2, 0, 0, LOAD, 0, 0, 0, OUT, 0, 0, 0);
        tell(x, 0, 1, 3, 4);
        tell(x, 1, 1, 5, 6);
        tell(x, 2, 1, 5, 6);
        x.refer(1, 1, 0);
        x.refer(1, 0, 2);
        due("10 memory", x.run(0), 0);
        dueOut("10 memory", x, 4, 9, 3, 9);
        due("10 bytes as told again", x.run(0), 0);
        dueOut("10 bytes as told again", x, 4, 9, 3, 9);
        add(x, 2, STORE, 0, 0, 0);
        x.clear(0);
        add(x, 0, SET, 0, 2, 0, CALL, 2, 0, 0);
        due("10 store behind the item", x.run(0), 1);
        due("10 refused in the function", x.ran(2), 2);
        due("10 refused there", x.ran(3), 0);
        due("10 done", x.ran(1), 2);
    }

    private static void promise10Skips() {
        DataShrinker x = withEntry(SKIP, 0, 1, 0, OUT, 1, 0, 0, SET, 1, 4, 0, SKIP, 1, 1, 0, OUT, 1, 0, 0);
        x.run(0);
        dueOut("10 skip over one", x, 4);
        x = withEntry(SET, 2, 1, 0, SKIP, 0, -3, 0, OUT, 2, 0, 0);
        due("10 skip below 0 goes to the end", x.run(0), 0);
        due("10 skip below 0 goes to the end", x.ran(1), 2);
        x = withEntry(SKIP, 0, 40, 0, OUT, 2, 0, 0);
        due("10 skip behind the end", x.run(0), 0);
        due("10 skip behind the end", x.ran(1), 1);
        x = withEntry(SKIP, 0, 0, 0, OUT, 2, 0, 0);
        x.run(0);
        dueOut("10 skip 0", x, 0);
        x = withEntry(SET, 1, 3, 0, OUT, 1, 0, 0, ADD, 1, -1, 0, SKIP, 1, 1, 0, SKIP, 0, -4, 0);
        due("10 a loop", x.run(0), 0);
        dueOut("10 a loop", x, 3, 2, 1);
    }

    private static void promise10Ends() {
        DataShrinker x = withEntry(LOAD, 0, 7, 0);
        due("10 load without the item", x.run(0), 1);
        x = withEntry(STORE, 7, 0, 0);
        due("10 store without the item", x.run(0), 1);
        x = withEntry(FOLLOW, 0, 7, 0);
        due("10 follow without the item", x.run(0), 1);
        x.item(7, 1, 1, 0, false);
        due("10 follow without a reference", x.run(0), 1);
        x = withEntry(SKIP, 0, -1, 0);
        due("10 steps", x.run(0), 2);
        due("10 steps", x.ran(1), 2000);
        x = withEntry(CALL, 1, 0, 0);
        for (int f = 1; f < 11; f++) {
            add(x, f, CALL, f + 1, 0, 0);
        }
        due("10 twelve open", x.run(0), 0);
        due("10 twelve open", x.ran(1), 11);
        x = withEntry(ADD, 0, 1, 0, ADD, 0, -16, 0, SKIP, 0, 2, 0, ADD, 0, 16, 0, CALL, 0, 0, 0);
        due("10 sixteen open", x.run(0), 0);
        due("10 sixteen open", x.ran(1), 15 * 5 + 3);
        x = withEntry(ADD, 0, 1, 0, ADD, 0, -17, 0, SKIP, 0, 2, 0, ADD, 0, 17, 0, CALL, 0, 0, 0);
        due("10 depth", x.run(0), 3);
        due("10 depth", x.ran(1), 16 * 5 - 1);
        due("10 depth", x.ran(3), 4);
    }

    private static void promise10Fresh() {
        DataShrinker x = withEntry(OUT, 0, 0, 0, SET, 0, 5, 0);
        add(x, 5, CALL, 6, 0, 0, ADD, 0, 1, 0, OUT, 0, 0, 0);
        add(x, 6, SET, 0, 8, 0, RETURN, 0, 0, 0, SET, 0, 9, 0);
        x.entry(5, true);
        x.run(0);
        dueOut("10 registers", x, 0);
        x.run(0);
        dueOut("10 registers are 0 again", x, 0);
        due("10 call and return", x.run(5), 0);
        dueOut("10 registers are all functions'", x, 9);
        due("10 call and return", x.ran(1), 5);
    }

    private static void promise11() {
        DataShrinker x = withEntry(LOAD, 1, 0, 0, OUT, 1, 0, 0);
        tell(x, 0, 1, 8);
        due("11 ahead of any shrink", x.runLaid(0), -1);
        x.shrink();
        due("11 runs", x.runLaid(0), 0);
        dueOut("11 runs", x, 8);
        due("11 no entry", x.runLaid(1), -1);
        due("11 function 12", x.runLaid(12), -1);
        for (int odd : ODD) {
            due("11 odd", x.runLaid(odd), -1);
        }
        dueOut("11 nothing happened", x, 8);
        refusedOnes(x);
        due("11 refused calls change nothing", x.runLaid(0), 0);
        for (int call = 0; call < 9; call++) {
            x.shrink();
            due("11 runs ahead of call " + call, x.runLaid(0), 0);
            changeBy(x, call);
            due("11 not behind call " + call, x.runLaid(0), -1);
        }
        x.shrink();
        x.input(1, 0);
        x.input();
        x.run(0);
        due("11 input and run change nothing", x.runLaid(0), 0);
    }

    private static void refusedOnes(DataShrinker x) {
        x.item(0, 65, 1, 0, false);
        x.bytes(0, 9, 1, 0);
        x.refer(0, 9, 0);
        x.code(0, 99, 0, 0, 0);
        x.clear(12);
        x.entry(0, true);
        x.entry(12, true);
    }

    private static void changeBy(DataShrinker x, int call) {
        switch (call) {
            case 0: due("item", x.item(1, 1, 1, 0, false), true); break;
            case 1: due("bytes", x.bytes(0, 0, 1, row(8)), 1); break;
            case 2: due("refer", x.refer(0, 0, -1), true); break;
            case 3: due("code", x.code(5, RETURN, 0, 0, 0), 1); break;
            case 4: due("clear", x.clear(7), 0); break;
            case 5: due("entry", x.entry(2, true), true); break;
            case 6: due("entry", x.entry(2, false), true); break;
            case 7: due("item none", x.item(9, 0, 1, 0, false), true); break;
            default: due("refer", x.refer(0, 0, 0), true); break;
        }
    }

    private static void promise11Told() {
        DataShrinker x = withEntry(
            IN, 0, 0, 0, LOAD, 1, 0, 0, OUT, 1, 0, 0, LOAD, 1, 1, 0, OUT, 1, 0, 0, LOAD, 1, 2, 0, OUT, 1, 0, 0,
            STORE, 3, 0, 1, STORE, 4, 0, 1, LOAD, 1, 4, 0, OUT, 1, 0, 0, FOLLOW, 1, 5, 3, OUT, 1, 0, 0,
            SAME, 1, 3, 4, OUT, 1, 0, 0, SAME, 1, 3, 3, OUT, 1, 0, 0);
        tell(x, 0, 1, 1, 2, 3);
        tell(x, 1, 1, 2, 3);
        tell(x, 2, 1, 2, 3);
        tell(x, 3, 1, 2, 3);
        tell(x, 4, 1, 2, 3);
        tell(x, 5, 1, 2, 3);
        x.refer(5, 0, 1);
        x.input(1, row(1));
        due("11 as told", x.run(0), 0);
        dueOut("11 as told", x, 2, 3, 3, 3, 2, 0, 1);
        due("11 bytes laid", x.shrink(), 3 + 2 + 2);
        due("11 a written one that none reads is dropped", x.kept(3, 0), 0);
        due("11 as laid", x.runLaid(0), 0);
        dueOut("11 as laid", x, 2, 3, 3, 3, 2, 0, 1);
        due("11 stores last for one run", x.runLaid(0), 0);
        dueOut("11 again as laid", x, 2, 3, 3, 3, 2, 0, 1);
        x.input();
        x.input(1, row(2));
        due("11 the item's own size counts", x.runLaid(0), 1);
        due("11 the item's own size counts", x.ran(3), 3);
        x.clear(0);
        add(x, 0, IN, 0, 0, 0, STORE, 3, 0, 1, OUT, 0, 0, 0);
        due("11 all dropped", x.shrink(), 0);
        due("11 a dropped one is asked for the place", x.runLaid(0), 1);
        x.input();
        due("11 a dropped one has the place", x.runLaid(0), 0);
    }

    private static void promise11Dropped() {
        DataShrinker x = withEntry(
            SAME, 0, 1, 2, OUT, 0, 0, 0, SAME, 0, 1, 1, OUT, 0, 0, 0, SAME, 0, 8, 9, OUT, 0, 0, 0, SAME, 0, 8, 8, OUT, 0, 0, 0,
            SAME, 0, 1, 3, OUT, 0, 0, 0, LOAD, 0, 3, 1);
        tell(x, 1, 1, 5);
        tell(x, 2, 1, 5);
        tell(x, 3, 1, 5);
        due("11 one is kept", x.shrink(), 1);
        due("11 dropped ones compared", x.runLaid(0), 0);
        dueOut("11 the same as itself alone", x, 0, 1, 0, 1, 0);
        due("11 dropped ones compared as told", x.run(0), 0);
        dueOut("11 dropped ones compared as told", x, 0, 1, 0, 1, 0);
    }

    private static void promise12() {
        DataShrinker x = withEntry(SET, 0, 1, 0, OUT, 0, 0, 0, LOAD, 0, 0, 0, OUT, 0, 0, 0);
        for (int what = -1; what < 5; what++) {
            due("12 ahead of any", x.ran(what), -1);
        }
        tell(x, 0, 1, 5, 6);
        x.run(0);
        int[] returned = {2, 4, -1, -1};
        for (int what = 0; what < 4; what++) {
            due("12 returned, " + what, x.ran(what), returned[what]);
        }
        tell(x, 0, 1, 5);
        x.run(0);
        int[] refused = {1, 2, 0, 2};
        for (int what = 0; what < 4; what++) {
            due("12 refused, " + what, x.ran(what), refused[what]);
        }
        due("12 what 4", x.ran(4), -1);
        for (int odd : ODD) {
            due("12 odd", x.ran(odd), -1);
        }
        x = withEntry(CALL, 3, 0, 0, SKIP, 0, -2, 0);
        add(x, 3, OUT, 0, 0, 0, OUT, 0, 0, 0);
        due("12 all out", x.run(0), 2);
        due("12 all out", x.ran(0), 1000);
        due("12 would have been done in", x.ran(2), 0);
        due("12 would have been done", x.ran(3), 0);
        x = withEntry(CALL, 3, 0, 0, SKIP, 0, -2, 0);
        add(x, 3, OUT, 0, 0, 0);
        x.run(0);
        due("12 back in the caller", x.ran(2), 0);
        due("12 the end returns ahead of the step", x.ran(3), 1);
    }

    private static void promise13() {
        DataShrinker x = withEntry(OUT, 0, 0, 0, ADD, 0, 1, 0, SKIP, 1, -3, 0);
        due("13 ahead of any", x.out(0), -1);
        due("13 steps", x.run(0), 2);
        due("13 all of them", x.ran(0), 667);
        due("13 first", x.out(0), 0);
        due("13 hundredth", x.out(99), 99);
        due("13 behind the hundredth", x.out(100), -1);
        for (int odd : ODD) {
            due("13 odd", x.out(odd), -1);
        }
        x.clear(0);
        x.run(0);
        due("13 of the latest run", x.out(0), -1);
    }

    private static void promise14Orders() {
        DataShrinker x = new DataShrinker();
        int[] sizes = {1, 8, 2, 4, 1, 1, 7};
        int[] aligns = {1, 8, 2, 4, 2, 8, 1};
        for (int k = 0; k < 7; k++) {
            x.item(k, sizes[k], aligns[k], 0, true);
            x.bytes(k, 0, 1, row(k + 1));
            x.bytes(k, sizes[k] - 1, 1, row(k + 100));
        }
        due("14 no gap", x.shrink(), 24);
        int[] want = {11, 0, 8, 12, 10, 16, 17};
        for (int k = 0; k < 7; k++) {
            due("14 first by numbers, " + k, x.kept(k, 4), want[k]);
        }
        x = new DataShrinker();
        x.item(2, 3, 2, 0, true);
        x.item(4, 3, 2, 0, true);
        x.item(6, 1, 1, 0, true);
        x.bytes(2, 0, 3, row(1, 2, 3));
        x.bytes(4, 0, 3, row(4, 5, 6));
        x.bytes(6, 0, 1, row(7));
        due("14 a gap filled", x.shrink(), 7);
        due("14 first", x.kept(2, 4), 0);
        due("14 last", x.kept(4, 4), 4);
        due("14 between", x.kept(6, 4), 3);
        x.item(6, 0, 1, 0, true);
        due("14 a gap stays", x.shrink(), 7);
        due("14 by numbers", x.kept(4, 4), 4);
        due("14 nothing changed", x.shrink(), 7);
        x.item(1, 1, 8, 0, true);
        x.bytes(1, 0, 1, row(9));
        due("14 nothing counts behind the last one", x.shrink(), 9);
        due("14 one", x.kept(1, 4), 0);
        due("14 two", x.kept(2, 4), 2);
        due("14 four", x.kept(4, 4), 6);
    }

    private static void promise14Eight() {
        DataShrinker x = new DataShrinker();
        for (int k = 0; k < 8; k++) {
            x.item(k, 2, k % 2 == 0 ? 1 : 4, 0, true);
            x.bytes(k, 0, 2, row(k, k + 50));
        }
        due("14 eight by numbers", x.shrink(), 18);
        due("14 eighth", x.kept(7, 4), 16);
        x.item(6, 0, 1, 0, false);
        due("14 seven in the best order", x.shrink(), 14);
        int[] want = {2, 0, 6, 4, 10, 8, -1, 12};
        for (int k = 0; k < 8; k++) {
            due("14 seven, " + k, x.kept(k, 4), want[k]);
        }
    }

    private static void promise14Again() {
        DataShrinker x = new DataShrinker();
        for (int k = 0; k < 7; k++) {
            x.item(k, k + 1, 1 << k % 4, 0, true);
            x.bytes(k, k, 1, row(k + 1));
        }
        x.shrink();
        for (int k = 3; k < 7; k++) {
            x.item(k, 0, 1, 0, false);
        }
        x.item(0, 1, 1, 0, true);
        x.bytes(0, 0, 1, row(1));
        x.item(1, 3, 2, 0, true);
        x.bytes(1, 2, 1, row(2));
        x.item(2, 5, 4, 0, true);
        x.bytes(2, 4, 1, row(3));
        due("14 fewer than before", x.shrink(), 9);
        due("14 fewer, 1", x.kept(1, 4), 0);
        due("14 fewer, 0", x.kept(0, 4), 3);
        due("14 fewer, 2", x.kept(2, 4), 4);
    }

    private static void promise14Alike() {
        DataShrinker x = new DataShrinker();
        for (int k = 2; k < 6; k++) {
            x.item(k, 3, k == 4 ? 4 : 1, 0, true);
            x.bytes(k, 0, 3, row(1, 2, 3));
        }
        x.item(0, 1, 1, 0, true);
        x.bytes(0, 0, 1, row(200));
        due("14 one for four", x.shrink(), 4);
        due("14 the greatest align of them", x.kept(2, 4), 0);
        due("14 behind it", x.kept(0, 4), 3);
        due("14 stands for none", x.kept(2, 5), -1);
        for (int k = 3; k < 6; k++) {
            due("14 stands for", x.kept(k, 5), 2);
            due("14 address", x.kept(k, 4), 0);
        }
        x.refer(2, 1, 0);
        due("14 one with a reference isn't still", x.shrink(), 7);
        due("14 the next stands", x.kept(5, 5), 3);
        x.bytes(5, 2, 1, row(4));
        x.shrink();
        due("14 not alike by a byte", x.kept(5, 5), -1);
        x.item(4, 2, 1, 0, true);
        x.bytes(4, 0, 2, row(1, 2));
        x.shrink();
        due("14 not alike by size", x.kept(4, 5), -1);
    }

    private static void promise14Tails() {
        DataShrinker x = new DataShrinker();
        int[][] rows = {{3, 4}, {2, 3, 4}, {1, 2, 3, 4}, {4}, {9, 9, 3, 4}};
        for (int k = 0; k < rows.length; k++) {
            x.item(k, rows[k].length, 1, 0, true);
            x.bytes(k, 0, 8, row(rows[k]));
        }
        due("14 tails", x.shrink(), 3 + 4 + 4);
        due("14 within the least one", x.kept(0, 5), 1);
        due("14 within which one is laid", x.kept(1, 5), -1);
        due("14 the one laid within none", x.kept(3, 5), 1);
        due("14 its address", x.kept(0, 4), x.kept(1, 4) + 1);
        due("14 its address", x.kept(3, 4), x.kept(1, 4) + 2);
        x.item(0, 2, 2, 0, true);
        x.bytes(0, 0, 2, row(3, 4));
        x.shrink();
        due("14 align of both", x.kept(0, 5), -1);
        x.item(1, 3, 2, 0, true);
        x.bytes(1, 0, 3, row(2, 3, 4));
        x.shrink();
        due("14 bytes ahead", x.kept(0, 5), -1);
        x.item(4, 4, 4, 0, true);
        x.bytes(4, 0, 4, row(9, 9, 3, 4));
        x.shrink();
        due("14 align divides both", x.kept(0, 5), 4);
        x.item(7, 2, 4, 0, true);
        x.bytes(7, 0, 2, row(3, 4));
        x.shrink();
        due("14 the greatest align of alike ones", x.kept(0, 5), -1);
        due("14 stood for", x.kept(7, 5), 0);
        x.item(7, 2, 1, 0, true);
        x.bytes(7, 0, 2, row(3, 4));
        x.shrink();
        due("14 stood for by one laid within", x.kept(7, 5), 0);
        due("14 stood for by one laid within", x.kept(7, 4), x.kept(4, 4) + 2);
    }

    private static void promise15() {
        DataShrinker x = withEntry(
            SET, 0, 1, 0, LOAD, 1, 0, 0, STORE, 1, 0, 0, SAME, 2, 2, 3, SAME, 2, 4, 4, STORE, 5, 0, 0, LOAD, 1, 5, 2);
        for (int what = 0; what < 7; what++) {
            due("15 ahead of any", x.kept(0, what), -1);
        }
        for (int k = 0; k < 6; k++) {
            tell(x, k, 1, 10 + k, 20 + k);
        }
        x.shrink();
        int[][] want = {
            {1, 1, 0, 0, 0, -1, 2}, {0, 0, 1, 0, -1, -1, -1}, {0, 0, 0, 1, -1, -1, -1}, {0, 0, 0, 1, -1, -1, -1},
            {0, 0, 0, 0, -1, -1, -1}, {1, 1, 1, 0, 2, -1, 2}
        };
        for (int k = 0; k < 6; k++) {
            for (int what = 0; what < 7; what++) {
                due("15 kept(" + k + ", " + what + ")", x.kept(k, what), want[k][what]);
            }
        }
        due("15 what 7", x.kept(0, 7), -1);
        due("15 item 24", x.kept(24, 0), -1);
        due("15 without a size", x.kept(6, 0), -1);
        for (int odd : ODD) {
            due("15 odd what", x.kept(0, odd), -1);
            due("15 odd item", x.kept(odd, 0), -1);
        }
        x.item(0, 0, 1, 0, false);
        x.item(6, 1, 1, 0, false);
        due("15 with a size then", x.kept(0, 0), 1);
        due("15 without a size then", x.kept(6, 0), -1);
    }

    private static void promise15Groups() {
        DataShrinker x = withEntry(LOAD, 0, 4, 0);
        x.item(0, 1, 1, 2, false);
        x.item(4, 1, 1, 2, false);
        x.item(5, 1, 1, 3, false);
        x.item(6, 1, 1, 3, true);
        x.item(7, 1, 1, 1, false);
        x.item(8, 1, 1, 0, false);
        x.item(9, 1, 1, 0, true);
        x.refer(0, 0, 7);
        x.shrink();
        int[] want = {1, -1, -1, -1, 1, 1, 1, 0, 0, 1};
        for (int k = 0; k < want.length; k++) {
            due("15 kept(" + k + ", 0)", x.kept(k, 0), want[k]);
        }
        due("15 no chain to one kept by its group", x.kept(0, 6), -1);
        due("15 no place read", x.kept(0, 1), 0);
    }

    private static void promise15Why() {
        DataShrinker x = withEntry(CALL, 1, 0, 0, CALL, 2, 0, 0);
        add(x, 1, FOLLOW, 0, 0, 0, CALL, 3, 0, 0);
        add(x, 2, LOAD, 0, 3, 0, LOAD, 0, 2, 0, CALL, 4, 0, 0);
        add(x, 3, LOAD, 0, 1, 0, RETURN, 0, 0, 0, CALL, 5, 0, 0);
        for (int k = 0; k < 4; k++) {
            tell(x, k, 1, 0);
        }
        tell(x, 4, 1, 7);
        x.refer(0, 0, 1);
        x.refer(1, 0, 4);
        x.shrink();
        int[] functions = {1, 2, 2, 3, 3, -1};
        for (int f = 0; f < functions.length; f++) {
            due("15 chain to function " + f, x.function(f, 2), functions[f]);
        }
        int[] items = {3, 4, 3, 3, -1};
        for (int k = 0; k < items.length; k++) {
            due("15 chain to item " + k, x.kept(k, 6), items[k]);
        }
        add(x, 2, FOLLOW, 0, 1, 0);
        x.shrink();
        due("15 a shorter one", x.kept(1, 6), 3);
        due("15 by a reference followed", x.kept(4, 6), 4);
        x.entry(2, true);
        x.shrink();
        due("15 from a nearer entry", x.kept(1, 6), 2);
        due("15 from a nearer entry", x.kept(4, 6), 3);
        x = withEntry(SET, 0, 2, 0, CALL, 1, 0, 0);
        add(x, 1, LOAD, 1, 0, 0);
        tell(x, 0, 1, 1, 2);
        x.item(0, 2, 1, 0, true);
        x.shrink();
        due("15 a load that reads no place", x.kept(0, 6), -1);
    }

    private static void promise15Again() {
        DataShrinker x = withEntry(LOAD, 2, 0, 0, STORE, 0, 0, 2, SAME, 1, 0, 1, CALL, 1, 0, 0);
        add(x, 1, OUT, 0, 0, 0);
        tell(x, 0, 1, 5);
        tell(x, 1, 1, 5);
        x.shrink();
        int[] first = {1, 1, 1, 1, 0, -1, 2};
        for (int what = 0; what < first.length; what++) {
            due("15 what is found first, " + what, x.kept(0, what), first[what]);
        }
        x.clear(0);
        x.item(0, 1, 1, 0, true);
        x.shrink();
        int[] want = {1, 0, 0, 0, 0, -1, -1};
        for (int what = 0; what < want.length; what++) {
            due("15 what was is forgotten, " + what, x.kept(0, what), want[what]);
        }
        due("15 compared no more", x.kept(1, 3), 0);
        for (int what = 0; what < 3; what++) {
            due("15 come to no more, " + what, x.function(1, what), what < 2 ? 0 : -1);
        }
        due("15 come to no more", x.values(1, 0, 0), 0);
    }

    private static void promise16Places() {
        DataShrinker x = withEntry(
            SET, 0, 1, 0, SET, 1, 3, 0, LOAD, 2, 5, 0, LOAD, 2, 5, 1, FOLLOW, 2, 6, 0, FOLLOW, 2, 6, 1);
        tell(x, 5, 1, 1, 2, 3, 4);
        tell(x, 6, 1, 5, 6, 7, 8);
        x.refer(6, 1, 5);
        x.refer(6, 3, 6);
        x.shrink();
        for (int place = 0; place < 4; place++) {
            due("16 one, three, and first by the reference: " + place, x.read(5, place), place == 2 ? 0 : 1);
            due("16 one, three, and first by the other: " + place, x.read(6, place), place == 2 ? 0 : 1);
        }
    }

    private static void promise16() {
        DataShrinker x = withEntry(IN, 0, 0, 0, AND, 0, 5, 0, LOAD, 1, 0, 0, FOLLOW, 1, 1, 0);
        due("16 ahead of any", x.read(0, 0), -1);
        x.item(0, 5, 1, 0, false);
        x.item(1, 64, 1, 0, false);
        x.item(2, 2, 1, 0, false);
        x.item(3, 2, 1, 0, true);
        x.refer(1, 4, 2);
        x.refer(1, 3, 2);
        x.shrink();
        int[] want = {1, 1, 0, 0, 1, -1};
        for (int place = 0; place < want.length; place++) {
            due("16 loaded, place " + place, x.read(0, place), want[place]);
        }
        for (int place = 0; place < 64; place++) {
            due("16 followed, place " + place, x.read(1, place), place == 4 ? 1 : 0);
        }
        due("16 first place", x.read(2, 0), 1);
        due("16 only the first", x.read(2, 1), 0);
        due("16 vital, not read", x.read(3, 0), 0);
        due("16 place 64", x.read(1, 64), -1);
        due("16 without a size", x.read(4, 0), -1);
        due("16 item 24", x.read(24, 0), -1);
        for (int odd : ODD) {
            due("16 odd place", x.read(0, odd), -1);
            due("16 odd item", x.read(odd, 0), -1);
        }
        x.item(0, 1, 1, 0, false);
        due("16 the place then", x.read(0, 4), 1);
        x.clear(0);
        add(x, 0, SET, 0, 63, 0, LOAD, 1, 1, 0, SET, 0, 64, 0, LOAD, 1, 1, 0);
        x.shrink();
        due("16 place 63", x.read(1, 63), 1);
        due("16 just that", x.kept(1, 1), 1);
    }

    private static void promise17() {
        DataShrinker x = withEntry(SKIP, 0, 1, 0, OUT, 0, 0, 0, CALL, 1, 0, 0, CALL, 3, 0, 0, OUT, 0, 0, 0);
        due("17 ahead of any", x.function(0, 0), -1);
        add(x, 1, RETURN, 0, 0, 0, OUT, 0, 0, 0);
        add(x, 2, OUT, 0, 0, 0);
        add(x, 3, LOAD, 0, 0, 0, OUT, 0, 0, 0);
        x.entry(11, true);
        x.shrink();
        int[][] want = {{1, 3, 1}, {1, 1, 2}, {0, 0, -1}, {1, 1, 2}, {0, 0, -1}};
        for (int f = 0; f < want.length; f++) {
            for (int what = 0; what < 3; what++) {
                due("17 function(" + f + ", " + what + ")", x.function(f, what), want[f][what]);
            }
        }
        due("17 an empty entry", x.function(11, 0), 1);
        due("17 an empty entry", x.function(11, 1), 0);
        due("17 an empty entry", x.function(11, 2), 1);
        due("17 what 3", x.function(0, 3), -1);
        due("17 function 12", x.function(12, 0), -1);
        for (int odd : ODD) {
            due("17 odd what", x.function(0, odd), -1);
            due("17 odd function", x.function(odd, 0), -1);
        }
        x.clear(3);
        due("17 by the latest shrink", x.function(3, 1), 1);
        x.shrink();
        due("17 an empty one returns", x.function(0, 1), 4);
        due("17 an empty one is kept", x.function(3, 0), 1);
        due("17 a chain to an empty one", x.function(3, 2), 2);
    }

    private static void promise18Sums() {
        DataShrinker x = withEntry(
            IN, 0, 0, 0, AND, 0, 0xA5, 0, ADD, 0, 200, 0, AND, 0, 0x0F, 0, ADD, 0, -9, 0, AND, 0, 0xF0, 0,
            SAME, 1, 2, 3, SAME, 2, 3, 3, SET, 3, 7, 0, AND, 0, 0, 0, OUT, 0, 0, 0);
        due("18 ahead of any", x.values(0, 0, 0), -1);
        x.shrink();
        int[] counts = {1, 256, 16, 16, 4, 4, 2, 2, 2, 2, 1};
        for (int i = 0; i < counts.length; i++) {
            dueValues("18 sums", x, i, counts[i], 1, 1, 1);
        }
        due("18 behind the end", x.values(0, 11, 0), -1);
        due("18 register 4", x.values(0, 0, 4), -1);
        due("18 function 12", x.values(12, 0, 0), -1);
        due("18 an empty function", x.values(1, 0, 0), -1);
        for (int odd : ODD) {
            due("18 odd function", x.values(odd, 0, 0), -1);
            due("18 odd instruction", x.values(0, odd, 0), -1);
            due("18 odd register", x.values(0, 0, odd), -1);
        }
        x.clear(0);
        due("18 by the latest shrink", x.values(0, 1, 0), 256);
        add(x, 1, OUT, 0, 0, 0);
        due("18 not yet told then", x.values(1, 0, 0), -1);
        x.shrink();
        due("18 not come to", x.values(1, 0, 0), 0);
        due("18 none any more", x.values(0, 0, 0), -1);
    }

    private static void promise18Words() {
        DataShrinker x = withEntry(
            IN, 0, 0, 0, AND, 0, 0xC1, 0, ADD, 0, 64, 0, AND, 0, 0x80, 0, IN, 0, 0, 0, AND, 0, 0x41, 0, ADD, 0, 128, 0,
            AND, 0, 0x7F, 0, SET, 0, 1, 0, IN, 1, 0, 0, AND, 0, 0xFF, 0, OUT, 0, 0, 0);
        x.shrink();
        int[] counts = {1, 256, 8, 8, 2, 256, 4, 4, 4, 1, 1, 1};
        for (int i = 0; i < counts.length; i++) {
            dueValues("18 high bits", x, i, counts[i], i > 9 ? 256 : 1, 1, 1);
        }
        x = withEntry(SET, 0, 70, 0, ADD, 0, 64, 0, SKIP, 0, 0, 0, AND, 0, 0x3F, 0, LOAD, 1, 0, 0, OUT, 1, 0, 0);
        x.item(0, 64, 1, 0, false);
        x.shrink();
        due("18 134 and 63", x.read(0, 6), 1);
        due("18 134 and 63", x.kept(0, 1), 1);
        dueValues("18 one value", x, 3, 1, 1, 1, 1);
        x = withEntry(SET, 0, 255, 0, ADD, 0, 3, 0, ADD, 0, -4, 0, ADD, 0, 63, 0, OUT, 0, 0, 0);
        x.shrink();
        for (int i = 1; i < 5; i++) {
            dueValues("18 one value goes round", x, i, 1, 1, 1, 1);
        }
        x = withEntry(SAME, 0, 1, 1, SKIP, 0, 1, 0, SAME, 0, 1, 2, SKIP, 0, 0, 0, OUT, 0, 0, 0);
        x.shrink();
        dueValues("18 one item twice is 1", x, 2, 1);
        dueValues("18 two items are 0", x, 4, 1);
        x = withEntry(SAME, 0, 1, 1, SKIP, 0, 1, 0, RETURN, 0, 0, 0, OUT, 0, 0, 0);
        x.shrink();
        dueValues("18 one item twice is never 0", x, 3, 0);
        x = withEntry(SAME, 0, 1, 2, SKIP, 0, 1, 0, OUT, 0, 0, 0);
        x.shrink();
        dueValues("18 two items are never 1", x, 2, 0);
    }

    private static void promise18Flow() {
        DataShrinker x = withEntry(SET, 1, 3, 0, SKIP, 1, 2, 0, ADD, 1, -1, 0, SKIP, 0, -3, 0, OUT, 1, 0, 0);
        x.shrink();
        dueValues("18 a loop down", x, 1, 1, 4);
        dueValues("18 with the rest on", x, 2, 1, 3);
        dueValues("18 with 0 alone there", x, 4, 1, 1);
        x = withEntry(IN, 1, 0, 0, SKIP, 1, 1, 0, SET, 2, 9, 0, OUT, 1, 0, 0);
        x.shrink();
        dueValues("18 the rest", x, 2, 1, 255, 1, 1);
        dueValues("18 all come together", x, 3, 1, 256, 2, 1);
        x = withEntry(SET, 1, 1, 0, SKIP, 1, 1, 0, RETURN, 0, 0, 0, OUT, 1, 0, 0);
        x.shrink();
        dueValues("18 never 0", x, 3, 0, 0, 0, 0);
        x = withEntry(SKIP, 1, -1, 0, OUT, 1, 0, 0);
        x.shrink();
        dueValues("18 itself for ever", x, 1, 0, 0, 0, 0);
        x = withEntry(ADD, 0, 1, 0, ADD, 1, 64, 0, SKIP, 2, -3, 0);
        x.shrink();
        dueValues("18 all of 256, steps are not asked", x, 0, 256, 4, 1, 1);
    }

    private static void promise18Calls() {
        DataShrinker x = withEntry(
            SET, 0, 1, 0, CALL, 1, 0, 0, OUT, 0, 0, 0, SET, 0, 5, 0, CALL, 1, 0, 0, OUT, 0, 0, 0, CALL, 2, 0, 0, OUT, 0, 0, 0);
        add(x, 1, ADD, 0, 1, 0, SET, 3, 8, 0);
        add(x, 2, CALL, 2, 0, 0, OUT, 0, 0, 0);
        x.shrink();
        due("18 from whatever call", x.values(1, 0, 0), 2);
        dueValues("18 behind each call", x, 2, 2, 1, 1, 1);
        dueValues("18 behind each call", x, 5, 2, 1, 1, 1);
        due("18 goes down for ever", x.values(2, 0, 0), 2);
        due("18 never returns", x.values(2, 1, 0), 0);
        dueValues("18 never returns", x, 7, 0, 0, 0, 0);
        x.entry(1, true);
        x.shrink();
        due("18 an entry's own beginning too", x.values(1, 0, 0), 3);
        dueValues("18 what returns from it", x, 2, 3, 1, 1, 1);
        due("18 0 and 8", x.values(1, 0, 3), 2);
        x = withEntry(ADD, 0, 1, 0, CALL, 0, 0, 0, OUT, 0, 0, 0);
        x.shrink();
        dueValues("18 it never ends", x, 0, 256, 1, 1, 1);
        dueValues("18 it never ends", x, 2, 0, 0, 0, 0);
    }

    private static void promise18Forty() {
        DataShrinker x = withEntry(CALL, 1, 0, 0, OUT, 0, 0, 0);
        for (int i = 0; i < 40; i++) {
            add(x, 1, ADD, 0, 1, 0);
        }
        add(x, 2, CALL, 1, 0, 0, OUT, 0, 0, 0);
        x.entry(2, true);
        x.shrink();
        due("18 fortieth", x.values(1, 39, 0), 1);
        dueValues("18 the end behind the fortieth", x, 1, 1, 1, 1, 1);
        due("18 behind another call of it", x.values(2, 1, 0), 1);
        due("18 all come to", x.function(1, 1), 40);
    }

    /** The order of things is not asked: what is written later, too, may stand where a load reads. */
    private static void promise18Order() {
        DataShrinker x = withEntry(
            LOAD, 1, 5, 0, OUT, 1, 0, 0, FOLLOW, 2, 6, 0, OUT, 2, 0, 0, SET, 3, 7, 0, STORE, 5, 0, 3, SET, 3, 8, 0,
            CALL, 2, 0, 0);
        add(x, 2, STORE, 5, 0, 3);
        tell(x, 5, 1, 1, 2);
        tell(x, 6, 1, 3, 4);
        x.refer(6, 0, 5);
        x.shrink();
        dueValues("18 as told, 7 or 8", x, 1, 1, 3, 1, 1);
        dueValues("18 as told, 7 or 8 by the reference", x, 3, 1, 3, 3, 1);
        x = withEntry(FOLLOW, 2, 6, 0, OUT, 2, 0, 0, SET, 3, 7, 0, STORE, 5, 0, 3);
        tell(x, 5, 1, 1, 2);
        tell(x, 6, 1, 3, 4);
        x.refer(6, 0, 5);
        x.shrink();
        dueValues("18 as told or 7 by the reference alone", x, 1, 1, 1, 2, 1);
        x = withEntry(LOAD, 1, 5, 0, OUT, 1, 0, 0, IN, 2, 0, 0, SET, 3, 7, 0, STORE, 5, 2, 3);
        tell(x, 5, 1, 1, 7);
        x.shrink();
        dueValues("18 at one of two places it is new", x, 1, 1, 2, 1, 1);
        x.clear(0);
        add(x, 0, LOAD, 1, 5, 0, OUT, 1, 0, 0);
        x.shrink();
        dueValues("18 written no more", x, 1, 1, 1, 1, 1);
        x = withEntry(SET, 0, 1, 0, LOAD, 1, 2, 0, OUT, 1, 0, 0, FOLLOW, 1, 2, 0, OUT, 1, 0, 0, IN, 2, 0, 0, STORE, 3, 0, 2);
        tell(x, 2, 1, 11, 12);
        tell(x, 3, 1, 13, 14, 15);
        x.refer(2, 1, 3);
        x.shrink();
        dueValues("18 another item is written", x, 2, 1, 1, 1, 1);
        dueValues("18 another place is written", x, 4, 1, 1, 1, 1);
    }

    private static void promise18Memory() {
        DataShrinker x = withEntry(
            LOAD, 1, 0, 0, OUT, 1, 0, 0, FOLLOW, 2, 1, 0, OUT, 2, 0, 0, ADD, 1, 1, 0, AND, 1, 7, 0, STORE, 0, 0, 1,
            SKIP, 3, -8, 0);
        tell(x, 0, 1, 6, 9);
        tell(x, 1, 1, 0);
        x.refer(1, 0, 0);
        x.shrink();
        dueValues("18 a byte that is written", x, 1, 1, 8);
        dueValues("18 the same by a reference", x, 3, 1, 8, 8);
        x = withEntry(IN, 0, 0, 0, LOAD, 1, 0, 0, OUT, 1, 0, 0, STORE, 0, 0, 2, OUT, 0, 0, 0);
        tell(x, 0, 1, 6, 9, 6);
        x.shrink();
        dueValues("18 the byte at each place, or what is written", x, 2, 256, 3);
        dueValues("18 the place is not narrowed", x, 4, 256, 3);
        x = withEntry(SET, 0, 3, 0, LOAD, 1, 0, 0, OUT, 1, 0, 0);
        tell(x, 0, 1, 6, 9, 6);
        x.shrink();
        dueValues("18 no place, nothing goes on", x, 2, 0, 0);
        x = withEntry(SET, 0, 3, 0, STORE, 0, 0, 1, OUT, 1, 0, 0);
        tell(x, 0, 1, 6, 9, 6);
        x.shrink();
        dueValues("18 no place to store, nothing goes on", x, 2, 0, 0);
        due("18 not written", x.kept(0, 2), 0);
        x = withEntry(FOLLOW, 1, 0, 0, OUT, 1, 0, 0);
        tell(x, 0, 1, 6, 9, 6);
        x.refer(0, 1, 0);
        x.shrink();
        dueValues("18 no reference, nothing goes on", x, 1, 0, 0);
        due("18 not read", x.kept(0, 1), 0);
    }

    private static void promise19() {
        DataShrinker x = new DataShrinker();
        due("19 ahead of any", x.octet(0), -1);
        x.item(0, 1, 1, 0, true);
        x.bytes(0, 0, 1, row(255));
        x.item(1, 2, 4, 0, true);
        x.bytes(1, 0, 2, row(8, 9));
        x.item(2, 2, 4, 0, true);
        x.bytes(2, 0, 2, row(6, 7));
        due("19 bytes", x.shrink(), 6);
        dueOctets("19 a gap", x, 8, 9, 255, 0, 6, 7);
        x.item(0, 3, 1, 0, true);
        x.bytes(0, 0, 3, row(1, 2, 3));
        dueOctets("19 not laid yet", x, 8, 9, 255, 0, 6, 7);
        due("19 bytes", x.shrink(), 9);
        dueOctets("19 laid anew", x, 8, 9, 0, 0, 6, 7, 1, 2, 3);
        for (int odd : ODD) {
            due("19 odd", x.octet(odd), -1);
        }
        x.item(0, 0, 1, 0, true);
        x.item(2, 0, 1, 0, true);
        x.shrink();
        dueOctets("19 fewer bytes", x, 8, 9);
        x.clear(0);
        add(x, 0, STORE, 1, 0, 3, LOAD, 1, 1, 0, OUT, 1, 0, 0);
        x.entry(0, true);
        x.shrink();
        x.runLaid(0);
        due("19 a run's store is the run's alone", x.octet(0), 8);
    }

    private static void promise20() {
        DataShrinker x = withEntry(LOAD, 0, 0, 0);
        for (int what = -1; what < 8; what++) {
            due("20 ahead of any", x.shrunk(what), -1);
        }
        tell(x, 0, 1, 1, 2, 3);
        x.item(1, 3, 8, 0, true);
        x.bytes(1, 0, 3, row(1, 2, 3));
        x.item(2, 2, 1, 0, true);
        x.bytes(2, 0, 2, row(2, 3));
        x.item(3, 2, 1, 0, true);
        x.bytes(3, 0, 2, row(2, 3));
        x.item(4, 1, 1, 0, true);
        x.refer(4, 0, 5);
        tell(x, 5, 1, 1, 2, 3, 4, 5, 6);
        tell(x, 6, 1, 1, 2);
        x.refer(4, 0, 6);
        x.shrink();
        int[] want = {5, 2, 8, 2, 2, 1, 4};
        for (int what = 0; what < want.length; what++) {
            due("20 shrunk(" + what + ")", x.shrunk(what), want[what]);
        }
        due("20 what 7", x.shrunk(7), -1);
        for (int odd : ODD) {
            due("20 odd", x.shrunk(odd), -1);
        }
        x.item(4, 0, 1, 0, false);
        x.item(5, 0, 1, 0, false);
        for (int what = 0; what < want.length; what++) {
            due("20 of the latest shrink(), " + what, x.shrunk(what), want[what]);
        }
    }
}
