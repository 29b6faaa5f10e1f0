/** Runs, of the program as told and as laid: part II, the end of part IV, and promises 10 to 13. */
final class SentencesOfRuns extends Sentences {
    private SentencesOfRuns() {
    }

    static void all() {
        begin();
        returned();
        refused();
        steps();
        stepsAheadOfOthers();
        depth();
        firstHundred();
        howItEnds();
        noEntry();
        asLaid();
        notAsLaid();
        keptAlone();
        loadAndFollowLaid();
        storeLaid();
        sameLaid();
        ranOut();
        ranDone();
        ranWhere();
        ranNone();
        outBytes();
    }

    private static void begin() {
        sentence(10, "A RUN from an ENTRY: REGISTERS 0, the bytes as told, INPUT from its begin.");
        DataShrinker x = withEntry(
            OUT, 0, 0, 0, OUT, 1, 0, 0, OUT, 2, 0, 0, OUT, 3, 0, 0, LOAD, 1, 5, 0, OUT, 1, 0, 0, IN, 2, 0, 0, OUT, 2, 0, 0,
            STORE, 5, 0, 2, SET, 0, 9, 0, SET, 3, 9, 0, LOAD, 1, 5, 0);
        tell(x, 5, 1, 7);
        x.input(2, row(44, 55));
        x.shrink();
        for (int n = 0; n < 2; n++) {
            due("refused at its last", x.run(0), 1);
            dueOut("as told", x, 0, 0, 0, 0, 7, 44);
            due("refused at its last", x.runLaid(0), 1);
            dueOut("as laid", x, 0, 0, 0, 0, 7, 44);
        }
    }

    private static void returned() {
        sentence(10, "It ends: 0 the ENTRY RETURNS;");
        DataShrinker x = withEntry(ADD, 0, 1, 0, ADD, 0, -3, 0, SKIP, 0, 2, 0, ADD, 0, 3, 0, CALL, 0, 0, 0, OUT, 0, 0, 0);
        due("not when the same function returns to itself", x.run(0), 0);
        dueOut("three are open", x, 0, 0, 0);
        x = new DataShrinker();
        add(x, 9, CALL, 7, 0, 0, ADD, 0, 1, 0, OUT, 0, 0, 0);
        add(x, 7, CALL, 3, 0, 0, ADD, 0, 2, 0, OUT, 0, 0, 0);
        add(x, 3, SET, 0, 100, 0, OUT, 0, 0, 0);
        x.entry(9, true);
        due("each returns to the one that called it", x.run(9), 0);
        dueOut("each returns to the one that called it", x, 100, 102, 103);
        x = withEntry(OUT, 0, 0, 0, RETURN, 0, 0, 0, OUT, 0, 0, 0);
        due("in its midst", x.run(0), 0);
        due("in its midst", x.ran(0), 1);
        x.clear(0);
        due("at once", x.run(0), 0);
        due("at once", x.ran(1), 0);
    }

    /** How an instruction ends that takes the item of that size at that place; references lead from all places. */
    private static int endOf(int op, int size, int place) {
        DataShrinker x = withEntry(SET, 0, place, 0);
        add(x, 0, op, op == STORE ? 6 : 1, op == STORE ? 0 : 6, op == STORE ? 1 : 0);
        x.item(5, 64, 1, 0, false);
        x.item(6, size, 1, 0, false);
        x.item(7, 64, 1, 0, false);
        for (int n = 0; n < size; n++) {
            x.refer(6, n, 5);
        }
        int end = x.run(0);
        due("refused, so not done", x.ran(1), end == 1 ? 1 : 2);
        due("in function", x.ran(2), end == 1 ? 0 : -1);
        due("instruction", x.ran(3), end == 1 ? 1 : -1);
        x.shrink();
        due("as laid", x.runLaid(0), end);
        return end;
    }

    private static void refused() {
        sentence(
            10, "1 REFUSED: LOAD, STORE or FOLLOW at a place that the ITEM has not, FOLLOW where no REFERENCE is;");
        for (int op : new int[] {LOAD, STORE, FOLLOW}) {
            for (int size : new int[] {1, 2, 63, 64}) {
                due("op " + op + " at the first place", endOf(op, size, 0), 0);
                due("op " + op + " at the last place", endOf(op, size, size - 1), 0);
                due("op " + op + " behind the last place", endOf(op, size, size), 1);
                due("op " + op + " far behind", endOf(op, size, 255), 1);
            }
            due("op " + op + " without a size", endOf(op, 0, 0), 1);
        }
        DataShrinker x = withEntry(SET, 0, 1, 0, FOLLOW, 1, 6, 0, OUT, 1, 0, 0);
        tell(x, 6, 1, 9, 8, 7);
        x.refer(6, 0, 6);
        x.refer(6, 2, 6);
        due("none is between two", x.run(0), 1);
        due("none is between two", x.ran(3), 1);
        x.refer(6, 1, 6);
        due("one is", x.run(0), 0);
    }

    /**
     * Instructions of a function that are done in n * (3 + filling) steps and then end; filling and all must be
     * short enough for one function. Register 3 must be 0.
     */
    private static void addLoop(DataShrinker x, int f, int n, int filling) {
        add(x, f, SET, 1, n, 0, ADD, 1, -1, 0);
        for (int i = 0; i < filling; i++) {
            add(x, f, OUT, 1, 0, 0);
        }
        add(x, f, SKIP, 1, 1, 0, SKIP, 3, -3 - filling, 0);
    }

    private static void steps() {
        sentence(10, "2 STEPS: 2000 INSTRUCTIONS are done, and one more would be;");
        DataShrinker x = withEntry();
        addLoop(x, 0, 200, 7);
        due("2000 and no more", x.run(0), 0);
        due("2000 and no more", x.ran(1), 2000);
        due("2000 and no more", x.ran(2), -1);
        add(x, 0, OUT, 1, 0, 0);
        due("2001 would be", x.run(0), 2);
        due("2001 would be", x.ran(1), 2000);
        due("2001 would be", x.ran(0), 1400);
        due("2001 would be", x.ran(2), 0);
        due("2001 would be", x.ran(3), 11);
        x.shrink();
        due("2001 would be, as laid", x.runLaid(0), 2);
        due("2001 would be, as laid", x.ran(1), 2000);
        x = withEntry();
        addLoop(x, 0, 200, 7);
        add(x, 0, RETURN, 0, 0, 0);
        due("a RETURN would be one more", x.run(0), 2);
        due("a RETURN would be one more", x.ran(3), 11);
        x = withEntry(CALL, 1, 0, 0);
        addLoop(x, 1, 222, 6);
        add(x, 1, OUT, 1, 0, 0);
        due("2000, and the ends of two functions", x.run(0), 0);
        due("2000, and the ends of two functions", x.ran(1), 2000);
        add(x, 0, OUT, 0, 0, 0);
        due("one more in the caller", x.run(0), 2);
        due("one more in the caller", x.ran(2), 0);
        due("one more in the caller", x.ran(3), 1);
        add(x, 1, OUT, 1, 0, 0);
        due("one more in the function", x.run(0), 2);
        due("one more in the function", x.ran(2), 1);
        due("one more in the function", x.ran(3), 11);
    }

    private static void stepsAheadOfOthers() {
        DataShrinker x = withEntry();
        addLoop(x, 0, 200, 7);
        add(x, 0, LOAD, 0, 0, 0);
        due("though it would be refused", x.run(0), 2);
        due("though it would be refused", x.ran(3), 11);
        x = withEntry(ADD, 0, 1, 0, ADD, 0, -16, 0, SKIP, 0, 2, 0, ADD, 0, 16, 0, CALL, 0, 0, 0);
        addLoop(x, 0, 62, 28);
        add(x, 0, CALL, 0, 0, 0);
        due("though it would be too deep", x.run(0), 2);
        due("though it would be too deep", x.ran(1), 2000);
        due("though it would be too deep", x.ran(3), 37);
        x = withEntry(ADD, 0, 1, 0, ADD, 0, -16, 0, SKIP, 0, 2, 0, ADD, 0, 16, 0, CALL, 0, 0, 0);
        addLoop(x, 0, 62, 27);
        add(x, 0, CALL, 0, 0, 0);
        due("too deep with steps left", x.run(0), 3);
        due("too deep with steps left", x.ran(1), 1938);
    }

    private static void depth() {
        sentence(10, "3 DEPTH: a CALL with 16 FUNCTIONS open (the ENTRY is one).");
        for (int open = 1; open <= 20; open++) {
            DataShrinker x = withEntry(
                ADD, 0, 1, 0, ADD, 0, -open, 0, SKIP, 0, 2, 0, ADD, 0, open, 0, CALL, 0, 0, 0, OUT, 0, 0, 0);
            boolean ends = open <= 16;
            due("open " + open, x.run(0), ends ? 0 : 3);
            due("open " + open, x.ran(0), ends ? open : 0);
            due("open " + open, x.ran(1), ends ? 6 * open - 2 : 79);
            due("open " + open, x.ran(2), ends ? -1 : 0);
            due("open " + open, x.ran(3), ends ? -1 : 4);
            x.shrink();
            due("as laid, open " + open, x.runLaid(0), ends ? 0 : 3);
            due("as laid, open " + open, x.ran(1), ends ? 6 * open - 2 : 79);
        }
        DataShrinker x = withEntry(CALL, 1, 0, 0);
        for (int n = 0; n < 39; n++) {
            add(x, 0, CALL, 2, 0, 0);
        }
        due("one behind the other, of empty ones", x.run(0), 0);
        due("one behind the other, of empty ones", x.ran(1), 40);
        x = withEntry(ADD, 0, 1, 0, ADD, 0, -16, 0, SKIP, 0, 2, 0, ADD, 0, 16, 0, CALL, 0, 0, 0, CALL, 1, 0, 0);
        due("an empty one is open too", x.run(0), 3);
        due("an empty one is open too", x.ran(1), 78);
    }

    private static void firstHundred() {
        sentence(13, "What is OUT is kept, the first 100 bytes.");
        for (int count = 99; count <= 101; count++) {
            DataShrinker x = withEntry(SET, 0, count, 0, OUT, 0, 0, 0, ADD, 0, -1, 0, SKIP, 0, 1, 0, SKIP, 3, -4, 0);
            due("run", x.run(0), 0);
            due("all of " + count, x.ran(0), count);
            due("first of " + count, x.out(0), count);
            due("99th of " + count, x.out(98), count - 98);
            due("100th of " + count, x.out(99), count == 99 ? -1 : count - 99);
            due("101st of " + count, x.out(100), -1);
        }
    }

    /** The entries 8 to 11 end with 0 to 3. */
    private static DataShrinker fourEnds() {
        DataShrinker x = new DataShrinker();
        add(x, 8, OUT, 0, 0, 0);
        add(x, 9, OUT, 0, 0, 0, LOAD, 0, 0, 0);
        add(x, 10, OUT, 0, 0, 0, SKIP, 0, -1, 0);
        add(x, 11, CALL, 11, 0, 0);
        for (int f = 8; f < 12; f++) {
            x.entry(f, true);
        }
        return x;
    }

    private static void howItEnds() {
        sentence(10, "A RUN from an ENTRY of the program as told: how it ends;");
        DataShrinker x = fourEnds();
        for (int f = 8; f < 12; f++) {
            due("end of " + f, x.run(f), f - 8);
        }
        x.item(0, 1, 1, 0, false);
        due("told since", x.run(9), 0);
        x.shrink();
        x.bytes(0, 0, 1, row(5));
        add(x, 9, OUT, 0, 0, 0);
        due("as told, not as laid", x.run(9), 0);
        dueOut("as told, not as laid", x, 0, 5);
        tellVital(x, 1, 8, 1);
        tellVital(x, 2, 1, 9, 5);
        x.shrink();
        due("its address is another one", x.kept(0, 4), 2);
        due("as laid", x.runLaid(9), 0);
        dueOut("as laid", x, 0, 5);
        due("as told behind that", x.run(9), 0);
        dueOut("as told behind that", x, 0, 5);
    }

    private static void noEntry() {
        sentence(10, "NONE, and nothing happens, if it is no ENTRY.");
        DataShrinker x = withEntry(SET, 0, 9, 0, OUT, 0, 0, 0, LOAD, 0, 0, 0);
        add(x, 1, OUT, 0, 0, 0);
        add(x, 11, OUT, 0, 0, 0);
        x.shrink();
        x.run(0);
        due("1", x.run(1), -1);
        due("11", x.run(11), -1);
        due("12", x.run(12), -1);
        for (int odd : ODD) {
            due("odd", x.run(odd), -1);
        }
        dueOut("of the latest run yet", x, 9);
        due("of the latest run yet", x.ran(1), 2);
        due("of the latest run yet", x.ran(2), 0);
        due("of the latest run yet", x.ran(3), 2);
        x.entry(0, false);
        due("no more", x.run(0), -1);
        dueOut("of the latest run yet", x, 9);
    }

    private static void asLaid() {
        sentence(11, "A RUN from an ENTRY of the program as it was LAID by the latest shrink(): likewise;");
        DataShrinker x = fourEnds();
        x.shrink();
        int[] done = {1, 1, 2000, 15};
        for (int f = 8; f < 12; f++) {
            due("end of " + f, x.runLaid(f), f - 8);
            due("done of " + f, x.ran(1), done[f - 8]);
            due("out of " + f, x.ran(0), f == 11 ? 0 : 1);
        }
        tell(x, 0, 1, 5);
        add(x, 9, OUT, 0, 0, 0);
        x.shrink();
        x.bytes(0, 0, 1, row(6));
        x.shrink();
        due("by the latest", x.runLaid(9), 0);
        dueOut("by the latest", x, 0, 6);
    }

    private static void notAsLaid() {
        sentence(
            11,
            "NONE, and nothing happens, if it is no ENTRY, ahead of any shrink(), or if since then item(), bytes(),"
                + " refer(), code() or clear() was not refused, or entry() changed something.");
        DataShrinker x = withEntry(LOAD, 1, 0, 0, OUT, 1, 0, 0);
        tell(x, 0, 1, 8);
        due("ahead of any", x.runLaid(0), -1);
        due("nothing happened", x.ran(0), -1);
        x.shrink();
        due("behind one", x.runLaid(0), 0);
        for (int f = 1; f <= 12; f++) {
            due("no entry " + f, x.runLaid(f), -1);
        }
        for (int odd : ODD) {
            due("odd entry", x.runLaid(odd), -1);
        }
        dueOut("nothing happened", x, 8);
        for (int call = 0; call < CHANGES; call++) {
            x.shrink();
            due("ahead of call " + call, x.runLaid(0), 0);
            due("call " + call + " is not refused", change(x, call), true);
            due("behind call " + call, x.runLaid(0), -1);
            dueOut("behind call " + call, x, 8);
        }
        for (int call = 0; call < REFUSALS; call++) {
            x.shrink();
            due("call " + call + " is refused", refusal(x, call), true);
            due("behind refused call " + call, x.runLaid(0), 0);
        }
        x.shrink();
        x.input(8, 0);
        x.input();
        x.run(0);
        x.runLaid(0);
        due("the rest changes nothing", x.runLaid(0), 0);
    }

    private static final int CHANGES = 12;

    /** Calls that are not refused, most of which leave everything as it is; whether the answer is the one due. */
    private static boolean change(DataShrinker x, int call) {
        switch (call) {
            case 0: return x.item(1, 1, 1, 0, false);
            case 1: return x.item(9, 0, 1, 0, false);
            case 2: return x.bytes(0, 0, 1, row(8)) == 1;
            case 3: return x.bytes(0, 0, 8, row(8)) == 1;
            case 4: return x.refer(0, 0, -1);
            case 5: return x.refer(1, 0, 0);
            case 6: return x.refer(1, 0, 0);
            case 7: return x.code(11, RETURN, 0, 0, 0) == 1;
            case 8: return x.clear(11) == 1;
            case 9: return x.clear(11) == 0;
            case 10: return x.entry(11, true);
            default: return x.entry(5, true) && x.entry(5, false);
        }
    }

    private static final int REFUSALS = 10;

    private static boolean refusal(DataShrinker x, int call) {
        switch (call) {
            case 0: return !x.item(0, 65, 1, 0, false);
            case 1: return !x.item(24, 0, 1, 0, false);
            case 2: return x.bytes(0, 1, 1, 0) == -1;
            case 3: return x.bytes(0, 0, 0, 0) == -1;
            case 4: return !x.refer(0, 0, 23);
            case 5: return !x.refer(0, 1, -1);
            case 6: return x.code(0, LOAD, 0, 24, 0) == -1;
            case 7: return x.clear(12) == -1;
            case 8: return !x.entry(0, true);
            default: return !x.entry(12, true) && !x.entry(4, false);
        }
    }

    private static void keptAlone() {
        sentence(11, "The program as LAID: KEPT things alone;");
        DataShrinker x = withEntry(STORE, 6, 0, 0, LOAD, 2, 5, 0, OUT, 2, 0, 0);
        add(x, 3, LOAD, 2, 4, 0);
        tell(x, 4, 8, 40, 41);
        tell(x, 5, 1, 50, 51);
        tell(x, 6, 1, 60, 61);
        due("bytes", x.shrink(), 2);
        dueOctets("of the kept one", x, 50, 51);
        due("dropped", x.kept(4, 4), -1);
        due("dropped", x.kept(6, 4), -1);
        due("runs", x.runLaid(0), 0);
        dueOut("runs", x, 50);
    }

    private static void loadAndFollowLaid() {
        sentence(11, "LOAD, FOLLOW read at addresses;");
        DataShrinker x = withEntry(
            IN, 0, 0, 0, LOAD, 1, 3, 0, OUT, 1, 0, 0, LOAD, 1, 4, 0, OUT, 1, 0, 0, LOAD, 1, 5, 0, OUT, 1, 0, 0,
            FOLLOW, 1, 6, 0, OUT, 1, 0, 0, FOLLOW, 1, 7, 0, OUT, 1, 0, 0);
        tell(x, 3, 8, 1, 2, 3, 4);
        tell(x, 4, 2, 3, 4);
        tell(x, 5, 1, 1, 2, 3, 4);
        tell(x, 6, 4, 30, 31);
        tell(x, 7, 4, 3, 4);
        x.refer(6, 0, 5);
        x.refer(6, 1, 4);
        x.refer(7, 0, 4);
        x.refer(7, 1, 7);
        due("bytes", x.shrink(), 10);
        due("stood for", x.kept(5, 5), 3);
        due("laid within", x.kept(4, 5), 3);
        x.input(1, row(0));
        due("place 0", x.runLaid(0), 0);
        dueOut("place 0", x, 1, 3, 1, 1, 3);
        x.input();
        x.input(1, row(1));
        due("place 1", x.runLaid(0), 0);
        dueOut("place 1", x, 2, 4, 2, 3, 3);
        x.input();
        x.input(1, row(2));
        due("its own size counts, not what it is laid within", x.runLaid(0), 1);
        dueOut("its own size counts, not what it is laid within", x, 3);
        due("its own size counts, not what it is laid within", x.ran(3), 3);
    }

    private static void storeLaid() {
        sentence(11, "STORE writes there (to a DROPPED ITEM it asks for the place alone);");
        DataShrinker x = withEntry(
            IN, 0, 0, 0, SET, 1, 99, 0, STORE, 4, 0, 1, STORE, 8, 0, 1, SET, 0, 1, 0, LOAD, 2, 3, 0, OUT, 2, 0, 0,
            LOAD, 2, 4, 3, OUT, 2, 0, 0, LOAD, 2, 4, 0, OUT, 2, 0, 0, LOAD, 2, 5, 3, OUT, 2, 0, 0);
        for (int k = 3; k < 6; k++) {
            tell(x, k, 1, 10 * k, 10 * k + 1);
        }
        tell(x, 8, 1, 80, 81);
        due("bytes", x.shrink(), 6);
        due("dropped", x.kept(8, 0), 0);
        due("written", x.kept(8, 2), 1);
        due("place 0", x.runLaid(0), 0);
        dueOut("place 0", x, 31, 99, 41, 50);
        dueOctets("in the run alone", x, 30, 31, 40, 41, 50, 51);
        x.input(1, row(1));
        due("place 1", x.runLaid(0), 0);
        dueOut("place 1", x, 31, 40, 99, 50);
        x.input();
        x.input(1, row(2));
        due("no place 2", x.runLaid(0), 1);
        due("no place 2", x.ran(3), 2);
        x.item(8, 1, 1, 0, false);
        x.shrink();
        x.input();
        x.input(1, row(1));
        due("no place 1 of the dropped one", x.runLaid(0), 1);
        due("no place 1 of the dropped one", x.ran(3), 3);
        x.item(8, 0, 1, 0, false);
        x.shrink();
        x.input();
        due("no place without a size", x.runLaid(0), 1);
        due("no place without a size", x.ran(3), 3);
    }

    private static void sameLaid() {
        sentence(11, "SAME compares addresses (a DROPPED one is the same as itself alone).");
        DataShrinker x = withEntry(
            SAME, 0, 3, 4, OUT, 0, 0, 0, SAME, 0, 3, 3, OUT, 0, 0, 0, SAME, 0, 5, 6, OUT, 0, 0, 0,
            SAME, 0, 5, 5, OUT, 0, 0, 0, SAME, 0, 3, 5, OUT, 0, 0, 0, SAME, 0, 5, 3, OUT, 0, 0, 0,
            SAME, 0, 7, 7, OUT, 0, 0, 0, SAME, 0, 7, 9, OUT, 0, 0, 0, SAME, 0, 10, 10, OUT, 0, 0, 0,
            LOAD, 0, 3, 1, OUT, 0, 0, 0, LOAD, 0, 4, 1);
        for (int k = 3; k < 7; k++) {
            tell(x, k, 1, 8);
        }
        tellVital(x, 10, 1, 8);
        due("kept ones that are compared stand apart", x.shrink(), 3);
        due("dropped", x.kept(5, 0), 0);
        due("dropped", x.kept(6, 0), 0);
        due("runs", x.runLaid(0), 0);
        dueOut("as laid", x, 0, 1, 0, 1, 0, 0, 1, 0, 1, 8);
        due("runs", x.run(0), 0);
        dueOut("as told", x, 0, 1, 0, 1, 0, 0, 1, 0, 1, 8);
    }

    private static void ranOut() {
        sentence(12, "Of the latest RUN what 0: how many bytes were OUT (all of them),");
        DataShrinker x = withEntry(OUT, 0, 0, 0, SKIP, 0, -2, 0);
        x.run(0);
        due("far more than a hundred", x.ran(0), 1000);
        x.entry(1, true);
        x.run(1);
        due("none", x.ran(0), 0);
        x.shrink();
        x.runLaid(0);
        due("of a run as laid", x.ran(0), 1000);
        x.run(0);
        x.runLaid(1);
        due("none of a run as laid", x.ran(0), 0);
    }

    private static void ranDone() {
        sentence(12, "1: INSTRUCTIONS done (the one that was refused not),");
        DataShrinker x = withEntry(LOAD, 0, 0, 0);
        x.run(0);
        due("the first was refused", x.ran(1), 0);
        x.clear(0);
        add(x, 0, SET, 0, 0, 0, OUT, 0, 0, 0, FOLLOW, 0, 0, 0, OUT, 0, 0, 0);
        x.run(0);
        due("the third was refused", x.ran(1), 2);
        x.clear(0);
        x.run(0);
        due("none to do", x.ran(1), 0);
        add(x, 0, CALL, 0, 0, 0);
        x.run(0);
        due("the sixteenth was too deep", x.ran(1), 15);
        x.clear(0);
        add(x, 0, SKIP, 1, -1, 0);
        x.run(0);
        due("steps", x.ran(1), 2000);
        x.clear(0);
        add(x, 0, SKIP, 1, 1, 0, OUT, 0, 0, 0, RETURN, 0, 0, 0, OUT, 0, 0, 0);
        x.run(0);
        due("a skip and a return are done, what they leave out is not", x.ran(1), 2);
    }

    private static void ranWhere() {
        sentence(
            12,
            "2: the FUNCTION in which it ended, 3: the number there of the INSTRUCTION that was refused,"
                + " or would have been done (of end 0: NONE both).");
        DataShrinker x = withEntry(CALL, 11, 0, 0);
        for (int n = 0; n < 39; n++) {
            add(x, 11, ADD, 1, 0, 0);
        }
        due("end 0", x.run(0), 0);
        due("end 0", x.ran(2), -1);
        due("end 0", x.ran(3), -1);
        add(x, 11, STORE, 9, 0, 0);
        due("end 1", x.run(0), 1);
        due("end 1", x.ran(2), 11);
        due("end 1", x.ran(3), 39);
        x.clear(11);
        add(x, 11, OUT, 0, 0, 0, SKIP, 0, -2, 0);
        due("end 2", x.run(0), 2);
        due("end 2", x.ran(2), 11);
        due("end 2", x.ran(3), 1);
        x.clear(11);
        add(x, 11, OUT, 0, 0, 0, CALL, 11, 0, 0);
        due("end 3", x.run(0), 3);
        due("end 3", x.ran(2), 11);
        due("end 3", x.ran(3), 1);
        x.clear(11);
        due("end 0 again", x.run(0), 0);
        due("end 0 again", x.ran(2), -1);
        due("end 0 again", x.ran(3), -1);
        add(x, 0, LOAD, 0, 9, 0);
        due("back in the entry", x.run(0), 1);
        due("back in the entry", x.ran(2), 0);
        due("back in the entry", x.ran(3), 1);
    }

    private static void ranNone() {
        sentence(12, "NONE ahead of any, or for another what.");
        DataShrinker x = withEntry(OUT, 0, 0, 0);
        for (int what = -1; what <= 4; what++) {
            due("ahead of any", x.ran(what), -1);
        }
        x.run(1);
        x.shrink();
        x.runLaid(1);
        for (int what = 0; what < 4; what++) {
            due("behind refused ones alone", x.ran(what), -1);
        }
        x.runLaid(0);
        due("one as laid counts", x.ran(1), 1);
        due("what 4", x.ran(4), -1);
        for (int odd : ODD) {
            due("odd what", x.ran(odd), -1);
        }
    }

    private static void outBytes() {
        sentence(13, "Byte i of what was OUT in the latest RUN (the first 100); NONE.");
        DataShrinker x = withEntry(OUT, 0, 0, 0, ADD, 0, 1, 0, SKIP, 1, -3, 0);
        for (int i = -1; i <= 100; i++) {
            due("ahead of any", x.out(i), -1);
        }
        x.run(0);
        for (int i = 0; i < 100; i++) {
            due("byte " + i, x.out(i), i);
        }
        due("byte 100", x.out(100), -1);
        for (int odd : ODD) {
            due("odd", x.out(odd), -1);
        }
        x.clear(0);
        add(x, 0, SET, 0, 200, 0, OUT, 0, 0, 0);
        due("of the run that was", x.out(0), 0);
        x.run(0);
        dueOut("one byte", x, 200);
        x.clear(0);
        x.run(0);
        due("none", x.out(0), -1);
    }
}
