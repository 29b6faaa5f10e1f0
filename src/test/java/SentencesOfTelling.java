/** What is told: the terms of items, functions, registers and instructions, and promises 1 to 9. */
final class SentencesOfTelling extends Sentences {
    private SentencesOfTelling() {
    }

    static void all() {
        lastCall();
        none();
        newObject();
        itemNumbers();
        sizes();
        aligns();
        groups();
        vital();
        references();
        functions();
        entries();
        registers();
        setAddAnd();
        loadStore();
        callAndSkip();
        outReturnIn();
        sameAndFollow();
        operands();
        skipToTheEnd();
        endOfFunction();
        itemAnew();
        itemRefused();
        itemNone();
        bytesGo();
        bytesRefused();
        referGoes();
        referRefused();
        codeCounts();
        codeRefused();
        clearing();
        entryChanges();
        inputComes();
        inputRefused();
        inputEmpties();
    }

    private static void lastCall() {
        sentence(1, "An object is used for at most 512 calls after it has been made; what later calls answer is free.");
        DataShrinker x = new DataShrinker();
        due("1st", x.item(0, 1, 1, 0, true), true);
        due("2nd", x.entry(0, true), true);
        for (int n = 3; n <= 509; n++) {
            due("call " + n, x.bytes(0, 0, 1, row(n & 255)), 1);
        }
        due("510th", x.shrink(), 1);
        due("511th", x.runLaid(0), 0);
        due("512th", x.octet(0), 509 & 255);
    }

    private static void none() {
        sentence(1, "The constants: `NONE = -1`: None.");
        due("NONE", DataShrinker.NONE, -1);
    }

    private static void newObject() {
        sentence(1, "No ITEMS, FUNCTIONS empty, no ENTRIES, no INPUT.");
        DataShrinker other = withEntry(OUT, 0, 0, 0);
        other.item(0, 1, 1, 0, true);
        other.input(1, 0);
        DataShrinker x = new DataShrinker();
        due("input()", x.input(), 0);
        for (int f = 0; f < 12; f++) {
            due("run", x.run(f), -1);
            due("entry, no more", x.entry(f, false), false);
            due("clear", x.clear(f), 0);
        }
        for (int k = 0; k < 24; k++) {
            due("bytes", x.bytes(k, 0, 1, 0), -1);
            due("refer", x.refer(k, 0, -1), false);
        }
        due("shrink", x.shrink(), 0);
        for (int what = 0; what < 7; what++) {
            due("shrunk " + what, x.shrunk(what), 0);
        }
        for (int k = 0; k < 24; k++) {
            due("kept", x.kept(k, 0), -1);
        }
        for (int f = 0; f < 12; f++) {
            due("function", x.function(f, 0), 0);
            due("entry", x.entry(f, true), true);
        }
    }

    private static void itemNumbers() {
        sentence(2, "ITEMS 0 to 23:");
        DataShrinker x = new DataShrinker();
        for (int k = 0; k < 24; k++) {
            due("item " + k, x.item(k, 1, 1, 0, false), true);
            due("byte of item " + k, x.bytes(k, 0, 1, row(k)), 1);
        }
        due("item 24", x.item(24, 1, 1, 0, false), false);
        for (int odd : ODD) {
            due("odd item", x.item(odd, 1, 1, 0, false), false);
        }
        x.shrink();
        due("twenty-four", x.shrunk(1), 24);
    }

    private static void sizes() {
        sentence(2, "SIZE (1 to 64 bytes, 0 at first)");
        DataShrinker x = new DataShrinker();
        for (int k = 0; k < 24; k++) {
            due("no place at first", x.bytes(k, 0, 1, 0), -1);
        }
        for (int size = 1; size <= 64; size++) {
            due("size " + size, x.item(5, size, 1, 0, true), true);
            due("last place of " + size, x.bytes(5, size - 1, 1, 0), 1);
            due("behind the last of " + size, x.bytes(5, size, 1, 0), -1);
            due("bytes of " + size, x.shrink(), size);
        }
        due("size 65", x.item(5, 65, 1, 0, false), false);
        for (int odd : ODD) {
            due("odd size", x.item(5, odd, 1, 0, false), false);
        }
    }

    private static void aligns() {
        sentence(2, "ALIGN (1, 2, 4 or 8)");
        DataShrinker x = new DataShrinker();
        for (int align = -17; align <= 33; align++) {
            boolean is = align == 1 || align == 2 || align == 4 || align == 8;
            due("align " + align, x.item(5, 1, align, 0, false), is);
        }
        for (int odd : ODD) {
            due("odd align", x.item(5, 1, odd, 0, false), false);
        }
    }

    private static void groups() {
        sentence(2, "a GROUP (1 to 3; 0: none)");
        DataShrinker x = new DataShrinker();
        due("group 4", x.item(1, 1, 1, 4, false), false);
        for (int odd : ODD) {
            due("odd group", x.item(1, 1, 1, odd, false), false);
        }
        for (int group = 0; group <= 3; group++) {
            for (int other = 0; other <= 3; other++) {
                due("group " + group, x.item(1, 1, 1, group, true), true);
                due("group " + other, x.item(2, 1, 1, other, false), true);
                x.shrink();
                due("of groups " + group + " and " + other, x.kept(2, 0), group == other && group > 0 ? 1 : 0);
            }
        }
    }

    private static void vital() {
        sentence(2, "VITAL or not.");
        DataShrinker x = new DataShrinker();
        due("vital", x.item(1, 2, 1, 0, true), true);
        due("not vital", x.item(2, 3, 1, 0, false), true);
        due("bytes", x.shrink(), 2);
        due("vital", x.kept(1, 0), 1);
        due("not vital", x.kept(2, 0), 0);
        due("no more", x.item(1, 2, 1, 0, false), true);
        due("bytes", x.shrink(), 0);
    }

    private static void references() {
        sentence(4, "At each place of an ITEM there may be a REFERENCE to an ITEM (also to itself), besides its byte.");
        DataShrinker x = withEntry(IN, 0, 0, 0, LOAD, 1, 0, 0, OUT, 1, 0, 0, FOLLOW, 1, 0, 0, OUT, 1, 0, 0);
        x.item(0, 64, 1, 0, false);
        tell(x, 1, 1, 200);
        for (int place = 0; place < 64; place++) {
            x.bytes(0, place, 1, row(place + 1));
            due("refer at " + place, x.refer(0, place, place % 2), true);
        }
        due("behind the last place", x.refer(0, 64, 0), false);
        for (int place = 0; place < 64; place++) {
            x.input();
            x.input(1, row(place));
            due("run", x.run(0), 0);
            dueOut("byte and reference at " + place, x, place + 1, place % 2 == 0 ? 1 : 200);
        }
        x.shrink();
        due("runs as laid", x.runLaid(0), 0);
        dueOut("byte and reference at 63 as laid", x, 64, 200);
    }

    private static void functions() {
        sentence(5, "FUNCTIONS 0 to 11, each a row of at most 40 INSTRUCTIONS;");
        DataShrinker x = new DataShrinker();
        for (int f = 0; f < 12; f++) {
            due("first of " + f, x.code(f, SET, 0, f, 0), 1);
        }
        for (int n = 2; n <= 40; n++) {
            due("of 11", x.code(11, OUT, 0, 0, 0), n);
        }
        due("41st", x.code(11, OUT, 0, 0, 0), -1);
        due("12", x.code(12, OUT, 0, 0, 0), -1);
        for (int odd : ODD) {
            due("odd function", x.code(odd, OUT, 0, 0, 0), -1);
        }
        x.entry(11, true);
        due("forty are done", x.run(11), 0);
        due("forty are done", x.ran(1), 40);
        due("in a row", x.out(38), 11);
        for (int f = 0; f < 11; f++) {
            due("no other has more", x.clear(f), 1);
        }
    }

    private static void entries() {
        sentence(7, "some are ENTRIES.");
        DataShrinker x = new DataShrinker();
        for (int f = 0; f < 12; f++) {
            due("made one", x.entry(f, true), true);
            for (int other = 0; other < 12; other++) {
                due("run " + other + " with entries to " + f, x.run(other), other <= f ? 0 : -1);
            }
        }
        for (int f = 0; f < 12; f++) {
            due("no more", x.entry(f, false), true);
            due("none any more", x.run(f), -1);
        }
    }

    private static void registers() {
        sentence(5, "Four REGISTERS 0 to 3 of 0 to 255.");
        DataShrinker x = new DataShrinker();
        x.entry(0, true);
        for (int r = 0; r < 4; r++) {
            due("set " + r, x.code(0, SET, r, 252 + r, 0), r + 1);
        }
        for (int r = 0; r < 4; r++) {
            due("out " + r, x.code(0, OUT, r, 0, 0), r + 5);
        }
        due("register 4", x.code(0, OUT, 4, 0, 0), -1);
        for (int odd : ODD) {
            due("odd register", x.code(0, OUT, odd, 0, 0), -1);
        }
        x.run(0);
        dueOut("each its own", x, 252, 253, 254, 255);
        x = withEntry(ADD, 2, -1, 0, OUT, 2, 0, 0, ADD, 2, 1, 0, OUT, 2, 0, 0);
        x.run(0);
        dueOut("least and greatest", x, 255, 0);
    }

    /** The least and the greatest operands are taken; each one less or more in one operand is not. */
    private static void dueLimits(int op, int[] least, int[] greatest) {
        DataShrinker x = new DataShrinker();
        due("least operands", x.code(0, op, least[0], least[1], least[2]), 1);
        due("greatest operands", x.code(0, op, greatest[0], greatest[1], greatest[2]), 2);
        for (int n = 0; n < 3; n++) {
            int[] low = least.clone();
            low[n]--;
            due("one below in operand " + n, x.code(0, op, low[0], low[1], low[2]), -1);
            low[n] = Integer.MIN_VALUE;
            due("far below in operand " + n, x.code(0, op, low[0], low[1], low[2]), -1);
            int[] high = greatest.clone();
            high[n]++;
            due("one above in operand " + n, x.code(0, op, high[0], high[1], high[2]), -1);
            high[n] = Integer.MAX_VALUE;
            due("far above in operand " + n, x.code(0, op, high[0], high[1], high[2]), -1);
        }
        due("none of them came", x.clear(0), 2);
    }

    private static void setAddAnd() {
        sentence(5, "0 SET r n (n 0 to 255);");
        dueLimits(SET, new int[] {0, 0, 0}, new int[] {3, 255, 0});
        DataShrinker x = withEntry(SET, 1, 255, 0, OUT, 1, 0, 0, SET, 1, 0, 0, OUT, 1, 0, 0);
        x.run(0);
        dueOut("least and greatest", x, 255, 0);
        sentence(5, "1 ADD r n (-255 to 255; of 256 the rest, not below 0);");
        dueLimits(ADD, new int[] {0, -255, 0}, new int[] {3, 255, 0});
        x = withEntry(
            ADD, 1, 255, 0, OUT, 1, 0, 0, ADD, 1, 255, 0, OUT, 1, 0, 0, ADD, 1, 1, 0, OUT, 1, 0, 0, ADD, 1, 1, 0,
            OUT, 1, 0, 0, ADD, 1, -1, 0, OUT, 1, 0, 0, ADD, 1, -255, 0, OUT, 1, 0, 0, ADD, 1, 0, 0, OUT, 1, 0, 0,
            SET, 1, 0, 0, ADD, 1, -255, 0, OUT, 1, 0, 0);
        x.run(0);
        dueOut("of 256 the rest", x, 255, 254, 255, 0, 255, 0, 0, 1);
        sentence(5, "2 AND r n (0 to 255);");
        dueLimits(AND, new int[] {0, 0, 0}, new int[] {3, 255, 0});
        x = withEntry(
            SET, 1, 0xA5, 0, AND, 1, 255, 0, OUT, 1, 0, 0, AND, 1, 0x8F, 0, OUT, 1, 0, 0, AND, 1, 0x7A, 0,
            OUT, 1, 0, 0, SET, 1, 255, 0, AND, 1, 0, 0, OUT, 1, 0, 0);
        x.run(0);
        dueOut("bits of both", x, 0xA5, 0x85, 0, 0);
    }

    private static void loadStore() {
        sentence(10, "3 LOAD r ITEM q: the byte at place q;");
        dueLimits(LOAD, new int[] {0, 0, 0}, new int[] {3, 23, 3});
        DataShrinker x = withEntry(
            LOAD, 1, 23, 0, OUT, 1, 0, 0, SET, 0, 2, 0, LOAD, 1, 23, 0, OUT, 1, 0, 0, LOAD, 0, 23, 0, OUT, 0, 0, 0);
        tell(x, 23, 1, 9, 8, 255);
        due("run", x.run(0), 0);
        dueOut("first, last, and into its own place's register", x, 9, 255, 255);
        sentence(10, "4 STORE ITEM q r: the byte at place q is r;");
        dueLimits(STORE, new int[] {0, 0, 0}, new int[] {23, 3, 3});
        x = withEntry(
            SET, 0, 2, 0, SET, 1, 255, 0, STORE, 23, 0, 1, LOAD, 2, 23, 0, OUT, 2, 0, 0, STORE, 23, 0, 0,
            LOAD, 2, 23, 0, OUT, 2, 0, 0, LOAD, 2, 23, 3, OUT, 2, 0, 0, STORE, 23, 3, 1, LOAD, 2, 23, 3, OUT, 2, 0, 0,
            LOAD, 2, 23, 0, OUT, 2, 0, 0);
        tell(x, 23, 1, 9, 8, 7);
        due("run", x.run(0), 0);
        dueOut("at that place alone", x, 255, 2, 9, 255, 2);
    }

    private static void callAndSkip() {
        sentence(10, "5 CALL FUNCTION;");
        dueLimits(CALL, new int[] {0, 0, 0}, new int[] {11, 0, 0});
        DataShrinker x = withEntry(OUT, 0, 0, 0, CALL, 11, 0, 0, OUT, 0, 0, 0, CALL, 10, 0, 0, OUT, 0, 0, 0);
        add(x, 11, ADD, 0, 5, 0);
        due("run", x.run(0), 0);
        dueOut("on behind the call, of an empty one too", x, 0, 5, 5);
        due("done", x.ran(1), 6);
        sentence(
            10,
            "6 SKIP r n (-40 to 40): if r is 0, on at the INSTRUCTION n + 1 behind"
                + " (n below 0: back; -1 is this one itself);");
        dueLimits(SKIP, new int[] {0, -40, 0}, new int[] {3, 40, 0});
        x = withEntry(SKIP, 0, 0, 0, OUT, 0, 0, 0, SKIP, 0, 1, 0, OUT, 0, 0, 0, SET, 1, 255, 0, SKIP, 1, 1, 0, OUT, 1, 0, 0);
        due("run", x.run(0), 0);
        dueOut("0, 1, and 1 with a register that is not 0", x, 0, 255);
        due("done", x.ran(1), 6);
        x = withEntry(ADD, 1, 0, 0, SKIP, 1, -1, 0);
        due("itself", x.run(0), 2);
        due("itself", x.ran(3), 1);
        x = withEntry(OUT, 2, 0, 0, ADD, 2, 254, 0, OUT, 2, 0, 0, SKIP, 2, 1, 0, SKIP, 0, -4, 0);
        due("back by three", x.run(0), 0);
        due("back by three", x.out(1), 254);
        due("back by three", x.out(2), 252);
        due("until it is 0", x.ran(0), 129);
        due("until it is 0", x.ran(1), 512);
        x = withEntry(SKIP, 1, 38, 0);
        for (int n = 0; n < 37; n++) {
            add(x, 0, OUT, 0, 0, 0);
        }
        add(x, 0, SET, 1, 1, 0, SKIP, 0, -40, 0);
        due("over 38 and back by 39", x.run(0), 2);
        due("never out", x.ran(0), 0);
        due("two for ever", x.ran(1), 2000);
    }

    private static void outReturnIn() {
        sentence(10, "7 OUT r;");
        dueLimits(OUT, new int[] {0, 0, 0}, new int[] {3, 0, 0});
        DataShrinker x = withEntry(SET, 3, 255, 0, OUT, 3, 0, 0, OUT, 0, 0, 0);
        x.run(0);
        dueOut("greatest and least", x, 255, 0);
        sentence(10, "8 RETURN;");
        dueLimits(RETURN, new int[] {0, 0, 0}, new int[] {0, 0, 0});
        x = withEntry(CALL, 1, 0, 0, OUT, 0, 0, 0, RETURN, 0, 0, 0, OUT, 0, 0, 0);
        add(x, 1, RETURN, 0, 0, 0, OUT, 0, 0, 0);
        due("run", x.run(0), 0);
        due("out once", x.ran(0), 1);
        due("both are counted", x.ran(1), 4);
        sentence(10, "9 IN r: the next INPUT byte, 0 behind all;");
        dueLimits(IN, new int[] {0, 0, 0}, new int[] {3, 0, 0});
        x = withEntry(
            SET, 1, 7, 0, IN, 1, 0, 0, OUT, 1, 0, 0, SET, 1, 7, 0, IN, 1, 0, 0, OUT, 1, 0, 0, IN, 3, 0, 0, OUT, 3, 0, 0);
        due("run without input", x.run(0), 0);
        dueOut("without input", x, 0, 0, 0);
        x.input(1, row(255, 9, 9));
        x.run(0);
        dueOut("one byte", x, 255, 0, 0);
        x.input(2, row(6, 5));
        x.run(0);
        dueOut("three bytes", x, 255, 6, 5);
    }

    private static void sameAndFollow() {
        sentence(10, "10 SAME r ITEM ITEM: 1 if both stand at one address, else 0;");
        dueLimits(SAME, new int[] {0, 0, 0}, new int[] {3, 23, 23});
        DataShrinker x = withEntry(
            SAME, 1, 4, 4, OUT, 1, 0, 0, SAME, 1, 4, 5, OUT, 1, 0, 0, SAME, 1, 5, 4, OUT, 1, 0, 0, SAME, 1, 0, 0,
            OUT, 1, 0, 0, SAME, 1, 0, 1, OUT, 1, 0, 0);
        tell(x, 4, 1, 6);
        tell(x, 5, 1, 6);
        due("run", x.run(0), 0);
        dueOut("alike ones, and ones without a size", x, 1, 0, 0, 1, 0);
        sentence(10, "11 FOLLOW r ITEM q: the first byte of the ITEM to which the REFERENCE at place q leads.");
        dueLimits(FOLLOW, new int[] {0, 0, 0}, new int[] {3, 23, 3});
        x = withEntry(
            FOLLOW, 1, 23, 0, OUT, 1, 0, 0, SET, 0, 2, 0, FOLLOW, 1, 23, 0, OUT, 1, 0, 0, FOLLOW, 0, 23, 0, OUT, 0, 0, 0);
        tell(x, 23, 1, 9, 8, 7);
        tell(x, 0, 1, 255, 6);
        x.refer(23, 0, 23);
        x.refer(23, 2, 0);
        due("run", x.run(0), 0);
        dueOut("itself, another, and into its own place's register", x, 9, 255, 255);
        due("told anew", x.bytes(0, 0, 1, row(3)), 1);
        x.run(0);
        dueOut("as it is then", x, 9, 3, 3);
    }

    private static void operands() {
        sentence(5, "INSTRUCTIONS (op, a, b, c; r, q REGISTERS; n a number):");
        DataShrinker x = new DataShrinker();
        due("op 0", x.code(0, 0, 0, 0, 0), 1);
        due("op 11", x.code(0, 11, 0, 0, 0), 2);
        due("op 12", x.code(0, 12, 0, 0, 0), -1);
        for (int odd : ODD) {
            due("odd op", x.code(0, odd, 0, 0, 0), -1);
        }
        sentence(5, "(a, b, c are these in the order told; what is left over is 0.)");
        due("LOAD r ITEM q", x.code(0, LOAD, 0, 23, 0), 3);
        due("LOAD ITEM r q", x.code(0, LOAD, 23, 0, 0), -1);
        due("LOAD r q ITEM", x.code(0, LOAD, 0, 0, 23), -1);
        due("STORE ITEM q r", x.code(0, STORE, 23, 0, 0), 4);
        due("STORE q ITEM r", x.code(0, STORE, 0, 23, 0), -1);
        due("STORE q r ITEM", x.code(0, STORE, 0, 0, 23), -1);
        due("SAME r ITEM ITEM", x.code(0, SAME, 0, 23, 23), 5);
        due("SAME ITEM r ITEM", x.code(0, SAME, 23, 0, 23), -1);
        due("FOLLOW r ITEM q", x.code(0, FOLLOW, 0, 23, 0), 6);
        due("FOLLOW ITEM r q", x.code(0, FOLLOW, 23, 0, 0), -1);
        due("FOLLOW r q ITEM", x.code(0, FOLLOW, 0, 0, 23), -1);
        for (int over = -1; over <= 1; over += 2) {
            for (int op : new int[] {SET, ADD, AND, CALL, SKIP, OUT, RETURN, IN}) {
                due("c left over, op " + op, x.code(0, op, 0, 0, over), -1);
            }
            for (int op : new int[] {CALL, OUT, RETURN, IN}) {
                due("b left over, op " + op, x.code(0, op, 0, over, 0), -1);
            }
            due("a left over", x.code(0, RETURN, over, 0, 0), -1);
        }
        due("none of them came", x.clear(0), 6);
        x = withEntry(SET, 0, 1, 0, SET, 1, 2, 0, SET, 2, 3, 0, STORE, 5, 0, 1, LOAD, 3, 5, 0, OUT, 3, 0, 0);
        tell(x, 5, 1, 0, 0, 9);
        due("q ahead of r", x.run(0), 0);
        dueOut("q ahead of r", x, 2);
    }

    private static void skipToTheEnd() {
        sentence(10, "SKIP to a place below 0 or behind the end goes to the end.");
        for (int n = -40; n <= 40; n++) {
            DataShrinker x = withEntry(CALL, 1, 0, 0, OUT, 3, 0, 0);
            add(x, 1, ADD, 1, 1, 0, ADD, 2, 0, 0, SKIP, 0, n, 0, ADD, 2, 1, 0, ADD, 2, 2, 0);
            int to = 2 + n + 1;
            boolean ends = to < 0 || to > 4;
            if (ends || to > 2) {
                due("skip " + n, x.run(0), 0);
                due("back in the caller, " + n, x.ran(0), 1);
                due("done, " + n, x.ran(1), 5 + (ends ? 0 : 5 - to));
            } else {
                due("round, " + n, x.run(0), 2);
            }
            x.shrink();
            due("come to behind the call, " + n, x.values(0, 1, 0), ends || to > 2 ? 1 : 0);
            due("come to behind the skip, " + n, x.values(1, 4, 0), to == 3 || to == 4 ? 1 : 0);
        }
    }

    private static void endOfFunction() {
        sentence(10, "At the end of a FUNCTION: RETURN.");
        DataShrinker x = withEntry(CALL, 1, 0, 0, OUT, 0, 0, 0, CALL, 2, 0, 0, OUT, 0, 0, 0);
        for (int n = 0; n < 40; n++) {
            add(x, 1, ADD, 0, 1, 0);
        }
        due("of the fullest and of an empty one", x.run(0), 0);
        dueOut("on in the caller", x, 40, 40);
        due("it is no instruction itself", x.ran(1), 44);
        x.clear(0);
        due("of an empty entry", x.run(0), 0);
        due("none done", x.ran(1), 0);
        x.shrink();
        due("an empty entry is come to", x.function(0, 0), 1);
    }

    private static void itemAnew() {
        sentence(2, "An ITEM is told (anew: its bytes are 0 then, its REFERENCES go): true;");
        DataShrinker x = withEntry(
            IN, 0, 0, 0, LOAD, 1, 5, 0, OUT, 1, 0, 0, FOLLOW, 1, 6, 3, OUT, 1, 0, 0, FOLLOW, 1, 5, 0, OUT, 1, 0, 0);
        due("told", x.item(5, 64, 1, 0, false), true);
        due("told", x.item(6, 1, 1, 0, false), true);
        for (int place = 0; place < 64; place++) {
            x.bytes(5, place, 1, row(place + 100));
            x.refer(5, place, 6);
        }
        x.bytes(6, 0, 1, row(33));
        x.refer(6, 0, 5);
        x.input(1, row(63));
        due("as told", x.run(0), 0);
        dueOut("as told", x, 163, 100, 33);
        due("anew, just as it was", x.item(5, 64, 1, 0, false), true);
        for (int place = 0; place < 64; place++) {
            x.input();
            x.input(1, row(place));
            due("its references go", x.run(0), 1);
            dueOut("its bytes are 0, references to it stay", x, 0, 0);
        }
        x.item(5, 1, 1, 0, false);
        x.bytes(5, 0, 1, row(9));
        x.item(5, 2, 1, 0, false);
        x.input();
        x.run(0);
        dueOut("shorter, then longer", x, 0, 0);
    }

    private static void itemRefused() {
        sentence(2, "false, and nothing happens, for others");
        DataShrinker x = withEntry(LOAD, 1, 5, 0, OUT, 1, 0, 0, FOLLOW, 1, 5, 0, OUT, 1, 0, 0);
        x.item(5, 2, 2, 1, true);
        x.bytes(5, 0, 2, row(7, 8));
        x.refer(5, 0, 5);
        due("laid", x.shrink(), 2);
        due("size 65", x.item(5, 65, 1, 0, false), false);
        due("size -1", x.item(5, -1, 1, 0, false), false);
        due("align 0", x.item(5, 1, 0, 0, false), false);
        due("align 3", x.item(5, 1, 3, 0, false), false);
        due("align 16", x.item(5, 1, 16, 0, false), false);
        due("group 4", x.item(5, 1, 1, 4, false), false);
        due("group -1", x.item(5, 1, 1, -1, false), false);
        due("item 24", x.item(24, 1, 1, 0, false), false);
        due("item -1", x.item(-1, 1, 1, 0, false), false);
        due("size 0, align 3", x.item(5, 0, 3, 0, false), false);
        due("size 0, group 4", x.item(5, 0, 1, 4, false), false);
        due("size 0, item 24", x.item(24, 0, 1, 0, false), false);
        due("size 0, item -1", x.item(-1, 0, 1, 0, false), false);
        due("as laid yet", x.runLaid(0), 0);
        dueOut("byte and reference stay", x, 7, 7);
        due("as told yet", x.run(0), 0);
        dueOut("byte and reference stay", x, 7, 7);
        due("vital yet", x.shrink(), 2);
        due("place 1 yet", x.bytes(5, 1, 1, 0), 1);
    }

    private static void itemNone() {
        sentence(2, "(SIZE 0 also: it is none then, and REFERENCES to it go).");
        DataShrinker x = withEntry(IN, 0, 0, 0, FOLLOW, 1, 5, 0, OUT, 1, 0, 0);
        for (int k = 0; k < 24; k++) {
            due("item " + k, x.item(k, 64, 8, 3, true), true);
            due("first byte", x.bytes(k, 0, 1, row(k + 1)), 1);
        }
        for (int place = 0; place < 24; place++) {
            x.refer(5, place, place);
        }
        due("size 0", x.item(6, 0, 8, 3, true), true);
        due("none then", x.bytes(6, 0, 1, 0), -1);
        due("none then", x.refer(6, 0, 0), false);
        due("none then", x.refer(0, 0, 6), false);
        for (int place = 0; place < 24; place++) {
            x.input();
            x.input(1, row(place));
            due("reference at " + place, x.run(0), place == 6 ? 1 : 0);
            due("reference at " + place, x.ran(0), place == 6 ? 0 : 1);
            due("reference at " + place, x.out(0), place == 6 ? -1 : place + 1);
        }
        x.shrink();
        due("neither kept, vital though it was", x.shrunk(0), 23);
        due("nor dropped", x.shrunk(1), 0);
        due("none then", x.kept(6, 0), -1);
        due("told once more", x.item(6, 64, 8, 3, true), true);
        x.input();
        x.input(1, row(6));
        due("the reference does not come again", x.run(0), 1);
        due("none twice", x.item(7, 0, 1, 0, false), true);
        due("none twice", x.item(7, 0, 1, 0, false), true);
        due("one that refers to itself", x.item(5, 0, 1, 0, false), true);
        due("one that refers to itself", x.run(0), 1);
        referencesToItGo();
    }

    /** An item that has a reference is not still, so that it is not made one with those that are alike. */
    private static void referencesToItGo() {
        for (int k = 0; k < 23; k++) {
            DataShrinker x = new DataShrinker();
            x.item(23, 64, 1, 0, true);
            x.item(k, 64, 1, 0, true);
            x.item((k + 1) % 23, 1, 1, 0, false);
            for (int place = 0; place < 64; place++) {
                x.refer(k, place, (k + 1) % 23);
            }
            due("with references of " + k, x.shrink(), 128);
            x.item((k + 1) % 23, 0, 1, 0, false);
            due("without one of " + k, x.shrink(), 64);
        }
    }

    private static void bytesGo() {
        sentence(
            3, "Up to eight bytes of an ITEM from a place on, the first one highest in v: how many (as far as it goes);");
        DataShrinker x = new DataShrinker();
        for (int place = 0; place < 64; place++) {
            for (int n = 1; n <= 8; n++) {
                x.item(0, 64, 1, 0, true);
                due(n + " at " + place, x.bytes(0, place, n, row(255, 2, 3, 4, 5, 6, 7, 254)), Math.min(n, 64 - place));
            }
        }
        x = new DataShrinker();
        x.item(0, 11, 1, 0, true);
        due("eight", x.bytes(0, 0, 8, row(255, 2, 3, 4, 5, 6, 7, 254)), 8);
        due("as far as it goes", x.bytes(0, 8, 8, row(128, 127, 9, 1, 1, 1, 1, 1)), 3);
        due("one of eight", x.bytes(0, 3, 1, row(77, 78, 78, 78, 78, 78, 78, 78)), 1);
        due("two", x.bytes(0, 5, 2, row(81, 82, 83)), 2);
        x.item(1, 4, 1, 0, true);
        x.bytes(1, 0, 4, row(20, 21, 22, 23));
        x.shrink();
        dueOctets("none behind the item", x, 255, 2, 3, 77, 5, 81, 82, 254, 128, 127, 9, 20, 21, 22, 23);
    }

    private static void bytesRefused() {
        sentence(3, "NONE, and nothing happens, without the ITEM, the place, or n not 1 to 8.");
        DataShrinker x = new DataShrinker();
        x.item(0, 2, 1, 0, true);
        x.bytes(0, 0, 2, row(7, 8));
        x.entry(0, true);
        x.shrink();
        due("place 2", x.bytes(0, 2, 1, row(9)), -1);
        due("n 0", x.bytes(0, 0, 0, row(9)), -1);
        due("n 9", x.bytes(0, 0, 9, row(9)), -1);
        due("n 9 at the last place", x.bytes(0, 1, 9, row(9)), -1);
        due("item 24", x.bytes(24, 0, 1, row(9)), -1);
        due("without a size", x.bytes(1, 0, 1, row(9)), -1);
        for (int odd : ODD) {
            due("odd item", x.bytes(odd, 0, 1, row(9)), -1);
            due("odd place", x.bytes(0, odd, 1, row(9)), -1);
            due("odd n", x.bytes(0, 0, odd, row(9)), -1);
        }
        due("nothing happened", x.runLaid(0), 0);
        x.shrink();
        dueOctets("nothing happened", x, 7, 8);
    }

    private static void referGoes() {
        sentence(4, "A REFERENCE at a place of an ITEM leads to another one (NONE: to none any more): true;");
        DataShrinker x = withEntry(FOLLOW, 1, 5, 0, OUT, 1, 0, 0);
        tell(x, 5, 1, 50, 51);
        tell(x, 0, 1, 10);
        tell(x, 23, 1, 230);
        due("to 0", x.refer(5, 0, 0), true);
        x.run(0);
        dueOut("to 0", x, 10);
        due("to 23 instead", x.refer(5, 0, 23), true);
        x.run(0);
        dueOut("to 23 instead", x, 230);
        due("just so again", x.refer(5, 0, 23), true);
        due("to itself", x.refer(5, 0, 5), true);
        x.run(0);
        dueOut("to itself", x, 50);
        due("one at the next place", x.refer(5, 1, 0), true);
        due("to none any more", x.refer(5, 0, -1), true);
        due("to none any more", x.run(0), 1);
        due("to none where none was", x.refer(5, 0, -1), true);
        x.shrink();
        due("none is followed", x.kept(5, 1), 0);
        x.clear(0);
        add(x, 0, SET, 0, 1, 0, FOLLOW, 1, 5, 0, OUT, 1, 0, 0);
        due("the next place's stays", x.run(0), 0);
        dueOut("the next place's stays", x, 10);
        due("to none any more", x.refer(5, 1, -1), true);
        due("to none any more", x.run(0), 1);
        x.item(5, 64, 1, 0, false);
        x.refer(5, 63, 5);
        x.refer(5, 0, 5);
        due("of the last place to none any more", x.refer(5, 63, -1), true);
        x.clear(0);
        add(x, 0, FOLLOW, 1, 5, 0, SET, 0, 63, 0, FOLLOW, 1, 5, 0);
        due("the first place's stays", x.run(0), 1);
        due("the first place's stays", x.ran(1), 2);
    }

    private static void referRefused() {
        sentence(4, "false, and nothing happens, without these.");
        DataShrinker x = withEntry(FOLLOW, 1, 5, 0, OUT, 1, 0, 0);
        tell(x, 5, 1, 50, 51);
        tell(x, 0, 1, 10);
        x.refer(5, 0, 0);
        x.shrink();
        due("place 2", x.refer(5, 2, 0), false);
        due("place 2, to none", x.refer(5, 2, -1), false);
        due("to one without a size", x.refer(5, 0, 1), false);
        due("to 24", x.refer(5, 0, 24), false);
        due("to -2", x.refer(5, 0, -2), false);
        due("to far above", x.refer(5, 0, Integer.MAX_VALUE), false);
        due("to far below", x.refer(5, 0, Integer.MIN_VALUE), false);
        due("of one without a size", x.refer(1, 0, 0), false);
        due("of one without a size, to none", x.refer(1, 0, -1), false);
        due("of 24", x.refer(24, 0, 0), false);
        for (int odd : ODD) {
            due("odd item", x.refer(odd, 0, 0), false);
            due("odd place", x.refer(5, odd, 0), false);
            due("odd place, to none", x.refer(5, odd, -1), false);
        }
        due("nothing happened", x.runLaid(0), 0);
        due("nothing happened", x.run(0), 0);
        dueOut("nothing happened", x, 10);
    }

    private static void codeCounts() {
        sentence(5, "An INSTRUCTION more of a FUNCTION: how many it has;");
        DataShrinker x = new DataShrinker();
        for (int n = 1; n <= 40; n++) {
            due("of 0", x.code(0, SET, 0, n, 0), n);
            due("of 7", x.code(7, OUT, 0, 0, 0), n);
        }
        due("had", x.clear(0), 40);
        due("first again", x.code(0, OUT, 0, 0, 0), 1);
    }

    private static void codeRefused() {
        sentence(
            5,
            "NONE, and nothing happens: no such FUNCTION, 40, or something not as told"
                + " (ITEMS 0 to 23, whether they have a SIZE or not; FUNCTIONS 0 to 11).");
        DataShrinker x = new DataShrinker();
        x.entry(3, true);
        for (int n = 1; n <= 40; n++) {
            x.code(3, OUT, 0, 0, 0);
        }
        x.shrink();
        due("40", x.code(3, OUT, 0, 0, 0), -1);
        due("no such function", x.code(12, OUT, 0, 0, 0), -1);
        due("no such function", x.code(-1, OUT, 0, 0, 0), -1);
        due("not as told", x.code(4, OUT, 4, 0, 0), -1);
        due("no such op", x.code(4, 12, 0, 0, 0), -1);
        due("load from 24", x.code(4, LOAD, 0, 24, 0), -1);
        due("load from -1", x.code(4, LOAD, 0, -1, 0), -1);
        due("store to 24", x.code(4, STORE, 24, 0, 0), -1);
        due("follow 24", x.code(4, FOLLOW, 0, 24, 0), -1);
        due("same with 24", x.code(4, SAME, 0, 24, 0), -1);
        due("same with 24", x.code(4, SAME, 0, 0, 24), -1);
        due("call of 12", x.code(4, CALL, 12, 0, 0), -1);
        due("call of -1", x.code(4, CALL, -1, 0, 0), -1);
        due("nothing happened", x.runLaid(3), 0);
        due("nothing happened", x.ran(1), 40);
        due("nothing happened", x.clear(4), 0);
        for (int k = 0; k < 24; k++) {
            due("load without a size", x.code(4, LOAD, 0, k, 0), k + 1);
        }
        due("store without a size", x.code(4, STORE, 23, 0, 0), 25);
        due("follow without a size", x.code(4, FOLLOW, 0, 23, 0), 26);
        due("same without a size", x.code(4, SAME, 0, 0, 23), 27);
        for (int f = 0; f < 12; f++) {
            due("call of " + f, x.code(4, CALL, f, 0, 0), 28 + f);
        }
    }

    private static void clearing() {
        sentence(6, "A FUNCTION is empty again: how many INSTRUCTIONS it had; NONE without it.");
        DataShrinker x = new DataShrinker();
        for (int f = 0; f < 12; f++) {
            due("empty", x.clear(f), 0);
            for (int n = 0; n <= f; n++) {
                x.code(f, SET, 0, n, 0);
            }
        }
        for (int f = 0; f < 12; f++) {
            due("had", x.clear(f), f + 1);
            due("empty again", x.clear(f), 0);
        }
        for (int n = 0; n < 40; n++) {
            x.code(11, OUT, 0, 0, 0);
        }
        due("full", x.clear(11), 40);
        due("first again", x.code(11, RETURN, 0, 0, 0), 1);
        x.entry(11, true);
        due("no more than that", x.run(11), 0);
        due("no more than that", x.ran(1), 1);
        x.clear(11);
        due("an entry yet", x.run(11), 0);
        due("nothing to do", x.ran(1), 0);
        x.shrink();
        due("12", x.clear(12), -1);
        for (int odd : ODD) {
            due("odd", x.clear(odd), -1);
        }
        due("nothing happened", x.runLaid(11), 0);
    }

    private static void entryChanges() {
        sentence(7, "A FUNCTION is an ENTRY, or no more: whether that changed anything.");
        DataShrinker x = new DataShrinker();
        for (int f = 0; f < 12; f++) {
            due("not yet", x.entry(f, false), false);
            due("is", x.entry(f, true), true);
            due("is already", x.entry(f, true), false);
            due("runs", x.run(f), 0);
            due("no more", x.entry(f, false), true);
            due("no more already", x.entry(f, false), false);
            due("does not run", x.run(f), -1);
        }
        sentence(7, "False without it.");
        x.entry(0, true);
        x.shrink();
        due("12", x.entry(12, true), false);
        due("12", x.entry(12, false), false);
        for (int odd : ODD) {
            due("odd", x.entry(odd, true), false);
            due("odd", x.entry(odd, false), false);
        }
        due("nothing happened", x.runLaid(0), 0);
    }

    private static void inputComes() {
        sentence(8, "Up to eight bytes come behind the INPUT, the first one highest in v: how many it has;");
        DataShrinker x = withEntry(IN, 1, 0, 0, OUT, 1, 0, 0, SKIP, 0, -3, 0);
        int has = 0;
        for (int n = 1; n <= 8; n++) {
            has += n;
            due(n + " more", x.input(n, row(255, 10 + n, 3, 4, 5, 6, 7, 254)), has);
        }
        x.run(0);
        int at = 0;
        int[] octets = {255, 0, 3, 4, 5, 6, 7, 254};
        for (int n = 1; n <= 8; n++) {
            for (int i = 0; i < n; i++) {
                due("byte " + i + " of " + n, x.out(at), i == 1 ? 10 + n : octets[i]);
                at++;
            }
        }
        due("none behind", x.out(at), 0);
    }

    private static void inputRefused() {
        sentence(8, "NONE, and none comes, if it would have more than 200, or n is not 1 to 8.");
        DataShrinker x = new DataShrinker();
        for (int n = 1; n <= 24; n++) {
            due("eight more", x.input(8, row(1, 2, 3, 4, 5, 6, 7, 8)), 8 * n);
        }
        due("n 0", x.input(0, 0), -1);
        due("n 9", x.input(9, 0), -1);
        for (int odd : ODD) {
            due("odd n", x.input(odd, 0), -1);
        }
        due("199", x.input(7, row(7, 7, 7, 7, 7, 7, 7)), 199);
        due("201 would be", x.input(2, row(9, 9)), -1);
        due("207 would be", x.input(8, row(9, 9)), -1);
        due("200", x.input(1, row(5)), 200);
        due("201 would be", x.input(1, row(9)), -1);
        due("none came", x.input(), 200);
        for (int n = 1; n <= 25; n++) {
            due("eight more", x.input(8, row(1, 1, 1, 1, 1, 1, 1, n)), 8 * n);
        }
        add(x, 0, IN, 1, 0, 0, SKIP, 1, 1, 0, SKIP, 0, -3, 0, OUT, 0, 0, 0);
        x.entry(0, true);
        due("all are read", x.run(0), 0);
        due("two hundred not 0, the next one 0", x.ran(1), 200 * 3 + 3);
    }

    private static void inputEmpties() {
        sentence(9, "The INPUT is empty again: how many bytes it had.");
        DataShrinker x = withEntry(IN, 1, 0, 0, OUT, 1, 0, 0);
        due("empty at first", x.input(), 0);
        x.input(1, row(9));
        due("one", x.input(), 1);
        due("empty again", x.input(), 0);
        x.run(0);
        dueOut("empty again", x, 0);
        for (int n = 0; n < 25; n++) {
            x.input(8, row(4, 4, 4, 4, 4, 4, 4, 4));
        }
        x.run(0);
        dueOut("a run takes none away", x, 4);
        due("full", x.input(), 200);
        due("room again", x.input(8, row(6)), 8);
        x.run(0);
        dueOut("new ones from the begin", x, 6);
    }
}
