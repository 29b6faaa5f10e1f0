/** What can be reached: part III, with what is kept and why, and promises 15 to 18. */
final class SentencesOfReach extends Sentences {
    private SentencesOfReach() {
    }

    static void all() {
        states();
        entriesBegin();
        statesGoOn();
        simpleSets();
        sumsOfSets();
        loads();
        loadsOfNoPlace();
        stores();
        sames();
        follows();
        followsOfNone();
        skips();
        calls();
        untilNothingMoreComes();
        notAsked();
        keptThings();
        keptGroups();
        dropped();
        chainsOfFunctions();
        chainsToItems();
        chainsByReferences();
        chainLengths();
        keptAnswers();
        keptPlaces();
        keptHolders();
        keptNone();
        readAnswers();
        functionAnswers();
        valuesAnswers();
        valuesNone();
    }

    /** Of an item of 64 bytes just these places are read: the members of a set that a LOAD took. */
    private static void dueRead(String what, DataShrinker x, int k, int... places) {
        boolean[] want = new boolean[64];
        for (int place : places) {
            want[place] = true;
        }
        for (int place = 0; place < 64; place++) {
            due(what + ": read(" + k + ", " + place + ")", x.read(k, place), want[place] ? 1 : 0);
        }
    }

    private static void states() {
        sentence(18, "A STATE: of each REGISTER the set of values that it may have.");
        DataShrinker x = withEntry(
            IN, 0, 0, 0, AND, 0, 1, 0, SKIP, 0, 1, 0, SET, 1, 9, 0, SKIP, 0, 1, 0, RETURN, 0, 0, 0, OUT, 1, 0, 0);
        x.shrink();
        dueValues("nothing of two registers together", x, 4, 2, 2, 1, 1);
        dueValues("nothing of two registers together", x, 6, 1, 2, 1, 1);
    }

    private static void entriesBegin() {
        sentence(18, "Each ENTRY begins with {0} in each.");
        DataShrinker x = new DataShrinker();
        x.item(5, 64, 1, 0, false);
        for (int r = 0; r < 4; r++) {
            add(x, r, LOAD, 3, 5, r);
            x.entry(r, true);
        }
        add(x, 11, SET, 1, 3, 0, OUT, 0, 0, 0);
        add(x, 10, SET, 1, 3, 0, OUT, 0, 0, 0);
        x.entry(11, true);
        x.shrink();
        dueRead("0 in each", x, 5, 0);
        for (int r = 0; r < 4; r++) {
            due("one value", x.values(11, 0, r), 1);
            due("one value", x.values(r, 0, r), 1);
            due("no entry", x.values(10, 0, r), 0);
        }
    }

    private static void statesGoOn() {
        sentence(
            18,
            "INSTRUCTIONS take STATES on, one by one, to the next one or where SKIP leads;"
                + " where several come together each set is all of them.");
        DataShrinker x = withEntry(
            IN, 0, 0, 0, SKIP, 0, 3, 0, SET, 1, 5, 0, SKIP, 2, 2, 0, RETURN, 0, 0, 0, SET, 1, 63, 0, LOAD, 3, 5, 1,
            RETURN, 0, 0, 0, OUT, 0, 0, 0);
        x.item(5, 64, 1, 0, false);
        x.shrink();
        int[][] counts = {{1, 1}, {256, 1}, {255, 1}, {255, 1}, {0, 0}, {1, 1}, {256, 2}, {256, 2}, {0, 0}};
        for (int i = 0; i < counts.length; i++) {
            dueValues("instruction " + i, x, i, counts[i]);
        }
        dueRead("both come together", x, 5, 5, 63);
    }

    private static void simpleSets() {
        sentence(18, "SET {n}.");
        for (int n : new int[] {0, 1, 31, 62, 63}) {
            DataShrinker x = withEntry(IN, 0, 0, 0, SET, 0, n, 0, LOAD, 1, 5, 0, OUT, 0, 0, 0);
            x.item(5, 64, 1, 0, false);
            x.shrink();
            dueRead("set to " + n, x, 5, n);
            dueValues("set to " + n, x, 3, 1, 1, 1, 1);
        }
        DataShrinker x = withEntry(SET, 0, 255, 0, ADD, 0, 1, 0, SKIP, 0, 0, 0, SET, 0, 64, 0, LOAD, 1, 5, 0, OUT, 0, 0, 0);
        x.item(5, 64, 1, 0, false);
        x.shrink();
        dueValues("255 and 1 are 0 alone", x, 3, 1);
        dueValues("64 is no place", x, 5, 0);
        sentence(18, "IN: all 256.");
        x = withEntry(SET, 2, 9, 0, IN, 2, 0, 0, OUT, 2, 0, 0, AND, 2, 1, 0, IN, 2, 0, 0, OUT, 2, 0, 0);
        x.shrink();
        dueValues("without input", x, 2, 1, 1, 256, 1);
        dueValues("again", x, 5, 1, 1, 256, 1);
        x.input(1, row(7));
        x.shrink();
        dueValues("with input", x, 2, 1, 1, 256, 1);
    }

    private static void sumsOfSets() {
        sentence(18, "ADD, AND: of each value.");
        int[] masks = {0, 1, 0x21, 0x80, 0xC0, 0xA5, 0x40, 0xFF};
        for (int mask : masks) {
            for (int n = -255; n <= 255; n += mask == 0xA5 ? 1 : 17) {
                dueSums(mask, n);
            }
        }
        DataShrinker x = withEntry(IN, 0, 0, 0, ADD, 0, 255, 0, AND, 0, 0x81, 0, AND, 0, 0x7E, 0, OUT, 0, 0, 0);
        x.shrink();
        dueValues("all and 255", x, 2, 256);
        dueValues("0x81", x, 3, 4);
        dueValues("no bit of both", x, 4, 1);
        x = withEntry(SET, 3, 200, 0, AND, 3, 0xC8, 0, ADD, 3, 56, 0, LOAD, 0, 5, 3, OUT, 3, 0, 0);
        x.item(5, 64, 1, 0, false);
        x.shrink();
        dueRead("200, and 56 more", x, 5, 0);
        for (int v : new int[] {21, 85, 149, 213}) {
            for (int mask : new int[] {0x1F, 0x3F, 0x5F, 0x7F, 0x9F, 0xBF, 0xDF, 0xFF, 0xC0, 0x80, 0x40}) {
                dueMasked(v, mask);
            }
        }
    }

    /** Two values and the mask, moved to where they can be read; another register's set comes between. */
    private static void dueMasked(int v, int mask) {
        int low = v & mask;
        int high = v + 1 & mask;
        int least = Math.min(low, high);
        DataShrinker x = withEntry(
            IN, 0, 0, 0, AND, 0, 1, 0, ADD, 0, v, 0, SET, 1, 40, 0, AND, 0, mask, 0, ADD, 0, -least, 0, LOAD, 2, 5, 0,
            OUT, 0, 0, 0);
        x.item(5, 64, 1, 0, false);
        x.shrink();
        dueRead(v + ", one more, and " + mask, x, 5, low - least, high - least);
        dueValues(v + ", one more, and " + mask, x, 7, low == high ? 1 : 2, 1, 1, 1);
    }

    /** Each value of 0 to 255 and the mask, and n: those below 64 are read. */
    private static void dueSums(int mask, int n) {
        DataShrinker x = withEntry(IN, 0, 0, 0, AND, 0, mask, 0, ADD, 0, n, 0, LOAD, 1, 5, 0, OUT, 0, 0, 0);
        x.item(5, 64, 1, 0, false);
        x.shrink();
        boolean[] want = new boolean[256];
        int count = 0;
        for (int v = 0; v < 256; v++) {
            int sum = ((v & mask) + n + 256) % 256;
            count += want[sum] ? 0 : 1;
            want[sum] = true;
        }
        String what = "and " + mask + ", add " + n;
        due(what, x.values(0, 2, 0), count);
        due(what, x.values(0, 3, 0), count);
        for (int place = 0; place < 64; place++) {
            due(what + ", place " + place, x.read(5, place), want[place] ? 1 : 0);
        }
    }

    private static void loads() {
        sentence(
            16, "LOAD: the bytes that may stand at places of q's set that the ITEM has (READ are these places);");
        DataShrinker x = withEntry(
            IN, 0, 0, 0, LOAD, 1, 5, 0, OUT, 1, 0, 0, LOAD, 2, 6, 1, OUT, 2, 0, 0, LOAD, 0, 5, 0, OUT, 0, 0, 0);
        tell(x, 5, 1, 6, 63, 6);
        x.item(6, 64, 1, 0, false);
        x.shrink();
        dueValues("two of three are alike", x, 2, 256, 2, 1, 1);
        dueRead("the bytes as told", x, 6, 6, 63);
        due("all places", x.kept(5, 1), 3);
        dueValues("the place's set stays", x, 5, 256, 2, 1, 1);
        dueValues("into its own place's register", x, 6, 2, 2, 1, 1);
        x = withEntry(IN, 0, 0, 0, AND, 0, 1, 0, ADD, 0, 2, 0, LOAD, 1, 5, 0, OUT, 1, 0, 0);
        tell(x, 5, 1, 6, 7, 8);
        x.shrink();
        dueValues("2 and 3 of three places", x, 4, 2, 1, 1, 1);
        due("place 1", x.read(5, 1), 0);
        due("place 2", x.read(5, 2), 1);
        due("one place", x.kept(5, 1), 1);
        x = withEntry(IN, 0, 0, 0, LOAD, 1, 5, 0, OUT, 1, 0, 0);
        x.item(5, 64, 1, 0, false);
        for (int place = 0; place < 64; place++) {
            x.bytes(5, place, 1, row(4 * place));
        }
        x.shrink();
        dueValues("sixty-four", x, 2, 256, 64, 1, 1);
        due("sixty-four", x.kept(5, 1), 64);
    }

    private static void loadsOfNoPlace() {
        sentence(16, "without such a place nothing goes on.");
        for (int size : new int[] {0, 1, 2, 63, 64}) {
            for (int place : new int[] {size, 64, 128, 192, 255}) {
                DataShrinker x = withEntry(SET, 0, place, 0, LOAD, 1, 5, 0, OUT, 1, 0, 0);
                x.item(5, size, 1, 0, true);
                x.shrink();
                dueValues("size " + size + ", place " + place, x, 1, 1, 1, 1, 1);
                dueValues("size " + size + ", place " + place, x, 2, 0, 0, 0, 0);
                due("size " + size + ", place " + place, x.kept(5, 1), size == 0 ? -1 : 0);
                due("come to", x.function(0, 1), 2);
            }
        }
    }

    private static void stores() {
        sentence(18, "STORE: at these places r's values may stand, too (WRITTEN is the ITEM);");
        DataShrinker x = withEntry(
            IN, 0, 0, 0, AND, 0, 2, 0, ADD, 0, 1, 0, SET, 1, 60, 0, STORE, 5, 0, 1, LOAD, 2, 5, 3, OUT, 2, 0, 0,
            SET, 3, 1, 0, LOAD, 2, 5, 3, LOAD, 1, 6, 2, SET, 3, 2, 0, LOAD, 2, 5, 3, OUT, 2, 0, 0);
        tell(x, 5, 1, 10, 11, 12);
        x.item(6, 64, 1, 0, false);
        x.shrink();
        dueValues("not at place 0", x, 6, 2, 1, 1, 1);
        dueRead("place 1, as told or stored", x, 6, 11, 60);
        dueValues("not at place 2, and place 3 is none", x, 12, 2, 1, 1, 1);
        due("written", x.kept(5, 2), 1);
        due("not written", x.kept(6, 2), 0);
        dueValues("the place's set stays", x, 5, 2, 1, 1, 1);
        x = withEntry(IN, 0, 0, 0, IN, 1, 0, 0, STORE, 5, 0, 1, LOAD, 2, 5, 3, OUT, 2, 0, 0);
        tell(x, 5, 1, 10);
        x.shrink();
        dueValues("all 256 at the one place", x, 4, 256, 256, 256, 1);
        x = withEntry(
            IN, 0, 0, 0, SET, 1, 9, 0, STORE, 22, 0, 1, LOAD, 2, 23, 3, OUT, 2, 0, 0, STORE, 23, 0, 1, LOAD, 2, 22, 3);
        x.item(22, 64, 1, 0, false);
        x.item(23, 64, 1, 0, false);
        x.shrink();
        dueValues("at all 64 places of the last item", x, 4, 256, 1, 2, 1);
        x.clear(0);
        add(x, 0, IN, 0, 0, 0, SET, 1, 9, 0, STORE, 22, 0, 1, LOAD, 2, 23, 3, OUT, 2, 0, 0);
        x.shrink();
        dueValues("at none of the next item", x, 4, 256, 1, 1, 1);
        sentence(18, "without one nothing goes on.");
        for (int size : new int[] {0, 1, 63, 64}) {
            for (int place : new int[] {size, 64, 255}) {
                x = withEntry(SET, 0, place, 0, STORE, 5, 0, 1, OUT, 1, 0, 0);
                x.item(5, size, 1, 0, true);
                x.shrink();
                dueValues("size " + size + ", place " + place, x, 2, 0, 0, 0, 0);
                due("not written", x.kept(5, 2), size == 0 ? -1 : 0);
            }
            if (size > 0) {
                x = withEntry(SET, 0, size - 1, 0, STORE, 5, 0, 1, OUT, 1, 0, 0);
                x.item(5, size, 1, 0, true);
                x.shrink();
                dueValues("at the last place of " + size, x, 2, 1, 1, 1, 1);
                due("written", x.kept(5, 2), 1);
            }
        }
    }

    private static void sames() {
        sentence(15, "SAME: {1} for one ITEM twice, else {0} (COMPARED are both ITEMS, if they are two).");
        DataShrinker x = withEntry(
            IN, 1, 0, 0, SAME, 1, 4, 4, LOAD, 2, 9, 1, IN, 1, 0, 0, SAME, 1, 5, 6, LOAD, 2, 10, 1, SAME, 3, 7, 3,
            OUT, 3, 0, 0, RETURN, 0, 0, 0, SAME, 3, 0, 1);
        for (int k = 0; k < 8; k++) {
            if (k != 3) {
                tell(x, k, 1, 9);
            }
        }
        x.item(9, 64, 1, 0, false);
        x.item(10, 64, 1, 0, false);
        x.shrink();
        dueRead("one twice", x, 9, 1);
        dueRead("two", x, 10, 0);
        dueValues("one twice", x, 2, 1, 1, 1, 1);
        dueValues("one without a size", x, 7, 1, 1, 1, 1);
        int[] compared = {0, 0, 0, -1, 0, 1, 1, 1};
        for (int k = 0; k < 8; k++) {
            due("compared " + k, x.kept(k, 3), compared[k]);
            due("not kept by that", x.kept(k, 0), k == 3 ? -1 : 0);
        }
        x = withEntry(SAME, 0, 2, 3, SAME, 0, 3, 4);
        for (int k = 2; k < 5; k++) {
            tell(x, k, 1, 9);
        }
        x.shrink();
        for (int k = 2; k < 5; k++) {
            due("first and second of them, " + k, x.kept(k, 3), 1);
        }
    }

    private static void follows() {
        sentence(
            16,
            "FOLLOW: at places of q's set with a REFERENCE (READ, and FOLLOWED):"
                + " the bytes that may stand first in their ITEMS (place 0 of these is READ);");
        DataShrinker x = withEntry(IN, 0, 0, 0, AND, 0, 7, 0, FOLLOW, 1, 5, 0, LOAD, 2, 9, 1, OUT, 1, 0, 0, STORE, 7, 3, 2);
        x.item(5, 64, 1, 0, false);
        tell(x, 6, 1, 60, 1);
        tell(x, 7, 1, 61, 1);
        tell(x, 8, 1, 62, 1);
        x.item(9, 64, 1, 0, false);
        x.bytes(9, 60, 1, row(40));
        x.refer(5, 2, 6);
        x.refer(5, 3, 6);
        x.refer(5, 7, 7);
        x.refer(5, 8, 8);
        x.refer(5, 63, 5);
        x.shrink();
        dueRead("places with a reference of the set", x, 5, 2, 3, 7);
        due("place 0 of the first", x.read(6, 0), 1);
        due("no more of it", x.kept(6, 1), 1);
        due("place 0 of the second", x.read(7, 0), 1);
        due("no more of it", x.kept(7, 1), 1);
        due("a reference that is not followed", x.kept(8, 1), 0);
        dueRead("60, 61, and what is stored: 40 and 0", x, 9, 0, 40, 60, 61);
        dueValues("60, 61, and what is stored: 40 and 0", x, 4, 8, 4, 2, 1);
        x = withEntry(IN, 0, 0, 0, FOLLOW, 1, 22, 0, OUT, 1, 0, 0);
        x.item(22, 64, 1, 0, false);
        x.item(23, 64, 1, 0, false);
        tell(x, 0, 1, 8);
        for (int place = 0; place < 64; place++) {
            x.refer(22, place, 23);
            x.refer(23, place, 0);
        }
        x.shrink();
        due("all places", x.kept(22, 1), 64);
        due("the first place they lead to", x.kept(23, 1), 1);
        due("not on from there", x.kept(0, 1), 0);
        dueValues("the first byte they lead to", x, 2, 256, 1, 1, 1);
        x = withEntry(SET, 0, 63, 0, FOLLOW, 0, 5, 0, OUT, 0, 0, 0);
        x.item(5, 64, 1, 0, false);
        x.refer(5, 63, 5);
        x.shrink();
        dueRead("itself", x, 5, 0, 63);
        dueValues("itself, into its own place's register", x, 2, 1, 1, 1, 1);
    }

    private static void followsOfNone() {
        sentence(16, "without one nothing goes on.");
        for (int place : new int[] {0, 2, 3, 64, 255}) {
            DataShrinker x = withEntry(SET, 0, place, 0, FOLLOW, 1, 5, 0, OUT, 1, 0, 0);
            x.item(5, 3, 1, 0, true);
            x.item(6, 3, 1, 0, true);
            x.refer(5, 1, 6);
            x.shrink();
            dueValues("place " + place, x, 2, 0, 0, 0, 0);
            due("not read, place " + place, x.kept(5, 1), 0);
            due("not read, place " + place, x.kept(6, 1), 0);
        }
        DataShrinker x = withEntry(FOLLOW, 1, 5, 0, OUT, 1, 0, 0);
        x.shrink();
        dueValues("without a size", x, 1, 0, 0, 0, 0);
        x.item(5, 1, 1, 0, false);
        x.item(6, 1, 1, 0, false);
        x.refer(5, 0, 6);
        x.item(6, 0, 1, 0, false);
        x.shrink();
        dueValues("the reference went with its item", x, 1, 0, 0, 0, 0);
    }

    private static void skips() {
        sentence(18, "SKIP: with {0} alone there, if 0 is in the set;");
        DataShrinker x = withEntry(IN, 0, 0, 0, IN, 1, 0, 0, SKIP, 0, 1, 0, RETURN, 0, 0, 0, LOAD, 2, 5, 0, OUT, 0, 0, 0);
        x.item(5, 64, 1, 0, false);
        x.shrink();
        dueValues("0 alone, the other sets whole", x, 4, 1, 256, 1, 1);
        dueRead("0 alone", x, 5, 0);
        x = withEntry(IN, 0, 0, 0, AND, 0, 254, 0, ADD, 0, 1, 0, SKIP, 0, 1, 0, RETURN, 0, 0, 0, OUT, 0, 0, 0);
        x.shrink();
        dueValues("0 is not in the set", x, 5, 0, 0, 0, 0);
        dueValues("0 is not in the set", x, 4, 128, 1, 1, 1);
        sentence(18, "with the rest on, if there is any.");
        x = withEntry(IN, 0, 0, 0, AND, 0, 33, 0, SKIP, 0, 2, 0, LOAD, 2, 5, 0, OUT, 0, 0, 0, OUT, 0, 0, 0);
        x.item(5, 64, 1, 0, false);
        x.shrink();
        dueRead("without 0", x, 5, 1, 32, 33);
        dueValues("without 0", x, 4, 3, 1, 1, 1);
        dueValues("together again", x, 5, 4, 1, 1, 1);
        x = withEntry(
            SKIP, 0, 1, 0, OUT, 0, 0, 0, SET, 0, 64, 0, SKIP, 0, 0, 0, SET, 0, 255, 0, SKIP, 0, 1, 0, OUT, 0, 0, 0);
        x.shrink();
        dueValues("no rest", x, 1, 0, 0, 0, 0);
        dueValues("64 is a rest", x, 4, 1, 1, 1, 1);
        dueValues("255 is a rest", x, 6, 1, 1, 1, 1);
        for (int v : new int[] {1, 63, 64, 127, 128, 191, 192, 255}) {
            x = withEntry(SET, 0, v, 0, SKIP, 0, 1, 0, OUT, 0, 0, 0, OUT, 1, 0, 0);
            x.shrink();
            dueValues(v + " goes on", x, 2, 1, 1, 1, 1);
            dueValues(v + " goes on", x, 3, 1, 1, 1, 1);
        }
        x = withEntry(IN, 0, 0, 0, SKIP, 0, 0, 0, OUT, 0, 0, 0, SKIP, 0, -1, 0, OUT, 0, 0, 0);
        x.shrink();
        dueValues("both to the next one", x, 2, 256, 1, 1, 1);
        dueValues("0 back to itself, the rest on", x, 4, 255, 1, 1, 1);
    }

    private static void calls() {
        sentence(
            18,
            "CALL: the STATE goes to the FUNCTION's begin; and what RETURNS from it, from whatever CALL,"
                + " goes on behind each CALL of it that was come to.");
        DataShrinker x = withEntry(
            SET, 0, 3, 0, CALL, 11, 0, 0, OUT, 0, 0, 0, SET, 0, 5, 0, CALL, 11, 0, 0, OUT, 0, 0, 0, RETURN, 0, 0, 0,
            SET, 0, 7, 0, CALL, 11, 0, 0, OUT, 0, 0, 0);
        add(x, 11, IN, 3, 0, 0, SKIP, 3, 1, 0, RETURN, 0, 0, 0, ADD, 1, 1, 0);
        x.shrink();
        due("both states", x.values(11, 0, 0), 2);
        dueValues("behind the first, what returns from the second too", x, 2, 2, 256, 1, 256);
        dueValues("behind the second", x, 5, 2, 256, 1, 256);
        dueValues("a call not come to", x, 9, 0, 0, 0, 0);
        x = withEntry(CALL, 1, 0, 0, OUT, 0, 0, 0);
        x.shrink();
        dueValues("of an empty one", x, 1, 1, 1, 1, 1);
        add(x, 1, CALL, 2, 0, 0, OUT, 0, 0, 0);
        add(x, 2, CALL, 1, 0, 0);
        x.shrink();
        dueValues("of one that never returns", x, 1, 0, 0, 0, 0);
        due("nor within", x.values(1, 1, 0), 0);
        x = withEntry(CALL, 1, 0, 0, OUT, 0, 0, 0);
        add(x, 1, ADD, 0, 1, 0);
        x.entry(1, true);
        add(x, 2, SET, 0, 9, 0, CALL, 1, 0, 0, OUT, 0, 0, 0);
        x.entry(2, true);
        x.shrink();
        due("entry and two calls", x.values(1, 0, 0), 2);
        dueValues("from another function's call too", x, 1, 2, 1, 1, 1);
        due("and behind that", x.values(2, 2, 0), 2);
        x = withEntry(IN, 0, 0, 0, AND, 0, 3, 0, CALL, 3, 0, 0, LOAD, 1, 5, 0);
        add(x, 3, SKIP, 0, 2, 0, ADD, 0, -1, 0, CALL, 3, 0, 0, ADD, 0, 8, 0);
        x.item(5, 64, 1, 0, false);
        x.shrink();
        due("it calls itself", x.values(3, 0, 0), 4);
        dueRead("what returns, round and round", x, 5, 0, 8, 16, 24, 32, 40, 48, 56);
    }

    private static void untilNothingMoreComes() {
        sentence(18, "At first the bytes as told may stand; all goes on until nothing more comes.");
        DataShrinker x = withEntry(LOAD, 1, 5, 0, OUT, 1, 0, 0);
        tell(x, 5, 1, 8);
        x.shrink();
        dueValues("as told alone", x, 1, 1, 1, 1, 1);
        x.bytes(5, 0, 1, row(9));
        x.shrink();
        dueValues("as told now", x, 1, 1, 1, 1, 1);
        x = withEntry(LOAD, 1, 5, 0, ADD, 1, 1, 0, STORE, 5, 0, 1, OUT, 1, 0, 0);
        tell(x, 5, 1, 8);
        x.shrink();
        dueValues("what is stored is loaded, round and round", x, 3, 1, 256, 1, 1);
        x.clear(0);
        add(x, 0, LOAD, 1, 5, 0, OUT, 1, 0, 0);
        x.shrink();
        dueValues("at first, anew", x, 1, 1, 1, 1, 1);
        x = withEntry(OUT, 0, 0, 0, ADD, 0, 1, 0, SKIP, 1, -3, 0);
        x.shrink();
        dueValues("one more each time", x, 0, 256, 1, 1, 1);
        x = withEntry(OUT, 0, 0, 0, ADD, 0, 6, 0, SKIP, 1, -3, 0);
        x.shrink();
        dueValues("six more each time", x, 0, 128, 1, 1, 1);
        x = new DataShrinker();
        for (int f = 0; f < 12; f++) {
            add(x, f, LOAD, 1, f, 0, STORE, f + 1, 0, 1, OUT, 1, 0, 0);
            tell(x, f, 1, 100 + f);
            x.entry(f, true);
        }
        tell(x, 12, 1, 112);
        x.shrink();
        for (int f = 0; f < 12; f++) {
            due("handed on through " + f, x.values(f, 2, 1), f + 1);
        }
        x = new DataShrinker();
        for (int f = 0; f < 12; f++) {
            add(x, f, LOAD, 1, 11 - f, 0, STORE, 12 - f, 0, 1, OUT, 1, 0, 0);
            tell(x, f, 1, 100 + f);
            x.entry(f, true);
        }
        tell(x, 12, 1, 112);
        x.shrink();
        for (int f = 0; f < 12; f++) {
            due("handed on back through " + f, x.values(f, 2, 1), 12 - f);
        }
    }

    private static void notAsked() {
        sentence(18, "(Neither STEPS nor DEPTH nor the order of things is asked.)");
        DataShrinker x = withEntry(
            ADD, 0, 1, 0, SKIP, 0, 1, 0, SKIP, 3, -3, 0, ADD, 1, 1, 0, SKIP, 1, 1, 0, SKIP, 3, -6, 0, OUT, 0, 0, 0);
        due("steps", x.run(0), 2);
        due("never out", x.ran(0), 0);
        x.shrink();
        dueValues("out behind 65536 rounds", x, 6, 1, 1, 1, 1);
        x = withEntry(ADD, 0, 1, 0, ADD, 0, -20, 0, SKIP, 0, 2, 0, ADD, 0, 20, 0, CALL, 0, 0, 0, LOAD, 1, 5, 3);
        x.item(5, 1, 1, 0, false);
        due("depth", x.run(0), 3);
        x.shrink();
        dueValues("come to with twenty open", x, 5, 1, 1, 1, 1);
        due("read with twenty open", x.kept(5, 1), 1);
        x = withEntry(LOAD, 1, 5, 0, SKIP, 1, 1, 0, RETURN, 0, 0, 0, SET, 2, 4, 0, OUT, 1, 0, 0);
        add(x, 1, STORE, 5, 0, 0);
        tell(x, 5, 1, 8);
        x.shrink();
        dueValues("no 0 is told", x, 4, 0, 0, 0, 0);
        x.entry(1, true);
        x.shrink();
        dueValues("0 is stored by another entry", x, 4, 1, 1, 1, 1);
        x.entry(1, false);
        x.clear(0);
        add(x, 0, LOAD, 1, 5, 0, OUT, 1, 0, 0, STORE, 5, 0, 0);
        x.shrink();
        dueValues("0 is stored later", x, 1, 1, 2, 1, 1);
        x.clear(0);
        add(x, 0, STORE, 5, 0, 0, LOAD, 1, 5, 0, OUT, 1, 0, 0);
        x.shrink();
        dueValues("the byte as told may stand though it is overwritten", x, 2, 1, 2, 1, 1);
        x = new DataShrinker();
        add(x, 9, FOLLOW, 1, 6, 0, OUT, 1, 0, 0, STORE, 5, 0, 0);
        x.entry(9, true);
        tell(x, 5, 1, 8);
        tell(x, 6, 1, 7);
        x.refer(6, 0, 5);
        x.shrink();
        due("0 is stored later where a reference leads", x.values(9, 1, 1), 2);
    }

    private static void keptThings() {
        sentence(
            15,
            "KEPT are FUNCTIONS that are come to, VITAL ITEMS, ITEMS of which a place is READ,"
                + " and all of a GROUP (with a SIZE) of which one is kept.");
        DataShrinker x = withEntry(
            CALL, 1, 0, 0, LOAD, 0, 5, 0, FOLLOW, 0, 6, 3, RETURN, 0, 0, 0, CALL, 3, 0, 0, LOAD, 0, 8, 0);
        add(x, 4, OUT, 0, 0, 0);
        x.item(5, 1, 1, 0, false);
        x.item(6, 1, 1, 0, false);
        x.item(7, 1, 1, 0, false);
        x.item(8, 1, 1, 0, false);
        x.item(9, 1, 1, 0, true);
        x.refer(6, 0, 7);
        x.refer(7, 0, 8);
        x.entry(11, true);
        x.shrink();
        for (int f = 0; f < 12; f++) {
            due("function " + f, x.function(f, 0), f == 0 || f == 1 || f == 11 ? 1 : 0);
        }
        int[] want = {1, 1, 1, 0, 1};
        for (int k = 5; k < 10; k++) {
            due("item " + k, x.kept(k, 0), want[k - 5]);
        }
    }

    private static void keptGroups() {
        DataShrinker x = withEntry(LOAD, 0, 12, 0, STORE, 20, 0, 0);
        for (int k = 0; k < 24; k++) {
            x.item(k, 2, 1, k % 4, k == 13);
        }
        x.item(21, 0, 1, 1, true);
        x.item(22, 0, 1, 2, true);
        x.shrink();
        for (int k = 0; k < 24; k++) {
            int want = k == 12 || k % 4 == 1 ? 1 : 0;
            due("item " + k, x.kept(k, 0), k == 21 || k == 22 ? -1 : want);
        }
        due("twenty-two", x.shrunk(0) + x.shrunk(1), 22);
        x.item(13, 2, 1, 1, false);
        x.shrink();
        due("none of the group any more", x.kept(1, 0), 0);
        x.clear(0);
        add(x, 0, SET, 0, 1, 0, LOAD, 0, 1, 0);
        x.shrink();
        due("by one that is read", x.kept(17, 0), 1);
        due("not read itself", x.kept(17, 1), 0);
        for (int k = 0; k < 24; k++) {
            x = new DataShrinker();
            x.item(k, 1, 1, 2, true);
            x.item(23 - k, 1, 1, 2, false);
            x.shrink();
            due("by " + k, x.kept(23 - k, 0), 1);
        }
    }

    private static void dropped() {
        sentence(15, "Others are DROPPED.");
        DataShrinker x = withEntry(STORE, 5, 0, 0, SAME, 1, 6, 7, SET, 0, 1, 0, LOAD, 1, 8, 0);
        add(x, 1, LOAD, 1, 10, 2);
        for (int k = 5; k < 11; k++) {
            tell(x, k, 1, k);
        }
        x.refer(9, 0, 10);
        due("nothing is laid", x.shrink(), 0);
        for (int k = 5; k < 11; k++) {
            due("item " + k, x.kept(k, 0), 0);
            due("no address " + k, x.kept(k, 4), -1);
        }
        due("kept", x.shrunk(0), 0);
        due("dropped", x.shrunk(1), 6);
        due("bytes", x.shrunk(2), 6);
        for (int f = 1; f < 12; f++) {
            due("function " + f, x.function(f, 0), 0);
        }
    }

    private static void chainsOfFunctions() {
        sentence(17, "WHY: a shortest chain from an ENTRY to a FUNCTION or ITEM: ENTRY;");
        DataShrinker x = withEntry(CALL, 1, 0, 0);
        add(x, 1, CALL, 2, 0, 0, CALL, 0, 0, 0);
        add(x, 2, CALL, 0, 0, 0);
        x.entry(2, true);
        x.shrink();
        due("an entry", x.function(0, 2), 1);
        due("called by an entry", x.function(1, 2), 2);
        due("an entry that is called", x.function(2, 2), 1);
        x.entry(0, false);
        x.shrink();
        due("no entry any more, called by one", x.function(0, 2), 2);
        due("called by that", x.function(1, 2), 3);
        x.entry(2, false);
        x.shrink();
        due("no entry at all", x.function(2, 2), -1);
        due("no entry at all", x.function(0, 2), -1);
        x = new DataShrinker();
        add(x, 1, CALL, 2, 0, 0, LOAD, 0, 5, 0);
        x.entry(1, true);
        x.item(5, 1, 1, 0, false);
        x.shrink();
        due("neither an entry nor called", x.function(0, 2), -1);
        due("called", x.function(2, 2), 2);
        due("read", x.kept(5, 6), 2);
        x.clear(1);
        x.shrink();
        due("called no more", x.function(2, 2), -1);
        due("read no more", x.kept(5, 6), -1);
        sentence(17, "FUNCTION to FUNCTION by a CALL come to;");
        x = withEntry(CALL, 1, 0, 0, SET, 0, 1, 0, SKIP, 0, 1, 0, CALL, 2, 0, 0, RETURN, 0, 0, 0, CALL, 3, 0, 0);
        add(x, 1, CALL, 4, 0, 0);
        add(x, 2, CALL, 4, 0, 0, LOAD, 1, 0, 0, CALL, 5, 0, 0);
        x.shrink();
        int[] want = {1, 2, 2, -1, 3, -1, -1};
        for (int f = 0; f < want.length; f++) {
            due("function " + f, x.function(f, 2), want[f]);
        }
    }

    private static void chainsToItems() {
        sentence(15, "FUNCTION to ITEM by LOAD, FOLLOW come to that READ it;");
        DataShrinker x = withEntry(
            CALL, 1, 0, 0, STORE, 5, 0, 0, SAME, 0, 6, 7, SET, 0, 1, 0, LOAD, 1, 8, 0, FOLLOW, 1, 9, 0, SET, 0, 2, 0,
            LOAD, 1, 10, 0, LOAD, 1, 8, 3);
        add(x, 1, LOAD, 1, 10, 0, LOAD, 1, 8, 0, SKIP, 3, 1, 0, LOAD, 1, 11, 0, LOAD, 1, 12, 0);
        for (int k = 5; k < 13; k++) {
            x.item(k, 2, 1, 0, true);
        }
        x.refer(9, 1, 9);
        x.shrink();
        int[] want = {-1, -1, -1, 2, 2, 3, -1, 3};
        for (int k = 5; k < 13; k++) {
            due("item " + k, x.kept(k, 6), want[k - 5]);
        }
    }

    private static void chainsByReferences() {
        sentence(15, "ITEM to ITEM by a REFERENCE FOLLOWED.");
        DataShrinker x = withEntry(FOLLOW, 0, 5, 1, CALL, 1, 0, 0);
        add(x, 1, CALL, 2, 0, 0);
        add(x, 2, CALL, 3, 0, 0);
        add(x, 3, SET, 3, 1, 0, FOLLOW, 0, 6, 3, LOAD, 0, 8, 3);
        for (int k = 5; k < 10; k++) {
            x.item(k, 2, 1, 0, true);
        }
        x.refer(5, 0, 6);
        x.refer(5, 1, 8);
        x.refer(6, 0, 9);
        x.refer(6, 1, 7);
        x.shrink();
        due("read by the entry", x.kept(5, 6), 2);
        due("by its reference", x.kept(6, 6), 3);
        due("on from there, though a far function follows", x.kept(7, 6), 4);
        due("a reference that is not followed: by the far function", x.kept(8, 6), 5);
        due("a reference that is not followed", x.kept(9, 6), -1);
    }

    private static void chainLengths() {
        sentence(15, "Its length: how many things are in it.");
        DataShrinker x = withEntry(CALL, 1, 0, 0);
        for (int f = 1; f < 11; f++) {
            add(x, f, CALL, f + 1, 0, 0);
        }
        add(x, 11, FOLLOW, 0, 22, 0);
        x.item(22, 1, 1, 0, false);
        x.item(23, 1, 1, 0, false);
        x.refer(22, 0, 23);
        x.shrink();
        for (int f = 0; f < 12; f++) {
            due("function " + f, x.function(f, 2), f + 1);
        }
        due("item 22", x.kept(22, 6), 13);
        due("item 23", x.kept(23, 6), 14);
        add(x, 5, CALL, 11, 0, 0);
        x.shrink();
        due("a call behind one that returns", x.function(11, 2), 7);
        due("all is nearer", x.kept(23, 6), 9);
    }

    private static void keptAnswers() {
        sentence(15, "Of an ITEM by the latest shrink() what 0: 1 if KEPT, else 0,");
        DataShrinker x = withEntry(LOAD, 1, 23, 0, STORE, 22, 0, 0, STORE, 0, 0, 0, SAME, 1, 0, 1, SAME, 1, 2, 2);
        for (int k : new int[] {0, 1, 2, 22, 23}) {
            tell(x, k, 1, k + 1, 9);
        }
        x.shrink();
        due("kept", x.kept(23, 0), 1);
        due("dropped", x.kept(0, 0), 0);
        x.item(23, 1, 1, 0, false);
        x.clear(0);
        due("by the latest shrink(), not as told since", x.kept(23, 0), 1);
        sentence(15, "2: 1 if WRITTEN,");
        due("written", x.kept(22, 2), 1);
        due("written", x.kept(0, 2), 1);
        due("not written", x.kept(23, 2), 0);
        due("not written", x.kept(1, 2), 0);
        sentence(15, "3: 1 if COMPARED,");
        due("compared", x.kept(0, 3), 1);
        due("compared", x.kept(1, 3), 1);
        due("with itself", x.kept(2, 3), 0);
        due("not compared", x.kept(23, 3), 0);
        x.shrink();
        due("not written any more", x.kept(22, 2), 0);
        due("not compared any more", x.kept(0, 3), 0);
        due("not kept any more", x.kept(23, 0), 0);
    }

    private static void keptPlaces() {
        sentence(15, "1: places READ,");
        for (int size : new int[] {1, 2, 63, 64}) {
            DataShrinker x = withEntry(IN, 0, 0, 0, LOAD, 1, 5, 0);
            x.item(5, size, 1, 0, false);
            x.item(6, size, 1, 0, true);
            x.shrink();
            due("all of " + size, x.kept(5, 1), size);
            due("none", x.kept(6, 1), 0);
            x.clear(0);
            due("by the latest shrink()", x.kept(5, 1), size);
            x.shrink();
            due("none any more", x.kept(5, 1), 0);
        }
        DataShrinker x = withEntry(LOAD, 1, 5, 0, LOAD, 1, 5, 0, FOLLOW, 1, 5, 0);
        x.item(5, 3, 1, 0, false);
        x.refer(5, 0, 5);
        x.shrink();
        due("one place by three", x.kept(5, 1), 1);
    }

    private static void keptHolders() {
        sentence(15, "4: its address (NONE: DROPPED),");
        DataShrinker x = new DataShrinker();
        tellVital(x, 2, 1, 1, 2, 3);
        tellVital(x, 4, 4, 1, 2, 3, 4);
        tellVital(x, 6, 1, 1, 2, 3);
        tellVital(x, 8, 1, 3);
        tellVital(x, 9, 2, 3, 4);
        tell(x, 10, 1, 3, 4);
        due("bytes", x.shrink(), 7);
        int[] items = {2, 4, 6, 8, 9, 10};
        int[] addresses = {4, 0, 4, 6, 2, -1};
        for (int n = 0; n < items.length; n++) {
            due("address of " + items[n], x.kept(items[n], 4), addresses[n]);
        }
        sentence(15, "5: the ITEM that stands for it, or that it is laid within (NONE),");
        int[] holders = {-1, -1, 2, 2, 4, -1};
        for (int n = 0; n < items.length; n++) {
            due("holder of " + items[n], x.kept(items[n], 5), holders[n]);
        }
        sentence(15, "6: length of WHY (NONE: no chain leads to it).");
        due("vital alone", x.kept(2, 6), -1);
        due("dropped", x.kept(10, 6), -1);
        x.entry(3, true);
        add(x, 3, LOAD, 1, 6, 0);
        x.shrink();
        due("read", x.kept(6, 6), 2);
        due("not the one that stands for it", x.kept(2, 6), -1);
    }

    private static void keptNone() {
        sentence(15, "NONE without a SIZE then, or for another what.");
        DataShrinker x = new DataShrinker();
        x.item(5, 1, 1, 0, true);
        for (int what = -1; what <= 7; what++) {
            due("ahead of any", x.kept(5, what), -1);
        }
        x.shrink();
        due("what 7", x.kept(5, 7), -1);
        for (int odd : ODD) {
            due("odd what", x.kept(5, odd), -1);
            due("odd item", x.kept(odd, 0), -1);
        }
        due("item 24", x.kept(24, 0), -1);
        x.item(6, 1, 1, 0, true);
        x.item(5, 0, 1, 0, true);
        for (int what = 0; what < 7; what++) {
            due("none then, what " + what, x.kept(6, what), -1);
        }
        due("one then, none now", x.kept(5, 0), 1);
        due("one then, none now", x.kept(5, 4), 0);
        x.shrink();
        due("none then", x.kept(5, 0), -1);
        due("one then", x.kept(6, 0), 1);
    }

    private static void readAnswers() {
        sentence(16, "1 if a place of an ITEM may be READ, 0 if not;");
        DataShrinker x = withEntry(SET, 0, 63, 0, LOAD, 1, 23, 0, LOAD, 1, 23, 3);
        x.item(23, 64, 1, 0, false);
        x.item(22, 1, 1, 0, true);
        x.item(21, 2, 1, 0, false);
        x.shrink();
        dueRead("first and last", x, 23, 0, 63);
        due("vital", x.read(22, 0), 0);
        due("dropped", x.read(21, 0), 0);
        due("dropped", x.read(21, 1), 0);
        sentence(16, "NONE likewise, or without the place.");
        due("place 64", x.read(23, 64), -1);
        due("place 1 of one", x.read(22, 1), -1);
        due("place 2 of two", x.read(21, 2), -1);
        due("without a size", x.read(20, 0), -1);
        due("item 24", x.read(24, 0), -1);
        for (int odd : ODD) {
            due("odd item", x.read(odd, 0), -1);
            due("odd place", x.read(23, odd), -1);
        }
        x.item(20, 1, 1, 0, true);
        x.item(23, 1, 1, 0, true);
        due("without a size then", x.read(20, 0), -1);
        due("with the place then", x.read(23, 63), 1);
        due("ahead of any", new DataShrinker().read(0, 0), -1);
    }

    private static void functionAnswers() {
        sentence(17, "Of a FUNCTION by it what 0: 1 if KEPT, else 0,");
        DataShrinker x = withEntry(CALL, 1, 0, 0, SKIP, 0, 1, 0, OUT, 0, 0, 0, CALL, 2, 0, 0, OUT, 0, 0, 0);
        add(x, 2, LOAD, 0, 0, 0, OUT, 0, 0, 0);
        for (int n = 0; n < 40; n++) {
            add(x, 11, OUT, 0, 0, 0);
        }
        due("ahead of any", x.function(0, 0), -1);
        x.shrink();
        int[] kept = {1, 1, 1, 0};
        for (int f = 0; f < 4; f++) {
            due("function " + f, x.function(f, 0), kept[f]);
        }
        due("not come to", x.function(11, 0), 0);
        sentence(17, "1: INSTRUCTIONS that are come to,");
        int[] comeTo = {3, 0, 1, 0};
        for (int f = 0; f < 4; f++) {
            due("function " + f, x.function(f, 1), comeTo[f]);
        }
        due("not come to", x.function(11, 1), 0);
        sentence(17, "2: length of WHY (NONE).");
        int[] why = {1, 2, 2, -1};
        for (int f = 0; f < 4; f++) {
            due("function " + f, x.function(f, 2), why[f]);
        }
        due("not come to", x.function(11, 2), -1);
        x.entry(11, true);
        due("by the latest shrink()", x.function(11, 0), 0);
        x.shrink();
        due("kept now", x.function(11, 0), 1);
        due("all forty", x.function(11, 1), 40);
        due("an entry", x.function(11, 2), 1);
        x.entry(11, false);
        x.shrink();
        due("no entry any more", x.function(11, 0), 0);
        due("no entry any more", x.function(11, 1), 0);
        due("no entry any more", x.function(11, 2), -1);
        sentence(17, "NONE without it, or for another what.");
        due("function 12", x.function(12, 0), -1);
        due("what 3", x.function(0, 3), -1);
        for (int odd : ODD) {
            due("odd function", x.function(odd, 0), -1);
            due("odd what", x.function(0, odd), -1);
        }
    }

    private static void valuesAnswers() {
        sentence(18, "How many values REGISTER r may have as INSTRUCTION i of a FUNCTION is come to (0: it is not);");
        DataShrinker x = new DataShrinker();
        x.entry(11, true);
        for (int n = 0; n < 38; n++) {
            add(x, 11, IN, n % 4, 0, 0);
        }
        add(x, 11, RETURN, 0, 0, 0, OUT, 0, 0, 0);
        x.shrink();
        for (int r = 0; r < 4; r++) {
            for (int i = 0; i < 39; i++) {
                due("instruction " + i + ", register " + r, x.values(11, i, r), i > r ? 256 : 1);
            }
            due("not come to, register " + r, x.values(11, 39, r), 0);
        }
        x.clear(11);
        due("by the latest shrink()", x.values(11, 1, 0), 256);
        add(x, 11, OUT, 0, 0, 0, OUT, 0, 0, 0);
        x.shrink();
        due("by the latest shrink()", x.values(11, 1, 0), 1);
        x = new DataShrinker();
        x.entry(0, true);
        for (int n = 5; n < 8; n++) {
            x.clear(0);
            x.clear(1);
            add(x, 0, SET, 0, n, 0, CALL, 1, 0, 0, OUT, 0, 0, 0);
            add(x, 1, SET, 3, n, 0, OUT, 0, 0, 0);
            x.shrink();
            for (int r = 0; r < 4; r++) {
                due("nothing of the shrink() ahead, at its begin", x.values(1, 0, r), 1);
                due("nothing of the shrink() ahead, what it returns", x.values(0, 2, r), 1);
            }
        }
    }

    private static void valuesNone() {
        sentence(18, "NONE without these.");
        DataShrinker x = withEntry(OUT, 0, 0, 0, OUT, 0, 0, 0);
        due("ahead of any", x.values(0, 0, 0), -1);
        x.shrink();
        due("last one", x.values(0, 1, 3), 1);
        due("instruction 2", x.values(0, 2, 0), -1);
        due("instruction 40", x.values(0, 40, 0), -1);
        due("register 4", x.values(0, 0, 4), -1);
        due("function 12", x.values(12, 0, 0), -1);
        due("an empty function", x.values(1, 0, 0), -1);
        for (int odd : ODD) {
            due("odd function", x.values(odd, 0, 0), -1);
            due("odd instruction", x.values(0, odd, 0), -1);
            due("odd register", x.values(0, 0, odd), -1);
        }
    }
}
