/** How what is kept is laid: part IV, and promises 14, 19 and 20. */
final class SentencesOfLaying extends Sentences {
    private SentencesOfLaying() {
    }

    static void all() {
        still();
        stillAllTheSame();
        alike();
        notAlike();
        greatestAlign();
        leastOuter();
        outerLaidWithin();
        holdsOneYet();
        endsWithItsBytes();
        alignOfTails();
        outersThatAreNone();
        blocks();
        fewestBytes();
        firstByNumbers();
        eightBlocks();
        bytesInAll();
        octets();
        counts();
        countsOfOthers();
        countsNone();
    }

    private static void still() {
        sentence(14, "ITEMS KEPT that have no REFERENCE, are not WRITTEN and not COMPARED are STILL.");
        for (int k = 4; k <= 5; k++) {
            DataShrinker x = alikeTwo();
            due("still", x.shrink(), 3);
            due("still", x.kept(5, 5), 4);
            for (int place = 0; place < 3; place++) {
                x.refer(k, place, 23);
                due("a reference of " + k + " at " + place, x.shrink(), 6);
                due("a reference of " + k + " at " + place, x.kept(5, 5), -1);
                x.refer(k, place, -1);
            }
            add(x, 0, STORE, k, 0, 0);
            due("written " + k, x.shrink(), 6);
            x.clear(0);
            add(x, 0, SAME, 0, k, 23);
            due("compared " + k, x.shrink(), 6);
            x.clear(0);
            add(x, 0, SAME, 0, 22, k);
            due("compared with one that has no size, " + k, x.shrink(), 6);
            x.clear(0);
            tell(x, k, 1, 7, 8, 9);
            due("dropped " + k, x.shrink(), 3);
            due("dropped " + k, x.kept(k, 4), -1);
            due("dropped " + k, x.kept(9 - k, 4), 0);
            due("dropped " + k, x.kept(5, 5), -1);
        }
    }

    /** Items 4 and 5 are alike and vital, 23 is dropped; function 0 is an entry. */
    private static DataShrinker alikeTwo() {
        DataShrinker x = withEntry();
        tellVital(x, 4, 1, 7, 8, 9);
        tellVital(x, 5, 1, 7, 8, 9);
        tell(x, 23, 1, 6);
        return x;
    }

    private static void stillAllTheSame() {
        DataShrinker x = alikeTwo();
        x.refer(23, 0, 4);
        due("a reference to it", x.shrink(), 3);
        add(x, 0, SAME, 0, 4, 4, SAME, 0, 5, 5, SET, 0, 3, 0, STORE, 4, 0, 0, STORE, 4, 1, 0, SAME, 0, 4, 5);
        due("with itself, at no place, and not come to", x.shrink(), 3);
        due("not written", x.kept(4, 2), 0);
        due("not compared", x.kept(4, 3), 0);
        add(x, 1, SAME, 0, 4, 5, STORE, 4, 0, 0);
        due("by code that is not come to", x.shrink(), 3);
        x.entry(1, true);
        due("by code that is come to now", x.shrink(), 6);
        x.entry(1, false);
        due("and is no more", x.shrink(), 3);
    }

    private static void alike() {
        sentence(
            14,
            "Of STILL ones that are alike (SIZE, all bytes) the least stands for all"
                + " (with the greatest ALIGN of them).");
        DataShrinker x = new DataShrinker();
        for (int k = 0; k < 24; k++) {
            x.item(k, 64, 1, 0, true);
            x.bytes(k, 63, 1, row(5));
        }
        due("twenty-four", x.shrink(), 64);
        for (int k = 0; k < 24; k++) {
            due("stands for " + k, x.kept(k, 5), k == 0 ? -1 : 0);
            due("address of " + k, x.kept(k, 4), 0);
        }
        for (int k = 0; k < 24; k++) {
            x.bytes(k, 0, 1, row(k % 3));
        }
        due("three kinds", x.shrink(), 192);
        for (int k = 0; k < 24; k++) {
            due("stands for " + k, x.kept(k, 5), k < 3 ? -1 : k % 3);
            due("address of " + k, x.kept(k, 4), k % 3 * 64);
        }
    }

    private static void notAlike() {
        for (int place : new int[] {0, 1, 62, 63}) {
            DataShrinker x = new DataShrinker();
            x.item(3, 64, 1, 0, true);
            x.item(8, 64, 1, 0, true);
            x.bytes(8, place, 1, row(1));
            due("one byte, at " + place, x.shrink(), 128);
            due("one byte, at " + place, x.kept(8, 5), -1);
            x.bytes(3, place, 1, row(1));
            due("no byte", x.shrink(), 64);
        }
        DataShrinker x = new DataShrinker();
        tellVital(x, 3, 2, 5, 5, 5);
        tellVital(x, 8, 2, 5, 5);
        due("size alone", x.shrink(), 5);
        due("size alone", x.kept(8, 5), -1);
        tellVital(x, 8, 2, 5, 5, 5);
        due("size too", x.shrink(), 3);
    }

    private static void greatestAlign() {
        int[][] aligns = {{1, 8, 2}, {8, 1, 1}, {1, 1, 4}, {2, 4, 1}, {1, 2, 1}};
        int[] greatest = {8, 8, 4, 4, 2};
        for (int n = 0; n < aligns.length; n++) {
            DataShrinker x = new DataShrinker();
            for (int k = 0; k < 7; k++) {
                tellVital(x, k, 1, 100 + k);
            }
            for (int k = 0; k < 3; k++) {
                tellVital(x, 10 + k, aligns[n][k], 7, 8);
            }
            due("behind seven, at " + greatest[n], x.shrink(), 10);
            for (int k = 0; k < 3; k++) {
                due("behind seven, item " + k, x.kept(10 + k, 4), 8);
            }
            tellVital(x, 9, 1, 109, 110);
            due("behind nine, at " + greatest[n], x.kept(10, 4), 8);
            x.shrink();
            due("behind nine, at " + greatest[n], x.kept(10, 4), (9 + greatest[n] - 1) / greatest[n] * greatest[n]);
        }
    }

    private static void leastOuter() {
        sentence(
            14,
            "Then of those that stand, by numbers: a STILL one within which none is laid yet is laid within the least"
                + " STILL one that stands, is longer, isn't laid within another one, ends with its bytes, and of which its"
                + " ALIGN divides the ALIGN and how many bytes are ahead of these.");
        DataShrinker x = new DataShrinker();
        tellVital(x, 2, 1, 1, 5);
        tellVital(x, 7, 1, 5);
        tellVital(x, 9, 1, 2, 5);
        tellVital(x, 11, 1, 3, 3, 5);
        due("the least of three", x.shrink(), 7);
        due("the least of three", x.kept(7, 5), 2);
        due("its address", x.kept(7, 4), 1);
        tellVital(x, 2, 1, 5);
        x.shrink();
        due("the same size is not longer, but alike", x.kept(7, 5), 2);
        due("a greater one may hold it", x.kept(2, 5), 9);
        due("its address", x.kept(2, 4), 1);
        due("and of the one it stands for", x.kept(7, 4), 1);
        x = new DataShrinker();
        tellVital(x, 0, 1, 9);
        x.item(23, 64, 1, 0, true);
        x.bytes(23, 63, 1, row(9));
        due("the longest holds the shortest", x.shrink(), 64);
        due("at its last byte", x.kept(0, 4), 63);
        x.item(0, 63, 1, 0, true);
        x.bytes(0, 62, 1, row(9));
        due("longer by one", x.shrink(), 64);
        due("behind its first byte", x.kept(0, 4), 1);
    }

    private static void outerLaidWithin() {
        DataShrinker x = new DataShrinker();
        tellVital(x, 3, 1, 2, 3, 4);
        tellVital(x, 4, 1, 4);
        tellVital(x, 5, 1, 1, 2, 3, 4);
        tellVital(x, 6, 1, 3, 4);
        due("all within one", x.shrink(), 4);
        due("three of four", x.kept(3, 5), 5);
        due("not within one that is laid within another", x.kept(4, 5), 5);
        due("nor this", x.kept(6, 5), 5);
        due("address", x.kept(3, 4), 1);
        due("address", x.kept(4, 4), 3);
        due("address", x.kept(6, 4), 2);
        due("three within", x.shrunk(5), 3);
    }

    private static void holdsOneYet() {
        DataShrinker x = new DataShrinker();
        tellVital(x, 3, 1, 4);
        tellVital(x, 4, 1, 3, 4);
        tellVital(x, 5, 1, 2, 3, 4);
        tellVital(x, 6, 1, 1, 2, 3, 4);
        due("two and two", x.shrink(), 6);
        due("the first within the second", x.kept(3, 5), 4);
        due("the second holds one", x.kept(4, 5), -1);
        due("the third holds none yet", x.kept(5, 5), 6);
        due("the fourth is the longest", x.kept(6, 5), -1);
        tellVital(x, 6, 1, 4);
        tellVital(x, 3, 1, 1, 2, 3, 4);
        due("the longest may come first", x.shrink(), 4);
        for (int k = 4; k < 7; k++) {
            due("all within the first, " + k, x.kept(k, 5), 3);
        }
        x = new DataShrinker();
        tellVital(x, 0, 1, 4);
        tellVital(x, 1, 1, 3, 4);
        tellVital(x, 2, 1, 2, 3, 4);
        due("item 0 is one that is laid within", x.shrink(), 5);
        due("item 0 is one that is laid within", x.kept(1, 5), -1);
        due("item 0 is one that is laid within", x.shrunk(5), 1);
    }

    private static void endsWithItsBytes() {
        int[][] outers = {{5, 6, 7}, {7, 5, 6}, {5, 7, 6}, {6, 5, 6}, {6, 5}, {5, 6, 0}, {0, 5, 6}};
        boolean[] ends = {false, true, false, true, false, false, true};
        for (int n = 0; n < outers.length; n++) {
            DataShrinker x = new DataShrinker();
            tellVital(x, 3, 1, outers[n]);
            tellVital(x, 4, 1, 5, 6);
            due("row " + n, x.shrink(), outers[n].length + (ends[n] ? 0 : 2));
            due("row " + n, x.kept(4, 5), ends[n] ? 3 : -1);
        }
    }

    /** Item 3 of a size and an align, and item 4 of two bytes that are its last ones. */
    private static int outerOf(int size, int align, int tailAlign) {
        DataShrinker x = new DataShrinker();
        x.item(3, size, align, 0, true);
        x.bytes(3, size - 2, 2, row(5, 6));
        tellVital(x, 4, tailAlign, 5, 6);
        x.shrink();
        return x.kept(4, 5);
    }

    private static void alignOfTails() {
        int[] aligns = {1, 2, 4, 8};
        for (int align : aligns) {
            for (int tail : aligns) {
                for (int ahead : new int[] {1, 2, 3, 4, 6, 8, 12, 16, 62}) {
                    boolean fits = align % tail == 0 && ahead % tail == 0;
                    due(tail + " in " + align + " behind " + ahead, outerOf(ahead + 2, align, tail), fits ? 3 : -1);
                }
            }
        }
        DataShrinker x = new DataShrinker();
        tellVital(x, 3, 1, 1, 1, 5, 6);
        tellVital(x, 4, 2, 5, 6);
        x.shrink();
        due("an align of 1 is too little", x.kept(4, 5), -1);
        tellVital(x, 5, 2, 1, 1, 5, 6);
        x.shrink();
        due("it stands for one with 2, too", x.kept(4, 5), 3);
        tellVital(x, 6, 8, 5, 6);
        x.shrink();
        due("the tail stands for one with 8", x.kept(4, 5), -1);
        due("the tail stands for one with 8", x.kept(6, 5), 4);
    }

    private static void outersThatAreNone() {
        DataShrinker x = withEntry(STORE, 2, 0, 0, SAME, 0, 3, 9);
        for (int k = 1; k < 6; k++) {
            tellVital(x, k, 1, k, 5, 6);
        }
        tell(x, 0, 1, 1, 5, 6);
        tellVital(x, 8, 1, 5, 6);
        tell(x, 9, 1, 9, 9);
        x.refer(1, 2, 9);
        x.shrink();
        due("not dropped 0, referring 1, written 2, compared 3", x.kept(8, 5), 4);
        tellVital(x, 4, 1, 5, 5, 6);
        x.shrink();
        due("5 is stood for", x.kept(5, 5), 4);
        due("the one that stands", x.kept(8, 5), 4);
        x.refer(8, 0, 9);
        x.shrink();
        due("it is not still itself", x.kept(8, 5), -1);
        x = withEntry(STORE, 8, 0, 0);
        tellVital(x, 3, 1, 4, 5, 6);
        tellVital(x, 8, 1, 5, 6);
        due("a written one is laid within none", x.shrink(), 5);
    }

    private static void blocks() {
        sentence(14, "The others are BLOCKS: laid one behind the other, each at the next address its ALIGN divides.");
        int[] sizes = {1, 1, 1, 1, 3, 5, 8, 9, 1, 64, 1};
        int[] aligns = {1, 2, 4, 8, 1, 4, 8, 2, 2, 1, 8};
        int[] addresses = {0, 2, 4, 8, 9, 12, 24, 32, 42, 43, 112};
        DataShrinker x = vitals(sizes, aligns);
        due("bytes", x.shrink(), 113);
        dueAddresses("eleven", x, addresses);
        due("blocks", x.shrunk(3), 11);
        x = withEntry(STORE, 3, 0, 0);
        for (int k = 3; k < 8; k++) {
            tellVital(x, k, 1, 7, 8);
        }
        x.refer(4, 0, 4);
        due("ones that are not still are blocks, too", x.shrink(), 6);
        due("blocks", x.shrunk(3), 3);
        x = new DataShrinker();
        x.item(9, 1, 8, 0, true);
        due("one alone", x.shrink(), 1);
        due("at 0", x.kept(9, 4), 0);
    }

    /** Vital items from 0 on, none alike and none a tail of another. */
    private static DataShrinker vitals(int[] sizes, int[] aligns) {
        DataShrinker x = new DataShrinker();
        for (int k = 0; k < sizes.length; k++) {
            x.item(k, sizes[k], aligns[k], 0, true);
            x.bytes(k, 0, 1, row(k + 1));
            x.bytes(k, sizes[k] - 1, 1, row(k + 101));
        }
        return x;
    }

    private static void dueAddresses(String what, DataShrinker x, int... addresses) {
        for (int k = 0; k < addresses.length; k++) {
            due(what + ", address of " + k, x.kept(k, 4), addresses[k]);
        }
    }

    private static void fewestBytes() {
        sentence(14, "With up to 7 BLOCKS: in the order that needs fewest bytes in all,");
        DataShrinker x = vitals(new int[] {1, 2}, new int[] {1, 2});
        due("two", x.shrink(), 3);
        dueAddresses("two", x, 2, 0);
        x = vitals(new int[] {1, 3, 2, 1, 1, 4, 8}, new int[] {1, 4, 4, 2, 1, 8, 8});
        due("seven", x.shrink(), 20);
        x = vitals(new int[] {1, 1, 1, 1, 1, 1, 1}, new int[] {1, 8, 1, 8, 1, 8, 1});
        due("seven, gaps to fill", x.shrink(), 17);
        dueAddresses("seven, gaps to fill", x, 1, 0, 2, 8, 9, 16, 10);
        x = vitals(new int[] {5, 8, 3, 7, 1, 6, 2}, new int[] {8, 8, 8, 8, 8, 8, 8});
        due("nothing counts behind the last one", x.shrink(), 49);
        dueAddresses("the one byte goes last", x, 0, 8, 16, 24, 48, 32, 40);
        for (int k = 3; k < 7; k++) {
            x.item(k, 0, 1, 0, true);
        }
        tellVital(x, 0, 1, 1);
        tellVital(x, 1, 2, 2, 2, 2);
        tellVital(x, 2, 4, 3, 3, 3, 3, 3);
        due("three where seven were", x.shrink(), 9);
        dueAddresses("three where seven were", x, 3, 0, 4);
        tellVital(x, 1, 1, 2, 2, 2);
        tellVital(x, 2, 4, 3, 3, 3, 3);
        due("three without a gap", x.shrink(), 8);
        dueAddresses("three without a gap", x, 0, 1, 4);
    }

    private static void firstByNumbers() {
        sentence(14, "of such orders the first by numbers;");
        DataShrinker x = vitals(new int[] {2, 2, 2, 2, 2, 2, 2}, new int[] {1, 2, 1, 2, 1, 2, 1});
        due("all orders alike", x.shrink(), 14);
        dueAddresses("all orders alike", x, 0, 2, 4, 6, 8, 10, 12);
        x = vitals(new int[] {3, 3, 1, 1}, new int[] {2, 2, 1, 1});
        due("two gaps, two to fill them", x.shrink(), 8);
        dueAddresses("two gaps, two to fill them", x, 0, 4, 3, 7);
        x = vitals(new int[] {1, 3, 4}, new int[] {1, 1, 4});
        due("0, 1, 2 has no gap", x.shrink(), 8);
        dueAddresses("0, 1, 2 has no gap", x, 0, 1, 4);
        x = vitals(new int[] {1, 2, 3, 2}, new int[] {1, 4, 1, 2});
        due("0, 2, 1, 3 is the first without a gap", x.shrink(), 8);
        dueAddresses("0, 2, 1, 3 is the first without a gap", x, 0, 4, 1, 6);
    }

    private static void eightBlocks() {
        sentence(14, "with more: by numbers.");
        DataShrinker x = vitals(new int[] {1, 2, 1, 2, 1, 2, 1, 2}, new int[] {1, 2, 1, 2, 1, 2, 1, 2});
        due("eight", x.shrink(), 16);
        dueAddresses("eight", x, 0, 2, 4, 6, 8, 10, 12, 14);
        x.item(7, 0, 1, 0, true);
        due("seven", x.shrink(), 10);
        x.item(7, 2, 2, 0, true);
        due("eight again", x.shrink(), 16);
        x.item(7, 1, 1, 0, true);
        x.bytes(7, 0, 1, row(105));
        due("seven, and one that another stands for", x.shrink(), 10);
        due("seven, and one that another stands for", x.kept(7, 5), 4);
        x.bytes(7, 0, 1, row(102));
        due("seven, and one that is laid within another", x.shrink(), 10);
        due("seven, and one that is laid within another", x.kept(7, 5), 1);
        x.item(7, 2, 2, 0, false);
        due("seven, and one that is dropped", x.shrink(), 10);
    }

    private static void bytesInAll() {
        sentence(14, "The program is shrunk: how many bytes it has as LAID.");
        DataShrinker x = new DataShrinker();
        due("none", x.shrink(), 0);
        for (int k = 0; k < 24; k++) {
            x.item(k, 64, 8, 0, true);
            x.bytes(k, 0, 1, row(k));
        }
        due("the most there may be", x.shrink(), 24 * 64);
        due("the last one", x.kept(23, 4), 23 * 64);
        due("its first byte", x.octet(23 * 64), 23);
        due("the last byte", x.octet(24 * 64 - 1), 0);
        due("behind the last byte", x.octet(24 * 64), -1);
        due("once more", x.shrink(), 24 * 64);
        for (int k = 0; k < 24; k++) {
            x.item(k, 57, 8, 0, true);
            x.bytes(k, 0, 1, row(k));
        }
        due("with a gap behind each but the last", x.shrink(), 23 * 64 + 57);
        for (int k = 0; k < 24; k++) {
            x.item(k, 57, 8, 0, false);
        }
        due("all dropped", x.shrink(), 0);
    }

    private static void octets() {
        sentence(19, "Byte i as LAID (0 between BLOCKS); NONE.");
        DataShrinker x = new DataShrinker();
        due("ahead of any", x.octet(0), -1);
        x.shrink();
        due("no byte", x.octet(0), -1);
        tellVital(x, 2, 8, 255, 254, 253);
        tellVital(x, 3, 8, 1, 2);
        tellVital(x, 4, 8, 253);
        tellVital(x, 5, 1, 253);
        due("not laid yet", x.octet(0), -1);
        x.shrink();
        dueOctets("gaps", x, 255, 254, 253, 0, 0, 0, 0, 0, 1, 2, 0, 0, 0, 0, 0, 0, 253);
        for (int odd : ODD) {
            due("odd", x.octet(odd), -1);
        }
        tellVital(x, 2, 8, 7, 7, 7, 7, 7, 7, 7, 7);
        x.entry(0, true);
        add(x, 0, STORE, 3, 0, 0, LOAD, 1, 3, 0, OUT, 1, 0, 0);
        dueOctets("of the latest shrink()", x, 255, 254, 253, 0, 0, 0, 0, 0, 1, 2, 0, 0, 0, 0, 0, 0, 253);
        x.shrink();
        dueOctets("of the next", x, 7, 7, 7, 7, 7, 7, 7, 7, 1, 2, 0, 0, 0, 0, 0, 0, 253);
        x.runLaid(0);
        dueOut("a run stores", x, 0);
        due("but not there", x.octet(8), 1);
        tell(x, 2, 8, 9, 9);
        tell(x, 4, 8, 9);
        x.shrink();
        dueOctets("what was there is gone", x, 1, 2, 253);
        x = new DataShrinker();
        tellVital(x, 2, 8, 255, 254, 253, 252, 251, 250, 249, 248, 247);
        x.shrink();
        tellVital(x, 2, 8, 1);
        tellVital(x, 3, 8, 2);
        x.shrink();
        dueOctets("0 where bytes were", x, 1, 0, 0, 0, 0, 0, 0, 0, 2);
    }

    private static void counts() {
        sentence(20, "Of the latest shrink() what 0: ITEMS KEPT, 1: DROPPED, 2: bytes (SIZES) of DROPPED ones,");
        DataShrinker x = new DataShrinker();
        for (int k = 0; k < 24; k++) {
            x.item(k, 64, 8, 0, false);
        }
        x.shrink();
        due("none kept", x.shrunk(0), 0);
        due("all dropped", x.shrunk(1), 24);
        due("all their bytes", x.shrunk(2), 24 * 64);
        x.item(23, 63, 8, 0, true);
        x.item(0, 1, 8, 0, true);
        x.item(7, 0, 1, 0, true);
        x.item(8, 1, 1, 0, false);
        due("of the latest, not as told since", x.shrunk(1), 24);
        due("of the latest, not as told since", x.shrunk(2), 24 * 64);
        x.shrink();
        due("two kept", x.shrunk(0), 2);
        due("one is none at all", x.shrunk(1), 21);
        due("their bytes", x.shrunk(2), 20 * 64 + 1);
        for (int k = 0; k < 24; k++) {
            x.item(k, 64, 8, 0, true);
        }
        x.shrink();
        due("all kept, though one stands for them", x.shrunk(0), 24);
        due("none dropped", x.shrunk(1), 0);
        due("none dropped", x.shrunk(2), 0);
    }

    private static void countsOfOthers() {
        sentence(20, "3: BLOCKS, 4: ITEMS that another one stands for, 5: laid within another one, 6: bytes as LAID.");
        DataShrinker x = new DataShrinker();
        x.shrink();
        for (int what = 3; what <= 6; what++) {
            due("none, what " + what, x.shrunk(what), 0);
        }
        for (int k = 0; k < 24; k++) {
            x.item(k, 64, 1, 0, true);
        }
        x.shrink();
        int[] alike = {1, 23, 0, 64};
        for (int what = 3; what <= 6; what++) {
            due("all alike, what " + what, x.shrunk(what), alike[what - 3]);
        }
        for (int k = 1; k < 24; k++) {
            x.item(k, k + 20, 1, 0, true);
        }
        x.shrink();
        int[] tails = {1, 0, 23, 64};
        for (int what = 3; what <= 6; what++) {
            due("all within the first, what " + what, x.shrunk(what), tails[what - 3]);
        }
        for (int k = 0; k < 24; k++) {
            x.item(k, 9, 8, 0, true);
            x.refer(k, 0, k);
        }
        int[] apart = {24, 0, 0, 23 * 16 + 9};
        for (int what = 3; what <= 6; what++) {
            due("of the latest, what " + what, x.shrunk(what), tails[what - 3]);
        }
        x.shrink();
        for (int what = 3; what <= 6; what++) {
            due("each a block, what " + what, x.shrunk(what), apart[what - 3]);
        }
        x = new DataShrinker();
        tellVital(x, 1, 1, 5, 6);
        tellVital(x, 2, 1, 5, 6);
        tellVital(x, 3, 1, 4, 5, 6);
        x.shrink();
        int[] both = {1, 1, 1, 3};
        for (int what = 3; what <= 6; what++) {
            due("one stands for another within a third, what " + what, x.shrunk(what), both[what - 3]);
        }
    }

    private static void countsNone() {
        sentence(20, "NONE ahead of any, or for another what.");
        DataShrinker x = withEntry();
        tellVital(x, 1, 1, 5, 6);
        x.run(0);
        for (int what = -1; what <= 7; what++) {
            due("ahead of any", x.shrunk(what), -1);
        }
        x.shrink();
        due("what 6", x.shrunk(6), 2);
        due("what 7", x.shrunk(7), -1);
        for (int odd : ODD) {
            due("odd what", x.shrunk(odd), -1);
        }
    }
}
