import java.util.ArrayList;
import java.util.List;

/** Each sentence that names an edge of what is told as bits, and of the order that takes fewer of them. */
public final class TellingEdgesTest extends Checks {
    /** A row in which ten tries change something. */
    private static final int[] LONG = {-5, 17, 11, 28, 0, 17, 27, 27, 21, 2, 16, 31, -4, 8, 19, 12, 14, 6, -8, 7};

    private static final String ONE_AT_0 = "010 00 0 00 000 CODES 000010001 1 0 0 0";

    public static void main(String[] args) {
        numbers();
        signedNumbers();
        howManyInstances();
        waysAsTold();
        nothingToTell();
        firstStrip();
        furtherStrips();
        firstOfAStrip();
        whatWouldStandNext();
        bitsOfT();
        runs();
        rowOfSymbols();
        onlySymbol();
        equalCounts();
        equalCountsOfWhatWasJoined();
        countsOfNow();
        lengthsOfAllSymbols();
        shortestFirst();
        longerByMoreThanOne();
        lastByte();
        mostBytes();
        triesOutside();
        fewerBitsOnly();
        neighboursOfOneStrip();
        wholeInstancesChangePlaces();
        orderingTellsNoBytes();
        theLastTry();
        noTriesWhenLaid();
        end();
    }

    private static TextRegions with(int kind, int... sides) {
        TextRegions x = new TextRegions(24, 24, kind);
        for (int i = 0; i < sides.length; i += 2) {
            x.symbol(sides[i], sides[i + 1]);
        }
        return x;
    }

    // BITS

    private static void numbers() {
        by("A NUMBER n from 0 on: k bits 0, a 1, and the lowest k bits of n + 1, the highest first,"
                + " where 2^k is the greatest such number not above n + 1.");
        String[] told = {"1", "010", "011", "00100", "00101", "00110", "00111", "0001000", "0001001"};
        // the first run over 64 samples: alike are n, then one differs
        for (int n = 0; n < told.length; n++) {
            TextRegions x = with(1, 8, 8);
            x.instance(0, 0, 0);
            x.refine(0, n % 8, n / 8, true);
            dueBytes("number " + n, x, head(1, 0, 0, 0, 0) + "000010001 1 1 1" + told[n] + "010" + number(63 - n) + "0");
        }
        int[] edges = {14, 15, 30, 31, 62};
        String[] toldEdges = {"0001111", "000010000", "000011111", "00000100000", "00000111111"};
        String[] rest = {"00000110010", "00000110001", "00000100010", "00000100001", "010"};
        for (int i = 0; i < edges.length; i++) {
            TextRegions x = with(1, 8, 8);
            x.instance(0, 0, 0);
            x.refine(0, edges[i] % 8, edges[i] / 8, true);
            dueBytes("number " + edges[i], x,
                    "010 00 0 00 000 000010001 1 1 1" + toldEdges[i] + "010" + rest[i] + "0");
        }
        TextRegions last = with(1, 8, 8);
        last.instance(0, 0, 0);
        last.refine(0, 7, 7, true);
        dueBytes("number 63", last, "010 00 0 00 000 000010001 1 1 1 0000001000000 010 0");
    }

    private static void signedNumbers() {
        by("A SIGNED number v: the NUMBER 2 v if v is 0 or more, else -2 v - 1.");
        int[] v = {0, 1, -1, 2, -2, 31, -8};
        String[] told = {"1", "011", "010", "00101", "00100", "00000111111", "000010000"};
        for (int i = 0; i < v.length; i++) {
            TextRegions x = with(1, 1, 1);
            x.instance(0, v[i], 0);
            dueBytes("signed " + v[i], x, "010 00 0 00 000 000010001" + told[i] + "1 0 0");
        }
        TextRegions far = with(1, 8, 1, 1, 1);
        far.way(0, 2);
        far.instance(0, 31, 0);
        far.instance(1, -8, 0);
        far.instance(0, 31, 0);
        // S 38; -8 less 38 and 8 columns: -54; 38 less -8 and one column: 45
        dueBytes("the farthest in one strip", far, "00100 00 0 10 000 000010001 0000001001101 1 0"
                + "1 0000001101100 010 0 1 0000001011011 010 0 0");
    }

    private static void howManyInstances() {
        by("Told are: how many instances, a NUMBER");
        String[] told = {"1", "010", "011", "00100", "00101", "00110", "00111", "0001000"};
        TextRegions x = with(1, 1, 1);
        for (int n = 0; n <= 40; n++) {
            int want = n;
            x.write();
            int first = x.byteAt(0) << 8 | x.byteAt(1);
            String bits = fixed(first, 16);
            String number = n < told.length ? told[n] : n == 40 ? "00000101001" : number(n);
            due("count " + n, true, () -> bits.startsWith(number));
            due("so many", want, () -> x.told(4));
            if (n < 40) {
                x.instance(0, n - 8, 0);
            }
        }
    }

    private static void waysAsTold() {
        by("the LOG, two bits, TURNED, one, the CORNER, two, the OPERATOR, three (each the highest bit first)");
        TextRegions x = with(1);
        String[] log = {"00", "01", "10", "11"};
        String[] operator = {"000", "001", "010", "011", "100"};
        for (int i = 0; i < 4; i++) {
            x.way(2, i);
            dueBytes("log " + i, x, "1" + log[i] + "0 00 000");
        }
        x.way(2, 0);
        for (int i = 0; i < 4; i++) {
            x.way(0, i);
            dueBytes("corner " + i, x, "1 00 0" + log[i] + "000");
        }
        x.way(0, 0);
        x.way(1, 1);
        dueBytes("turned", x, "1 00 1 00 000");
        x.way(1, 0);
        for (int i = 0; i < 5; i++) {
            x.way(3, i);
            dueBytes("operator " + i, x, "1 00 0 00" + operator[i]);
        }
    }

    private static void nothingToTell() {
        by("All is told as bytes: how many.");
        dueBytes("kind 1, no symbols", with(1), "1 00 0 00 000");
        dueBytes("kind 0, no symbols", with(0), "1 00 0 00 000");
        dueBytes("kind 1, symbols", with(1, 1, 1, 8, 8), "1 00 0 00 000");
        dueBytes("kind 0, symbols", with(0, 1, 1, 8, 8), "1 00 0 00 000 0000 0000");
    }

    private static void firstStrip() {
        by("the STRIP, a NUMBER: of the first one its number and 16, of others how much it is above the one before,"
                + " less 1");
        // corner 1, log, row, height; the strip's number and 16, and T in the strip
        int[][] rows = {{0, -8, 1}, {0, 31, 8}, {0, -1, 1}, {3, -8, 1}, {3, -1, 1}, {3, 31, 8}, {1, -7, 1}, {2, -5, 1}};
        String[] told = {"0001001", "00000110111", "000010000", "000010000 000", "000010000 111", "000010101 110",
            "0001101 1", "0001111 11"};
        for (int i = 0; i < rows.length; i++) {
            TextRegions x = with(1, 1, rows[i][2]);
            x.way(0, 1);
            x.way(2, rows[i][0]);
            x.instance(0, 0, rows[i][1]);
            String[] parts = (told[i] + " ").split(" ", 2);
            dueBytes("the first strip, T " + rows[i][1], x,
                    head(1, 1, 0, rows[i][0], 0) + parts[0] + "1" + parts[1] + "1 0 0");
        }
    }

    private static void furtherStrips() {
        by("of others how much it is above the one before, less 1");
        int[] above = {1, 2, 3, 39};
        String[] told = {"1", "010", "011", "00000100111"};
        for (int i = 0; i < above.length; i++) {
            TextRegions x = with(1, 1, 1);
            x.instance(0, 0, -8 + above[i]);
            x.instance(0, 0, -8);
            dueBytes(above[i] + " above", x, "011 00 0 00 000 0001001 1 1 0 0" + told[i] + "1 1 0 0");
        }
        TextRegions far = with(1, 1, 1, 1, 8);
        far.way(0, 1);
        far.instance(1, 0, 31);
        far.instance(0, 0, -8);
        dueBytes("46 above", far, "011 00 0 01 000 0001001 1 1 0 0 00000101110 1 010 0 0");
    }

    private static void firstOfAStrip() {
        by("the S of its first instance, less that of the first one of the STRIP before (less 0 for the first STRIP),"
                + " SIGNED");
        TextRegions x = with(1, 3, 2);
        x.instance(0, 4, 0);
        x.instance(0, 9, 0);
        x.instance(0, 5, 2);
        x.instance(0, 1, 2);
        x.instance(0, 0, 3);
        // S 4; 9 less 4 and 3; 5 less 4; 1 less 5 and 3; 0 less 5
        dueBytes("three strips", x, number(5) + "00 0 00 000 000010001" + signed(4) + "1 0 1" + signed(2) + "1 0 0"
                + number(1) + signed(1) + "1 0 1" + signed(-7) + "1 0 0" + number(0) + signed(-5) + "1 0 0");
    }

    private static void whatWouldStandNext() {
        by("of each further one of it a bit 1, and S less what would stand next, SIGNED: the S of the instance before"
                + " and how many columns (TURNED: rows) that has; behind the last one a bit 0");
        TextRegions x = with(1, 5, 2, 1, 1);
        x.instance(0, 0, 0);
        x.instance(1, 5, 0);
        dueBytes("five columns", x, "011 00 0 00 000 000010001 1 1 0 1 1 010 0 0");
        x.clear();
        x.symbol(5, 2);
        x.symbol(1, 1);
        x.way(1, 1);
        x.instance(0, 0, 0);
        x.instance(1, 0, 2);
        dueBytes("turned: two rows", x, "011 00 1 00 000 000010001 1 1 0 1 1 010 0 0");
        x.way(0, 3);
        // right lower corners: T 4 and 0, so the second one's strip is first: S 2, then 1 less 2
        dueBytes("turned, right lower", x, "011 00 1 11 000 000010001 00101 010 0 0 00100 010 010 0 0");
        x.way(1, 0);
        // T 1 and 2: S 4, then 0 less 4
        dueBytes("right lower", x, "011 00 0 11 000 000010010 0001001 1 0 0 1 0001000 010 0 0");
    }

    private static void bitsOfT() {
        by("Behind the S of each instance: T less the STRIP times 2 to the LOG, by as many bits as LOG says");
        // T -3 and -2: strips -3 and -2, then -2 and -1, then both in -1
        String[] told = {"0001110 1 1 0 0 1 1 1 0 0", "0001111 1 1 1 0 0 1 1 0 1 0 0",
            "000010000 1 01 1 0 1 010 10 1 0 0", "000010000 1 101 1 0 1 010 110 1 0 0"};
        for (int log = 0; log < 4; log++) {
            TextRegions x = with(1, 1, 1);
            x.way(2, log);
            x.instance(0, 0, -3);
            x.instance(0, 0, -2);
            dueBytes("log " + log, x, head(2, 0, 0, log, 0) + told[log]);
        }
    }

    private static void runs() {
        by("a bit, whether it DIFFERS somewhere, and if so runs over its samples, row by row: how many are alike,"
                + " how many DIFFER, and so on in turn, till all are told, NUMBERS");
        String[][] rows = {{"......", "0"}, {"#.....", "1 1 010 00110"}, {".....#", "1 00110 010"},
            {"######", "1 1 00111"}, {"#....#", "1 1 010 00101 010"}, {".####.", "1 010 00101 010"},
            {"#.#.#.", "1 1 010 010 010 010 010 010"}, {".#.#.#", "1 010 010 010 010 010 010"},
            {"..##..", "1 011 011 011"}, {"...#..", "1 00100 010 011"}};
        for (String[] row : rows) {
            TextRegions x = with(1, 2, 3);
            x.instance(0, 0, 0);
            for (int i = 0; i < 6; i++) {
                x.refine(0, i % 2, i / 2, row[0].charAt(i) == '#');
            }
            dueBytes("differs " + row[0], x, "010 00 0 00 000 000010001 1 1" + row[1] + "0");
        }
        TextRegions one = with(1, 1, 1);
        one.instance(0, 0, 0);
        one.refine(0, 0, 0, true);
        dueBytes("one sample", one, "010 00 0 00 000 000010001 1 1 1 1 010 0");
        one.refine(0, 0, 0, false);
        dueBytes("alike again", one, "010 00 0 00 000 000010001 1 1 0 0");
        TextRegions all = with(1, 8, 8);
        all.instance(0, 0, 0);
        for (int i = 0; i < 64; i++) {
            all.refine(0, i % 8, i / 8, true);
        }
        dueBytes("64 samples", all, "010 00 0 00 000 000010001 1 1 1 1 0000001000001 0");
    }

    // NAMES

    private static void rowOfSymbols() {
        by("KIND 1: all symbols stand in a row, at first by number; the place in it, from 0 on, a NUMBER; then the symbol"
                + " goes to the front.");
        TextRegions x = with(1);
        for (int i = 0; i < 16; i++) {
            x.symbol(1, 1);
        }
        int[] named = {15, 15, 0, 15, 14, 0, 1};
        String[] told = {"000010000", "1", "010", "010", "000010000", "011", "00100"};
        StringBuilder bits = new StringBuilder(head(7, 0, 0, 0, 0) + "000010001");
        for (int i = 0; i < 7; i++) {
            x.instance(named[i], i, 0);
            bits.append(i == 0 ? "" : "1").append("1").append(told[i]).append("0");
        }
        dueBytes("named", x, bits + "0");
        dueBytes("by number again", x, bits + "0");
    }

    /** An object with so many instances of each symbol, one beside the other: the lengths and codes due. */
    private static void dueCodes(String what, int[] counts, int[] lengths, String... codes) {
        TextRegions x = new TextRegions(24, 24, 0);
        int all = 0;
        for (int count : counts) {
            x.symbol(1, 1);
            all += count;
        }
        StringBuilder bits = new StringBuilder(head(all, 0, 0, 0, 0));
        for (int length : lengths) {
            bits.append(fixed(length, 4));
        }
        bits.append("000010001");
        int s = 0;
        for (int i = 0; i < counts.length; i++) {
            for (int n = 0; n < counts[i]; n++) {
                x.instance(i, s - 8, 0);
                bits.append(s == 0 ? signed(-8) : "11").append(codes[i]).append("0");
                s++;
            }
        }
        dueBytes(what, x, bits + "0");
    }

    private static void onlySymbol() {
        by("a length is how often a symbol was joined (1, if it is the only one; 0 without instances)");
        dueCodes("one symbol", new int[] {1}, new int[] {1}, "0");
        dueCodes("one symbol, 40 times", new int[] {40}, new int[] {1}, "0");
        dueCodes("the second of three", new int[] {0, 2, 0}, new int[] {0, 1, 0}, "", "0", "");
        dueCodes("two symbols", new int[] {1, 39}, new int[] {1, 1}, "0", "1");
        dueCodes("two of four", new int[] {0, 3, 0, 1}, new int[] {0, 1, 0, 1}, "", "0", "", "1");
    }

    private static void equalCounts() {
        by("of those that have some the two with the least counts are joined, until one is left; of equal counts those"
                + " that were there earlier first (symbols, by number, before what was joined)");
        dueCodes("three equals: the first two", new int[] {1, 1, 1}, new int[] {2, 2, 1}, "10", "11", "0");
        dueCodes("the least are joined", new int[] {3, 1, 1}, new int[] {1, 2, 2}, "0", "10", "11");
        // what was joined has 2, as have two symbols: these come first
        dueCodes("symbols before what was joined", new int[] {1, 1, 2, 2}, new int[] {2, 2, 2, 2},
                "00", "01", "10", "11");
        dueCodes("whatever their numbers", new int[] {2, 2, 1, 1}, new int[] {2, 2, 2, 2}, "00", "01", "10", "11");
        // 1 and 1; then 2 (the symbol) and 2 (what was joined); then 3 and 4
        dueCodes("what was joined after a symbol", new int[] {1, 1, 2, 3}, new int[] {3, 3, 2, 1},
                "110", "111", "10", "0");
    }

    private static void equalCountsOfWhatWasJoined() {
        by("of equal counts those that were there earlier first (symbols, by number, before what was joined)");
        // 0 and 1, 2 and 3 are joined; the last symbol with the first of these; then all
        dueCodes("five equals", new int[] {1, 1, 1, 1, 1}, new int[] {3, 3, 2, 2, 2}, "110", "111", "00", "01", "10");
        dueCodes("six equals", new int[] {1, 1, 1, 1, 1, 1}, new int[] {3, 3, 3, 3, 2, 2},
                "100", "101", "110", "111", "00", "01");
        dueCodes("seven equals", new int[] {1, 1, 1, 1, 1, 1, 1}, new int[] {3, 3, 3, 3, 3, 3, 2},
                "010", "011", "100", "101", "110", "111", "00");
    }

    private static void countsOfNow() {
        by("The CODES are made by how many instances a symbol has");
        TextRegions x = with(0, 1, 1, 1, 1, 1, 1);
        for (int i = 0; i < 5; i++) {
            x.instance(0, i, 0);
        }
        x.instance(1, 5, 0);
        x.instance(2, 6, 0);
        x.write();
        due("the first length", "0001", () -> fixed(x.byteAt(1) << 8 | x.byteAt(2), 16).substring(7, 11));
        feedBits(x, head(0, 0, 0, 0, 0) + "0000 0000 0000");
        x.read();
        x.instance(1, 0, 0);
        dueBytes("others are gone by a reading", x, ONE_AT_0.replace("CODES", "0000 0001 0000"));
        x.clear();
        x.symbol(1, 1);
        x.symbol(1, 1);
        x.symbol(1, 1);
        dueBytes("none behind a clear", x, "1 00 0 00 000 0000 0000 0000");
        x.instance(2, 0, 0);
        dueBytes("another one behind a clear", x, ONE_AT_0.replace("CODES", "0000 0000 0001"));
    }

    private static void lengthsOfAllSymbols() {
        by("Told are all lengths, by number, four bits each.");
        int[] counts = new int[16];
        int[] lengths = new int[16];
        String[] codes = new String[16];
        for (int i = 0; i < 16; i++) {
            counts[i] = 2;
            lengths[i] = 4;
            codes[i] = fixed(i, 4);
        }
        dueCodes("sixteen symbols", counts, lengths, codes);
        // each but the first two is more than all before it: 1, 1, 2, 4, 8, 16
        dueCodes("six symbols", new int[] {1, 1, 2, 4, 8, 16}, new int[] {5, 5, 4, 3, 2, 1},
                "11110", "11111", "1110", "110", "10", "0");
        dueCodes("seven symbols", new int[] {1, 1, 1, 3, 4, 7, 11}, new int[] {6, 6, 5, 4, 3, 2, 1},
                "111110", "111111", "11110", "1110", "110", "10", "0");
    }

    private static void shortestFirst() {
        by("CODES go from the shortest length on, then by symbols: the first one is 0");
        dueCodes("the short one last", new int[] {1, 2, 4}, new int[] {2, 2, 1}, "10", "11", "0");
        dueCodes("the short one first", new int[] {4, 2, 1}, new int[] {1, 2, 2}, "0", "10", "11");
        dueCodes("the short one between", new int[] {1, 4, 2}, new int[] {2, 1, 2}, "10", "0", "11");
        dueCodes("others without instances", new int[] {0, 1, 0, 4, 2}, new int[] {0, 2, 0, 1, 2},
                "", "10", "", "0", "11");
    }

    private static void longerByMoreThanOne() {
        by("each further one is one more, with a bit 0 behind for each bit that it is longer;"
                + " told from the highest bit on");
        dueCodes("two bits longer", new int[] {1, 1, 6, 1, 1}, new int[] {3, 3, 1, 3, 3},
                "100", "101", "0", "110", "111");
        int[] counts = {2, 2, 2, 2, 17, 2, 2, 2, 2};
        dueCodes("three bits longer", counts, new int[] {4, 4, 4, 4, 1, 4, 4, 4, 4},
                "1000", "1001", "1010", "1011", "0", "1100", "1101", "1110", "1111");
    }

    private static void lastByte() {
        by("BYTES: eight bits each, the highest first, the last one filled with 0.");
        TextRegions x = with(1, 1, 1);
        due("nine bits", 2, () -> x.write());
        due("the second byte is filled", 0, () -> x.byteAt(1));
        x.way(3, 3);
        x.write();
        due("its one bit is the highest", 128, () -> x.byteAt(1));
        for (int s = 0; s < 32; s++) {
            for (int y = -8; y < 0; y++) {
                TextRegions one = with(1, 1, 1);
                one.instance(0, s, y);
                int bits = one.order(0);
                due(bits + " bits", (bits + 7) / 8, () -> one.write());
            }
        }
        TextRegions full = with(1, 1, 1);
        full.instance(0, 0, 0);
        dueBytes("24 bits, three bytes", full, "010 00 0 00 000 000010001 1 1 0 0");
        full.refine(0, 0, 0, true);
        dueBytes("28 bits, four bytes", full, "010 00 0 00 000 000010001 1 1 1 1 010 0");
    }

    private static void mostBytes() {
        by("All is told as bytes: how many.");
        for (int kind = 0; kind < 2; kind++) {
            TextRegions x = with(kind, 8, 8);
            // S is 31 and -8 in turn, and runs are of one sample each: the most bits that an instance takes
            StringBuilder bits = new StringBuilder(head(17, 0, 0, 0, 0) + (kind == 0 ? "0001" : "") + "0001001");
            for (int i = 0; i < 17; i++) {
                bits.append(i == 0 ? signed(31) : i % 2 == 0 ? "1" + signed(31) : "1" + signed(-47));
                bits.append(kind == 0 ? "0" : "1").append("1 1").append("010".repeat(64));
            }
            int came = feedBits(x, bits + "0");
            due("so many come", came, () -> x.told(6));
            due("17 are read", 17, () -> x.read());
            due("half of the samples", 32, () -> x.place(16, 6));
            due("as many are told", came, () -> x.write());
            due("as many come again", came, () -> x.pass());
            due("17 are read again", 17, () -> x.read());
        }
    }

    // Promise 7

    private static void triesOutside() {
        by("So many TRIES, 0 .. 8");
        TextRegions x = row(4, 2, 0);
        for (int tries : new int[] {-1, 9, LEAST, MOST}) {
            due(tries + " tries", ARGUMENT, () -> x.order(tries));
        }
        due("the row is as it was", "4 2 0", () -> rowOf(x));
        x.order(0);
        due("no try changes nothing", "4 2 0", () -> rowOf(x));
        x.order(8);
        due("eight tries do", "2 4 0", () -> rowOf(x));
    }

    private static TextRegions row(int... columns) {
        TextRegions x = with(1, 2, 1);
        for (int column : columns) {
            x.instance(0, column, 0);
        }
        return x;
    }

    private static String rowOf(TextRegions x) {
        List<String> all = new ArrayList<>();
        for (int i = 0; i < x.told(4); i++) {
            all.add("" + x.place(i, 1));
        }
        return String.join(" ", all);
    }

    /** The bits of a row of instances of a symbol of two columns, in strip 0. */
    private static int bitsOf(int[] columns) {
        StringBuilder bits = new StringBuilder(head(columns.length, 0, 0, 0, 0) + number(16));
        for (int i = 0; i < columns.length; i++) {
            bits.append(i == 0 ? signed(columns[0]) : "1" + signed(columns[i] - columns[i - 1] - 2)).append("1").append(0);
        }
        return bits.length() + 1;
    }

    private static void fewerBitsOnly() {
        by("each goes along the row from its beginning; two neighbours in one STRIP change places if there are fewer bits"
                + " in all then");
        TextRegions same = row(3, 3);
        same.refine(1, 0, 0, true);
        same.order(8);
        due("as many bits: they stay", 1, () -> same.place(1, 6));
        TextRegions more = row(0, 2);
        more.order(8);
        due("more bits: they stay", "0 2", () -> rowOf(more));
        TextRegions fewer = row(2, 0);
        fewer.order(1);
        due("fewer bits: they change", "0 2", () -> rowOf(fewer));
        int[][] rows = {{4, 2, 0}, {9, 0, 0, 9}, {20, 10, 0, 30}, {1, 5, 3, 7}, {31, -8, 31, -8}, {6, 4, 2, 0, -2, -4}};
        for (int[] columns : rows) {
            for (int tries = 0; tries <= 8; tries++) {
                int[] due = tried(columns, tries);
                int n = tries;
                TextRegions x = row(columns);
                due(tries + " tries: bits", bitsOf(due), () -> x.order(n));
                due(tries + " tries: row", joined(due), () -> rowOf(x));
            }
        }
    }

    private static String joined(int[] row) {
        List<String> all = new ArrayList<>();
        for (int v : row) {
            all.add("" + v);
        }
        return String.join(" ", all);
    }

    private static int[] tried(int[] columns, int tries) {
        int[] row = columns.clone();
        for (int n = 0; n < tries; n++) {
            for (int i = 0; i + 1 < row.length; i++) {
                int[] other = row.clone();
                other[i] = row[i + 1];
                other[i + 1] = row[i];
                row = bitsOf(other) < bitsOf(row) ? other : row;
            }
        }
        return row;
    }

    private static void neighboursOfOneStrip() {
        by("two neighbours in one STRIP change places if there are fewer bits in all then");
        TextRegions two = with(1, 2, 1);
        two.instance(0, 2, 0);
        two.instance(0, 0, 1);
        two.order(8);
        due("two strips", "2 0", () -> rowOf(two));
        two.way(2, 1);
        two.order(8);
        due("one strip", "0 2", () -> rowOf(two));
        TextRegions between = with(1, 2, 1);
        between.instance(0, 2, 0);
        between.instance(0, 7, 9);
        between.instance(0, 0, 0);
        between.order(8);
        due("no neighbours", "2 7 0", () -> rowOf(between));
        TextRegions behind = with(1, 2, 1);
        behind.instance(0, 2, 0);
        behind.instance(0, 0, 0);
        behind.instance(0, 7, 9);
        behind.order(1);
        due("one of another strip behind them", "0 2 7", () -> rowOf(behind));
        TextRegions before = with(1, 2, 1);
        before.instance(0, 7, 9);
        before.instance(0, 2, 0);
        before.instance(0, 0, 0);
        before.order(1);
        due("one of another strip before them", "7 0 2", () -> rowOf(before));
        due("an empty row", 9, () -> with(1).order(8));
        due("one alone", 3 + 8 + 9 + 1 + 3, () -> row(0).order(8));
    }

    private static void wholeInstancesChangePlaces() {
        by("two neighbours in one STRIP change places if there are fewer bits in all then");
        for (int kind = 0; kind < 2; kind++) {
            TextRegions x = with(kind, 3, 3, 2, 2, 1, 1);
            x.way(2, 2);
            x.instance(0, 9, 3);
            x.refine(0, 2, 2, true);
            x.instance(1, 0, 1);
            x.refine(1, 0, 0, true);
            x.refine(1, 1, 1, true);
            x.instance(2, 12, 0);
            int bits = x.order(0);
            due("fewer bits", true, () -> x.order(1) < bits);
            int[][] all = {{1, 0, 1, 0, 1, 0, 2}, {0, 9, 3, 9, 3, 0, 1}, {2, 12, 0, 12, 0, 0, 0}};
            for (int i = 0; i < 3; i++) {
                for (int what = 0; what < 7; what++) {
                    int n = i;
                    int w = what;
                    due("place(" + i + ", " + what + ")", all[i][what], () -> x.place(n, w));
                }
            }
            due("the same sample differs", false, () -> x.refine(1, 2, 2, true));
            due("and the others", false, () -> x.refine(0, 1, 1, true));
        }
    }

    private static void orderingTellsNoBytes() {
        by("A byte that was told last.");
        TextRegions x = row(2, 0);
        x.write();
        int bytes = x.told(5);
        int[] told = new int[bytes];
        for (int i = 0; i < bytes; i++) {
            told[i] = x.byteAt(i);
        }
        for (int tries = 1; tries <= 8; tries += 7) {
            x.order(tries);
            due("the row has changed", "0 2", () -> rowOf(x));
            due("so many are told still", bytes, () -> x.told(5));
            for (int i = 0; i < bytes; i++) {
                int n = i;
                due("byte " + i + " has not", told[i], () -> x.byteAt(n));
            }
        }
    }

    private static void theLastTry() {
        by("A TRY in which none do is the last one");
        TextRegions x = row(0, 2, 4);
        int bits = x.order(0);
        due("nothing to change", bits, () -> x.order(8));
        due("the row is as it was", "0 2 4", () -> rowOf(x));
        for (int tries = 1; tries <= 8; tries++) {
            int n = tries;
            TextRegions y = row(LONG);
            due(tries + " tries", bitsOf(tried(LONG, tries)), () -> y.order(n));
            String now = joined(tried(LONG, tries));
            due(tries + " tries: row", now, () -> rowOf(y));
            due("the last one of them changes it", false, () -> now.equals(joined(tried(LONG, n - 1))));
        }
        TextRegions more = row(LONG);
        more.order(8);
        String eight = joined(tried(LONG, 8));
        due("eight tries, no more", eight, () -> rowOf(more));
        more.order(1);
        due("one more changes it still", false, () -> eight.equals(rowOf(more)));
    }

    private static void noTriesWhenLaid() {
        by("with OPERATOR 4 there are none. How many bits there are then.");
        for (int operator = 0; operator < 5; operator++) {
            TextRegions x = row(2, 0);
            x.way(3, operator);
            int many = bitsOf(new int[] {2, 0});
            int few = bitsOf(new int[] {0, 2});
            due("none yet", many, () -> x.order(0));
            due("operator " + operator, operator == 4 ? many : few, () -> x.order(8));
            due("the row", operator == 4 ? "2 0" : "0 2", () -> rowOf(x));
            due("wrong tries all the same", ARGUMENT, () -> x.order(9));
        }
    }
}
