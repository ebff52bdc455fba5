/** Each sentence that names an edge of a call: its ranges, what is full, what is empty, what is thrown. */
public final class CallEdgesTest extends Checks {
    public static void main(String[] args) {
        sidesOfTheRegion();
        kinds();
        allElseAtFirst();
        sixteenSymbols();
        sidesOfSymbols();
        lightAtFirst();
        fortyInstances();
        placesOfInstances();
        differsNowhereAtFirst();
        differsFromWhatTheSymbolHasNow();
        whetherItWasTheOther();
        whetherThatIsNew();
        rangesOfWays();
        corners();
        stripsRoundedDown();
        laidInTheOrder();
        lightBeforeLaying();
        inTheRegion();
        composedLast();
        toldLast();
        rangeOfBytes();
        twoThousandBytes();
        passingUpToTwoThousand();
        placeOfAnotherWhat();
        toldOfAnotherWhat();
        cleared();
        clearedThenFull();
        end();
    }

    private static TextRegions with(int width, int height) {
        TextRegions x = new TextRegions(24, 24, 1);
        x.symbol(width, height);
        return x;
    }

    // Promise 1

    private static void sidesOfTheRegion() {
        by("The page has this width and height, 1 .. 24 (others count as the nearest of these)");
        int[][] rows = {{1, 1}, {2, 2}, {23, 23}, {24, 24}, {25, 24}, {0, 1}, {-1, 1}, {LEAST, 1}, {MOST, 24}};
        for (int[] row : rows) {
            TextRegions wide = new TextRegions(row[0], 5, 0);
            due("width " + row[0], row[1], () -> wide.told(0));
            due("height beside it", 5, () -> wide.told(1));
            due("the last column", false, () -> wide.at(row[1] - 1, 4));
            due("behind the last column", INDEX, () -> wide.at(row[1], 4));
            TextRegions high = new TextRegions(5, row[0], 0);
            due("height " + row[0], row[1], () -> high.told(1));
            due("width beside it", 5, () -> high.told(0));
            due("the last row", false, () -> high.at(4, row[1] - 1));
            due("below the last row", INDEX, () -> high.at(4, row[1]));
        }
    }

    private static void kinds() {
        by("symbols are told by this KIND, 0 or 1 (the nearest likewise)");
        int[][] rows = {{0, 0}, {1, 1}, {-1, 0}, {2, 1}, {LEAST, 0}, {MOST, 1}, {256, 1}, {-256, 0}};
        for (int[] row : rows) {
            TextRegions x = new TextRegions(5, 5, row[0]);
            due("kind " + row[0], row[1], () -> x.told(2));
            x.symbol(1, 1);
            due("only kind 0 tells lengths", row[1] == 0 ? 13 : 9, () -> x.order(0));
        }
    }

    private static void allElseAtFirst() {
        by("all else is as at first");
        for (int kind = 0; kind < 2; kind++) {
            TextRegions x = new TextRegions(3, 2, kind);
            int[] all = {3, 2, kind, 0, 0, 0, 0, -1};
            for (int what = 0; what < 8; what++) {
                int w = what;
                due("told(" + what + ")", all[what], () -> x.told(w));
            }
            for (int i = 0; i < 6; i++) {
                int n = i;
                due("a light sample", false, () -> x.at(n % 3, n / 3));
            }
            due("no byte", INDEX, () -> x.byteAt(0));
            due("no symbol", INDEX, () -> x.put(0, 0, 0, true));
            due("no instance", INDEX, () -> x.place(0, 0));
            due("none come", 0, () -> x.pass());
            due("none to read", -2, () -> x.read());
        }
    }

    // Promises 2 and 3

    private static void sixteenSymbols() {
        by("SYMBOLS have numbers 0, 1, .., 16 at most");
        TextRegions x = new TextRegions(5, 5, 1);
        for (int i = 0; i < 15; i++) {
            x.symbol(1, 1);
        }
        due("there is no symbol 15 yet", INDEX, () -> x.instance(15, 0, 0));
        due("the 16th one", 15, () -> x.symbol(8, 8));
        due("symbol 15", 0, () -> x.instance(15, 0, 0));
        due("the 17th one", UNSUPPORTED, () -> x.symbol(1, 1));
        due("and again", UNSUPPORTED, () -> x.symbol(8, 8));
        due("16 of them", 16, () -> x.told(3));
        due("there is no symbol 16", INDEX, () -> x.instance(16, 0, 0));
        due("nor a sample of it", INDEX, () -> x.put(16, 0, 0, true));
    }

    private static void sidesOfSymbols() {
        by("a width and a height, each 1 .. 8");
        for (int width = 1; width <= 8; width++) {
            for (int height = 1; height <= 8; height++) {
                int w = width;
                int h = height;
                TextRegions x = new TextRegions(5, 5, 0);
                due("symbol " + w + " by " + h, 0, () -> x.symbol(w, h));
                due("its last sample", true, () -> x.put(0, w - 1, h - 1, true));
                due("right of it", INDEX, () -> x.put(0, w, h - 1, true));
                due("below it", INDEX, () -> x.put(0, w - 1, h, true));
            }
        }
        TextRegions x = new TextRegions(5, 5, 0);
        for (int side : new int[] {0, 9, -1, 257, -255, LEAST, MOST}) {
            due("width " + side, ARGUMENT, () -> x.symbol(side, 8));
            due("height " + side, ARGUMENT, () -> x.symbol(1, side));
        }
        due("none is new", 0, () -> x.told(3));
        due("the first one is 0 still", 0, () -> x.symbol(1, 8));
    }

    private static void lightAtFirst() {
        by("and samples, at first light");
        TextRegions x = new TextRegions(5, 5, 0);
        for (int round = 0; round < 2; round++) {
            x.symbol(8, 8);
            for (int i = 0; i < 64; i++) {
                int n = i;
                due("sample " + i + " was light", true, () -> x.put(0, n % 8, n / 8, true));
            }
            x.clear();
        }
    }

    private static void whetherItWasTheOther() {
        by("A sample of a symbol becomes dark or light: whether it was the other.");
        TextRegions x = with(8, 8);
        int[][] samples = {{0, 0}, {7, 0}, {0, 7}, {7, 7}};
        for (int[] at : samples) {
            due("light to light", false, () -> x.put(0, at[0], at[1], false));
            due("light to dark", true, () -> x.put(0, at[0], at[1], true));
            due("dark to dark", false, () -> x.put(0, at[0], at[1], true));
            due("dark to light", true, () -> x.put(0, at[0], at[1], false));
            due("light to light again", false, () -> x.put(0, at[0], at[1], false));
        }
    }

    // Promises 4 and 5

    private static void fortyInstances() {
        by("INSTANCES stand in a row, from 0 on, 40 at most");
        TextRegions x = with(1, 1);
        due("there is no instance 0 yet", INDEX, () -> x.place(0, 0));
        for (int i = 0; i < 39; i++) {
            int n = i;
            due("instance " + i, i, () -> x.instance(0, n - 8, 0));
        }
        due("there is no instance 39 yet", INDEX, () -> x.place(39, 0));
        due("the 40th one", 39, () -> x.instance(0, 31, 31));
        due("its column", 31, () -> x.place(39, 1));
        due("the 41st one", UNSUPPORTED, () -> x.instance(0, 0, 0));
        due("and again", UNSUPPORTED, () -> x.instance(0, 0, 0));
        due("40 of them", 40, () -> x.told(4));
        due("there is no instance 40", INDEX, () -> x.place(40, 0));
        due("nor a sample of it", INDEX, () -> x.refine(40, 0, 0, true));
    }

    private static void placesOfInstances() {
        by("the place (x, y) of its left upper sample, each -8 .. 31");
        TextRegions x = with(8, 8);
        int[] good = {-8, -7, 0, 30, 31};
        for (int i = 0; i < good.length; i++) {
            int n = i;
            due("x " + good[i], 2 * i, () -> x.instance(0, good[n], 3));
            due("it is there", good[i], () -> x.place(2 * n, 1));
            due("y " + good[i], 2 * i + 1, () -> x.instance(0, 3, good[n]));
            due("it is there", good[i], () -> x.place(2 * n + 1, 2));
        }
        for (int v : new int[] {-9, 32, 248, LEAST, MOST}) {
            due("x " + v, ARGUMENT, () -> x.instance(0, v, 0));
            due("y " + v, ARGUMENT, () -> x.instance(0, 0, v));
        }
        due("none is new", 10, () -> x.told(4));
    }

    private static void differsNowhereAtFirst() {
        by("DIFFERS at some of its samples (at first at none)");
        TextRegions x = with(8, 8);
        x.instance(0, 0, 0);
        x.refine(0, 7, 7, true);
        x.instance(0, 0, 0);
        x.refine(1, 7, 7, true);
        due("one", 1, () -> x.place(1, 6));
        feedBits(x, head(0, 0, 0, 0, 0));
        due("none are read", 0, () -> x.read());
        x.instance(0, 0, 0);
        due("a new one behind a reading", 0, () -> x.place(0, 6));
        due("nor does it differ there", false, () -> x.refine(0, 7, 7, false));
        x.clear();
        x.symbol(8, 8);
        x.instance(0, 0, 0);
        x.instance(0, 0, 0);
        due("a new one behind a clear", 0, () -> x.place(1, 6));
        x.refine(0, 0, 0, true);
        feedBits(x, head(1, 0, 0, 0, 0) + number(16) + "1 1 0 0");
        due("one is read that differs nowhere", 1, () -> x.read());
        due("it does not", 0, () -> x.place(0, 6));
    }

    private static void differsFromWhatTheSymbolHasNow() {
        by("there it has what its symbol has not");
        TextRegions x = with(2, 1);
        x.put(0, 0, 0, true);
        x.instance(0, 0, 0);
        x.instance(0, 0, 5);
        x.refine(0, 0, 0, true);
        x.refine(0, 1, 0, true);
        due("one dark sample each", 2, () -> x.compose());
        due("dark in the symbol alone", false, () -> x.at(0, 0));
        due("dark in the instance alone", true, () -> x.at(1, 0));
        due("the other one is as its symbol", true, () -> x.at(0, 5));
        x.put(0, 0, 0, false);
        x.put(0, 1, 0, true);
        due("still one each", 2, () -> x.compose());
        due("the first sample", true, () -> x.at(0, 0));
        due("the second sample", false, () -> x.at(1, 0));
        due("the other one follows, too", true, () -> x.at(1, 5));
    }

    private static void whetherThatIsNew() {
        by("Whether an instance DIFFERS at a sample of its own, column x and row y of it, from now on:"
                + " whether that is new.");
        TextRegions x = with(3, 8);
        x.instance(0, 31, -8);
        int[][] samples = {{0, 0}, {2, 0}, {0, 7}, {2, 7}};
        for (int i = 0; i < 4; i++) {
            int[] at = samples[i];
            due("alike as before", false, () -> x.refine(0, at[0], at[1], false));
            due("it differs now", true, () -> x.refine(0, at[0], at[1], true));
            due("it differs as before", false, () -> x.refine(0, at[0], at[1], true));
            due("so many differ", i + 1, () -> x.place(0, 6));
        }
        due("alike now", true, () -> x.refine(0, 2, 7, false));
        due("one less", 3, () -> x.place(0, 6));
        int[][] none = {{3, 0}, {0, 8}, {-1, 0}, {0, -1}, {31, -8}, {LEAST, 0}, {0, MOST}};
        for (int[] at : none) {
            due("no sample of its own", INDEX, () -> x.refine(0, at[0], at[1], true));
        }
    }

    // Promise 6

    private static void rangesOfWays() {
        by("The CORNER (what = 0), TURNED (1: 0 or 1), the LOG (2), the OPERATOR (3): what it was."
                + " IllegalArgument: another what, or v.");
        TextRegions x = new TextRegions(5, 5, 0);
        int[] most = {3, 1, 3, 4};
        for (int what = 0; what < 4; what++) {
            int w = what;
            due("0 at first", 0, () -> x.way(w, most[w]));
            for (int v : new int[] {most[what] + 1, -1, LEAST, MOST, 256}) {
                due("way " + what + " of " + v, ARGUMENT, () -> x.way(w, v));
            }
            due("the most that it may be", most[what], () -> x.way(w, most[w]));
        }
        for (int what : new int[] {-1, 4, LEAST, MOST}) {
            due("way " + what, ARGUMENT, () -> x.way(what, 0));
            due("way " + what + ", and a v that is none", ARGUMENT, () -> x.way(what, 9));
        }
        for (int what = 0; what < 4; what++) {
            int w = what;
            due("each has its own", most[what], () -> x.way(w, 0));
            due("0 now", 0, () -> x.way(w, 0));
        }
    }

    private static void corners() {
        by("The sample of an instance that lies in its CORNER has a column and a row: S and T are these;"
                + " TURNED T is the column, S the row.");
        int[][] sides = {{1, 1}, {8, 1}, {1, 8}, {8, 8}, {3, 5}};
        for (int[] side : sides) {
            TextRegions x = with(side[0], side[1]);
            x.instance(0, -8, -7);
            x.instance(0, 31, 30);
            for (int corner = 0; corner < 4; corner++) {
                int right = corner >= 2 ? side[0] - 1 : 0;
                int down = corner == 1 || corner == 3 ? side[1] - 1 : 0;
                x.way(0, corner);
                x.way(1, 0);
                due("S, least place", -8 + right, () -> x.place(0, 3));
                due("T, least place", -7 + down, () -> x.place(0, 4));
                due("S, greatest place", 31 + right, () -> x.place(1, 3));
                due("T, greatest place", 30 + down, () -> x.place(1, 4));
                x.way(1, 1);
                due("turned S, least place", -7 + down, () -> x.place(0, 3));
                due("turned T, least place", -8 + right, () -> x.place(0, 4));
                due("turned S, greatest place", 30 + down, () -> x.place(1, 3));
                due("turned T, greatest place", 31 + right, () -> x.place(1, 4));
            }
            due("x is as it was", -8, () -> x.place(0, 1));
            due("y is as it was", -7, () -> x.place(0, 2));
        }
    }

    private static void stripsRoundedDown() {
        by("The STRIP of an instance is T by 2 to the LOG, rounded down.");
        TextRegions x = with(1, 8);
        for (int y = -8; y <= 31; y++) {
            x.instance(0, 0, y);
        }
        for (int log = 0; log < 4; log++) {
            x.way(2, log);
            for (int i = 0; i < 40; i++) {
                int n = i;
                due("strip of T " + (i - 8), Math.floorDiv(i - 8, 1 << log), () -> x.place(n, 5));
            }
        }
        x.way(0, 1);
        int[] greatest = {38, 19, 9, 4};
        for (int log = 0; log < 4; log++) {
            x.way(2, log);
            due("strip of T -1", -1, () -> x.place(0, 5));
            due("strip of T 0", 0, () -> x.place(1, 5));
            due("strip of T 38", greatest[log], () -> x.place(39, 5));
        }
    }

    // Promises 8 and 9

    private static void laidInTheOrder() {
        by("THE ORDER of instances is by STRIPS, rising, in one by the row in which they stand.");
        TextRegions x = new TextRegions(3, 3, 1);
        x.symbol(1, 3);
        x.symbol(1, 1);
        for (int i = 0; i < 3; i++) {
            x.put(0, 0, i, true);
        }
        x.way(3, 4);
        x.instance(1, 0, 1);
        x.instance(0, 0, 0);
        due("the strip below is laid later", 2, () -> x.compose());
        due("light above dark", false, () -> x.at(0, 1));
        x.way(2, 1);
        due("in one strip the later one of the row", 3, () -> x.compose());
        x.way(2, 0);
        x.way(0, 1);
        due("by lower corners the symbol of three rows is below", 3, () -> x.compose());
        x.way(0, 0);
        x.way(1, 1);
        due("turned they are in one strip", 3, () -> x.compose());
        x.instance(1, 0, 0);
        due("a third one, above both", 2, () -> x.compose());
        x.way(1, 0);
        due("not turned, in one strip with the second", 1, () -> x.compose());
        due("only the last row is dark", true, () -> x.at(0, 2));
    }

    private static void lightBeforeLaying() {
        by("COMPOSING makes all samples light, then lays instances in THE ORDER");
        TextRegions x = with(2, 2);
        for (int operator = 0; operator < 5; operator++) {
            x.way(3, operator);
            due("nothing laid", 0, () -> x.compose());
        }
        x.instance(0, 0, 0);
        x.way(3, 3);
        due("the same as light", 4, () -> x.compose());
        due("and again", 4, () -> x.compose());
        x.way(3, 1);
        x.put(0, 0, 0, true);
        due("nothing was dark before", 0, () -> x.compose());
        x.way(3, 2);
        due("one", 1, () -> x.compose());
        due("and again", 1, () -> x.compose());
    }

    private static void inTheRegion() {
        by("each sample that is in the region becomes, by the OPERATOR, of what it was and what is laid");
        int[][] rows = {{-8, 0, 0}, {-7, 0, 8}, {0, -8, 0}, {0, -7, 8}, {24, 0, 0}, {23, 0, 8}, {0, 24, 0}, {0, 23, 8},
            {-7, -7, 1}, {23, 23, 1}, {-7, 23, 1}, {23, -7, 1}, {31, 31, 0}, {-8, -8, 0}, {16, 16, 64}};
        for (int[] row : rows) {
            TextRegions x = with(8, 8);
            for (int i = 0; i < 64; i++) {
                x.put(0, i % 8, i / 8, true);
            }
            x.instance(0, row[0], row[1]);
            due("at " + row[0] + ", " + row[1], row[2], () -> x.compose());
        }
        boolean[][] of = {{false, true, true, true}, {false, false, false, true}, {false, true, true, false},
            {true, false, false, true}, {false, true, false, true}};
        for (int operator = 0; operator < 5; operator++) {
            TextRegions x = new TextRegions(4, 2, 0);
            x.symbol(4, 1);
            x.symbol(4, 1);
            x.put(0, 2, 0, true);
            x.put(0, 3, 0, true);
            x.put(1, 1, 0, true);
            x.put(1, 3, 0, true);
            x.way(3, 0);
            x.instance(0, 0, 0);
            x.instance(1, 0, 0);
            // what the first one leaves is light, light, dark, dark only if it is laid on light by this operator
            x.way(3, operator);
            x.compose();
            boolean[] first = {of[operator][0], of[operator][0], of[operator][1], of[operator][1]};
            for (int i = 0; i < 4; i++) {
                int c = i;
                boolean want = of[operator][(first[i] ? 2 : 0) + (i % 2)];
                due("operator " + operator + " at " + i, want, () -> x.at(c, 0));
                due("operator " + operator + " below", false, () -> x.at(c, 1));
            }
        }
    }

    private static void composedLast() {
        by("Whether a sample was dark when it was composed last.");
        TextRegions x = with(1, 1);
        x.instance(0, 0, 0);
        x.put(0, 0, 0, true);
        due("never composed", false, () -> x.at(0, 0));
        x.compose();
        due("composed", true, () -> x.at(0, 0));
        x.put(0, 0, 0, false);
        x.way(3, 3);
        x.refine(0, 0, 0, false);
        x.instance(0, 1, 0);
        due("what is laid now", true, () -> x.at(0, 0));
        due("is not composed", false, () -> x.at(1, 0));
        feedBits(x, head(0, 0, 0, 0, 0));
        x.read();
        due("nor by a reading", true, () -> x.at(0, 0));
        due("composed again", 0, () -> x.compose());
        due("light now", false, () -> x.at(0, 0));
        by("IndexOutOfBounds: there is no such symbol, sample, instance or byte.");
        int[][] none = {{-1, 0}, {0, -1}, {24, 0}, {0, 24}, {LEAST, 0}, {0, LEAST}, {MOST, 0}, {0, MOST}, {24, -1}};
        for (int[] at : none) {
            due("no sample", INDEX, () -> x.at(at[0], at[1]));
        }
        due("the last sample", false, () -> x.at(23, 23));
    }

    // Promises 11, 12 and 13

    private static void toldLast() {
        by("A byte that was told last.");
        TextRegions x = with(1, 1);
        due("none was told", INDEX, () -> x.byteAt(0));
        due("bits are counted", 9, () -> x.order(8));
        due("by that none was told", INDEX, () -> x.byteAt(0));
        for (int i = 0; i < 5; i++) {
            x.instance(0, 31, 31);
        }
        int more = x.write();
        due("the last one", true, () -> x.byteAt(more - 1) >= 0);
        due("behind it", INDEX, () -> x.byteAt(more));
        feedBits(x, head(0, 0, 0, 3, 0));
        x.read();
        due("a reading does not tell", more, () -> x.told(5));
        due("fewer now", 2, () -> x.write());
        due("the first one", 0b11100000, () -> x.byteAt(0));
        due("the last one now", 0, () -> x.byteAt(1));
        for (int i : new int[] {2, more - 1, -1, LEAST, MOST, 2000}) {
            due("no byte " + i, INDEX, () -> x.byteAt(i));
        }
    }

    private static void rangeOfBytes() {
        by("A byte more comes: how many there are. IllegalArgument: it is not 0 .. 255.");
        TextRegions x = with(1, 1);
        for (int b : new int[] {-1, 256, -128, 511, LEAST, MOST}) {
            due("byte " + b, ARGUMENT, () -> x.feed(b));
        }
        due("none came", 0, () -> x.told(6));
        due("byte 0", 1, () -> x.feed(0));
        due("byte 255", 2, () -> x.feed(255));
        due("both came", 2, () -> x.told(6));
        due("they are read: eight 0, then 1", -2, () -> x.read());
        due("from the first one on", 16, () -> x.told(7));
        due("the first one again", 1, () -> x.feed(128));
    }

    /** 1999 bytes came; 80 were told. */
    static TextRegions nearlyFull() {
        TextRegions x = new TextRegions(2, 1, 1);
        x.symbol(1, 1);
        for (int i = 0; i < 40 && x.told(5) < 80; i++) {
            x.instance(0, i % 2 == 0 ? 31 : -8, 0);
            x.write();
        }
        for (int i = 0; i < 24; i++) {
            x.pass();
        }
        for (int i = 0; i < 79; i++) {
            x.feed(i);
        }
        return x;
    }

    private static void twoThousandBytes() {
        by("UnsupportedOperation: there are 2000.");
        TextRegions x = nearlyFull();
        due("so many were told", 80, () -> x.told(5));
        due("so many came", 1999, () -> x.told(6));
        due("the 2000th byte", 2000, () -> x.feed(255));
        due("the 2001st byte", UNSUPPORTED, () -> x.feed(0));
        due("and again", UNSUPPORTED, () -> x.feed(255));
        due("2000 of them", 2000, () -> x.told(6));
        due("they are read", -10, () -> x.read());
        due("up to the first telling's end", 640, () -> x.told(7));
        due("there is room again", 1, () -> x.feed(0));
    }

    private static void passingUpToTwoThousand() {
        by("All bytes that were told last come: how many there are."
                + " UnsupportedOperation: there would be more than 2000.");
        TextRegions x = nearlyFull();
        due("79 too many", UNSUPPORTED, () -> x.pass());
        due("none of them came", 1999, () -> x.told(6));
        due("they are told still", 80, () -> x.told(5));
        x.read();
        for (int i = 1; i <= 25; i++) {
            int n = i;
            due("80 more", 80 * n, () -> x.pass());
        }
        due("80 too many", UNSUPPORTED, () -> x.pass());
        x.read();
        x.feed(0);
        for (int i = 0; i < 24; i++) {
            x.pass();
        }
        due("one too many", UNSUPPORTED, () -> x.pass());
        due("1921 still", 1921, () -> x.told(6));
        TextRegions none = new TextRegions(2, 1, 1);
        due("none were told", 0, () -> none.pass());
        none.feed(3);
        due("one came, none were told", 1, () -> none.pass());
    }

    // Promises 15, 16 and 17

    private static void placeOfAnotherWhat() {
        by("at how many samples it DIFFERS (6); NONE for another what");
        TextRegions x = with(8, 8);
        x.instance(0, 4, 5);
        for (int i = 0; i < 64; i++) {
            x.refine(0, i % 8, i / 8, true);
        }
        due("at all of them", 64, () -> x.place(0, 6));
        for (int what : new int[] {7, -1, 8, LEAST, MOST, 256}) {
            due("place of " + what, -1, () -> x.place(0, what));
            due("no instance, place of " + what, INDEX, () -> x.place(1, what));
        }
        for (int i : new int[] {1, -1, LEAST, MOST}) {
            due("instance " + i, INDEX, () -> x.place(i, 0));
        }
    }

    private static void toldOfAnotherWhat() {
        by("how many bits were read by then (7; NONE without that); NONE for another what");
        TextRegions x = with(1, 1);
        due("no reading", -1, () -> x.told(7));
        x.read();
        due("refused at once", 0, () -> x.told(7));
        x.feed(0);
        due("what comes changes it not", 0, () -> x.told(7));
        x.read();
        due("refused at the end", 8, () -> x.told(7));
        feedBits(x, head(0, 0, 0, 0, 0));
        x.read();
        due("not refused", -1, () -> x.told(7));
        x.read();
        due("refused again", 0, () -> x.told(7));
        for (int what : new int[] {8, -1, LEAST, MOST, 256}) {
            due("told(" + what + ")", -1, () -> x.told(what));
        }
    }

    private static void cleared() {
        by("No symbols, no instances, no bytes; ways as at first; all samples light.");
        TextRegions x = new TextRegions(3, 2, 1);
        String first = lookOf(x);
        x.clear();
        due("a new object", first, () -> lookOf(x));
        for (int round = 0; round < 2; round++) {
            x.symbol(8, 8);
            x.put(0, 0, 0, true);
            x.put(0, 2, 1, true);
            x.instance(0, 0, 0);
            x.refine(0, 1, 0, true);
            x.way(0, 3);
            x.way(1, 1);
            x.way(2, 3);
            x.way(3, 2);
            due("dark ones", 3, () -> x.compose());
            x.write();
            x.pass();
            x.clear();
            due("none came", 0, () -> x.told(6));
            due("all is gone", first, () -> lookOf(x));
            due("nothing to pass", 0, () -> x.pass());
            due("nothing to lay", 0, () -> x.compose());
            due("nothing to tell", 9, () -> x.order(8));
            due("nothing to read", -2, () -> x.read());
        }
        x.feed(0);
        x.read();
        x.clear();
        due("the latest reading was refused all the same", 8, () -> x.told(7));
    }

    private static void clearedThenFull() {
        by("No symbols, no instances, no bytes; ways as at first; all samples light.");
        TextRegions x = nearlyFull();
        x.clear();
        for (int i = 0; i < 16; i++) {
            int n = i;
            due("symbol", i, () -> x.symbol(1, 1));
            due("it is there", true, () -> x.put(n, 0, 0, true));
        }
        due("16 symbols again", UNSUPPORTED, () -> x.symbol(1, 1));
        for (int i = 0; i < 40; i++) {
            int n = i;
            due("instance", i, () -> x.instance(n % 16, 0, 0));
        }
        due("40 instances again", UNSUPPORTED, () -> x.instance(0, 0, 0));
        due("bytes come again", 1, () -> x.feed(0));
    }
}
