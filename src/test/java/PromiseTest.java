/** Each promise of the document by itself: ordinary inputs, its edges, and wrong inputs. */
public final class PromiseTest extends Checks {
    public static void main(String[] args) {
        newObject();
        symbols();
        samples();
        instances();
        refining();
        ways();
        ordering();
        orderingAlongTheRow();
        orderingNeighbours();
        orderingWithTheWholeInstance();
        composing();
        composedSamples();
        writing();
        writingCodes();
        writingStripsAndRuns();
        mostRuns();
        bytes();
        feeding();
        passing();
        reading();
        readingInOrder();
        refusals();
        refusedCodes();
        refusedNamesOfOneCode();
        readingLongCodes();
        places();
        tellings();
        clearing();
        end();
    }

    // Promise 1
    private static void newObject() {
        int[][] rows = {{1, 1, 0, 1, 1, 0}, {24, 24, 1, 24, 24, 1}, {0, 25, -1, 1, 24, 0}, {25, 0, 2, 24, 1, 1},
            {LEAST, MOST, MOST, 1, 24, 1},
            {MOST, LEAST, LEAST, 24, 1, 0}, {7, 9, 0, 7, 9, 0}};
        for (int[] row : rows) {
            TextRegions x = new TextRegions(row[0], row[1], row[2]);
            for (int what = 0; what < 3; what++) {
                int w = what;
                due("new: told(" + what + ")", row[3 + what], () -> x.told(w));
            }
            due("new: symbols", 0, () -> x.told(3));
            due("new: instances", 0, () -> x.told(4));
            due("new: bytes told", 0, () -> x.told(5));
            due("new: bytes that came", 0, () -> x.told(6));
            due("new: refused at", -1, () -> x.told(7));
            due("new: a light sample", false, () -> x.at(0, 0));
            for (int what = 0; what < 4; what++) {
                int w = what;
                due("new: way " + what, 0, () -> x.way(w, 0));
            }
        }
        due("NONE", -1, () -> TextRegions.NONE);
    }

    // Promise 2
    private static void symbols() {
        TextRegions x = new TextRegions(8, 8, 0);
        int[][] wrongSides = {{0, 1}, {1, 0}, {9, 1}, {1, 9}, {-1, 4}, {4, LEAST}, {MOST, 4}};
        for (int[] sides : wrongSides) {
            due("symbol of a wrong side", ARGUMENT, () -> x.symbol(sides[0], sides[1]));
        }
        due("no symbol is new by that", 0, () -> x.told(3));
        for (int i = 0; i < 16; i++) {
            int side = i % 8 + 1;
            due("symbol " + i, i, () -> x.symbol(side, 9 - side));
        }
        due("the 17th symbol", UNSUPPORTED, () -> x.symbol(1, 1));
        due("the 17th symbol, with a wrong side", ARGUMENT, () -> x.symbol(0, 1));
        due("symbols", 16, () -> x.told(3));
        due("the last symbol's last sample", true, () -> x.put(15, 7, 0, true));
        due("beyond it", INDEX, () -> x.put(15, 0, 1, true));
    }

    // Promise 3
    private static void samples() {
        TextRegions x = new TextRegions(8, 8, 0);
        due("put without symbols", INDEX, () -> x.put(0, 0, 0, true));
        x.symbol(3, 2);
        x.symbol(8, 8);
        due("a light sample becomes light", false, () -> x.put(0, 2, 1, false));
        due("a light sample becomes dark", true, () -> x.put(0, 2, 1, true));
        due("a dark sample becomes dark", false, () -> x.put(0, 2, 1, true));
        due("another one is light still", false, () -> x.put(0, 1, 1, false));
        due("another symbol's is light still", false, () -> x.put(1, 2, 1, false));
        due("a dark sample becomes light", true, () -> x.put(0, 2, 1, false));
        due("the last one of 64", true, () -> x.put(1, 7, 7, true));
        int[][] none = {{-1, 0, 0}, {2, 0, 0}, {0, -1, 0}, {0, 3, 0}, {0, 0, -1}, {0, 0, 2}, {1, 8, 0}, {1, 0, 8},
            {LEAST, 0, 0}, {0, MOST, 0}, {0, 0, LEAST}};
        for (int[] row : none) {
            due("put where nothing is", INDEX, () -> x.put(row[0], row[1], row[2], true));
        }
    }

    // Promise 4
    private static void instances() {
        TextRegions x = new TextRegions(8, 8, 0);
        due("an instance without symbols", INDEX, () -> x.instance(0, 0, 0));
        x.symbol(2, 2);
        due("the first instance, least place", 0, () -> x.instance(0, -8, -8));
        due("the second one, greatest place", 1, () -> x.instance(0, 31, 31));
        int[][] places = {{-9, 0}, {32, 0}, {0, -9}, {0, 32}, {LEAST, 0}, {0, MOST}};
        for (int[] place : places) {
            due("an instance elsewhere", ARGUMENT, () -> x.instance(0, place[0], place[1]));
        }
        due("no such symbol", INDEX, () -> x.instance(1, 0, 0));
        due("no such symbol, elsewhere", INDEX, () -> x.instance(-1, -9, 0));
        for (int i = 2; i < 40; i++) {
            int n = i;
            due("instance " + i, i, () -> x.instance(0, 0, n - 8));
        }
        due("the 41st instance", UNSUPPORTED, () -> x.instance(0, 0, 0));
        due("the 41st instance, elsewhere", ARGUMENT, () -> x.instance(0, 0, 32));
        due("the 41st instance, of no symbol", INDEX, () -> x.instance(1, 0, 32));
        due("instances", 40, () -> x.told(4));
    }

    // Promise 5
    private static void refining() {
        TextRegions x = new TextRegions(8, 8, 0);
        due("refine without instances", INDEX, () -> x.refine(0, 0, 0, true));
        x.symbol(8, 8);
        x.symbol(2, 3);
        x.instance(0, 0, 0);
        x.instance(1, 0, 0);
        due("it does not differ at first", false, () -> x.refine(0, 7, 7, false));
        due("it differs", true, () -> x.refine(0, 7, 7, true));
        due("it differs already", false, () -> x.refine(0, 7, 7, true));
        due("at how many samples", 1, () -> x.place(0, 6));
        due("the other one", 0, () -> x.place(1, 6));
        due("it is alike again", true, () -> x.refine(0, 7, 7, false));
        due("at no sample", 0, () -> x.place(0, 6));
        int[][] none = {{-1, 0, 0}, {2, 0, 0}, {1, 2, 0}, {1, 0, 3}, {1, -1, 0}, {1, 0, -1}, {0, 8, 0}, {0, 0, 8},
            {MOST, 0, 0}, {1, LEAST, 0}};
        for (int[] row : none) {
            due("refine where nothing is", INDEX, () -> x.refine(row[0], row[1], row[2], true));
        }
    }

    // Promise 6
    private static void ways() {
        TextRegions x = new TextRegions(8, 8, 0);
        int[] most = {3, 1, 3, 4};
        for (int what = 0; what < 4; what++) {
            int w = what;
            for (int v = 0; v < most[what]; v++) {
                int before = v;
                due("way " + what, before, () -> x.way(w, before + 1));
            }
            due("a way too great", ARGUMENT, () -> x.way(w, most[w] + 1));
            due("a way below 0", ARGUMENT, () -> x.way(w, -1));
            due("a way far off", ARGUMENT, () -> x.way(w, LEAST));
            due("the way is as it was", most[what], () -> x.way(w, 0));
        }
        due("no such way", ARGUMENT, () -> x.way(4, 0));
        due("no such way", ARGUMENT, () -> x.way(-1, 0));
        due("no such way", ARGUMENT, () -> x.way(MOST, 0));
    }

    /** Three instances of a symbol of width 2 in one row, the wrong way round. */
    private static TextRegions backward(int kind) {
        TextRegions x = new TextRegions(16, 16, kind);
        x.symbol(2, 1);
        x.instance(0, 4, 0);
        x.instance(0, 2, 0);
        x.instance(0, 0, 0);
        return x;
    }

    // Promise 7
    private static void ordering() {
        TextRegions x = backward(1);
        due("tries below 0", ARGUMENT, () -> x.order(-1));
        due("more than 8 tries", ARGUMENT, () -> x.order(9));
        due("tries far off", ARGUMENT, () -> x.order(LEAST));
        // count, ways, strip: 5 + 8 + 9; each one's name and bit, the bit behind it: 3 * 3; S 4, -4, -4: 7 + 7 + 7
        due("bits without a try", 22 + 9 + 21, () -> x.order(0));
        due("the row is as it was", 4, () -> x.place(0, 1));
        // 4 2 0 becomes 2 4 0 (5 + 1 + 7), that 2 0 4 (5 + 7 + 5: more, so not)
        due("one try", 22 + 9 + 5 + 1 + 7, () -> x.order(1));
        due("the first one now", 2, () -> x.place(0, 1));
        due("the second one now", 4, () -> x.place(1, 1));
        due("the third one now", 0, () -> x.place(2, 1));
        due("no further try helps", 22 + 9 + 13, () -> x.order(8));
        TextRegions laid = backward(1);
        laid.way(3, 4);
        int all = laid.order(0);
        due("no tries with operator 4", all, () -> laid.order(8));
        due("the row is as it was", 4, () -> laid.place(0, 1));
        due("nor is it otherwise", 0, () -> laid.place(2, 1));
        due("an empty region", 9, () -> new TextRegions(1, 1, 0).order(8));
    }

    /** Equal strips that are no neighbours in the row stay where they are. */
    private static void orderingAlongTheRow() {
        TextRegions x = new TextRegions(16, 16, 1);
        x.symbol(2, 1);
        x.instance(0, 2, 0);
        x.instance(0, 0, 5);
        x.instance(0, 0, 0);
        int bits = x.order(0);
        due("no neighbours in one strip", bits, () -> x.order(8));
        due("the row is as it was", 5, () -> x.place(1, 2));
        TextRegions y = new TextRegions(16, 16, 1);
        y.symbol(2, 1);
        y.instance(0, 0, 5);
        y.instance(0, 2, 0);
        y.instance(0, 0, 0);
        int more = y.order(0);
        // S 2, then -4 (5 and 7 bits) against S 0, then 0 (1 and 1 bits); the next strip's S: -2 (5) against 0 (1)
        due("neighbours change places", more - 5 - 7 - 5 + 1 + 1 + 1, () -> y.order(1));
        due("the second one now", 0, () -> y.place(1, 1));
        due("the third one now", 2, () -> y.place(2, 1));
    }

    /** Neighbours that would take as many bits stay, and so do those of two strips, and what is gone. */
    private static void orderingNeighbours() {
        TextRegions x = new TextRegions(16, 16, 1);
        x.symbol(1, 1);
        x.instance(0, 3, 0);
        x.instance(0, 3, 0);
        x.refine(1, 0, 0, true);
        x.order(1);
        due("equals stay", 1, () -> x.place(1, 6));
        TextRegions y = new TextRegions(16, 16, 1);
        y.symbol(1, 1);
        y.instance(0, 3, 5);
        y.instance(0, 0, 0);
        y.order(8);
        due("two strips stay", 5, () -> y.place(0, 2));
        y.way(2, 3);
        y.order(8);
        due("one strip now", 0, () -> y.place(0, 2));
        TextRegions z = backward(1);
        z.clear();
        z.symbol(2, 1);
        z.instance(0, 31, 0);
        due("one instance alone", 3 + 8 + 9 + 11 + 3, () -> z.order(8));
        due("it stays", 31, () -> z.place(0, 1));
    }

    private static void orderingWithTheWholeInstance() {
        TextRegions x = new TextRegions(16, 16, 0);
        x.symbol(1, 1);
        x.symbol(2, 2);
        x.way(2, 2);
        x.instance(0, 9, 2);
        x.instance(1, 7, 3);
        x.refine(1, 0, 1, true);
        x.refine(1, 1, 1, true);
        // count, ways, lengths, strip: 3 + 8 + 8 + 9; T: 2 * 2; codes and the bits behind: 2 * 3; runs 2, 2: 3 + 3
        due("one way round", 28 + 4 + 6 + 6 + 9 + 5, () -> x.order(0));
        due("the other way round", 28 + 4 + 6 + 6 + 7 + 1, () -> x.order(2));
        int[][] all = {{1, 7, 3, 7, 3, 0, 2}, {0, 9, 2, 9, 2, 0, 0}};
        for (int i = 0; i < 2; i++) {
            for (int what = 0; what < 7; what++) {
                int instance = i;
                int w = what;
                due("ordered: place(" + i + ", " + what + ")", all[i][what], () -> x.place(instance, w));
            }
        }
    }

    // Promise 8
    private static void composing() {
        // 1100 is laid, then 1010 (its third sample differs from its symbol's)
        int[] dark = {3, 0, 2, 2, 2};
        String[] rows = {"1110", "0000", "0110", "0110", "1010"};
        for (int operator = 0; operator < 5; operator++) {
            TextRegions x = new TextRegions(4, 1, 0);
            x.symbol(4, 1);
            x.symbol(4, 1);
            x.put(0, 0, 0, true);
            x.put(0, 1, 0, true);
            x.put(1, 0, 0, true);
            x.instance(0, 0, 0);
            x.instance(1, 0, 0);
            x.refine(1, 2, 0, true);
            x.way(3, operator);
            due("operator " + operator, dark[operator], () -> x.compose());
            for (int i = 0; i < 4; i++) {
                int column = i;
                due("operator " + operator + " at " + i, rows[operator].charAt(i) == '1', () -> x.at(column, 0));
            }
        }
        TextRegions same = new TextRegions(4, 2, 0);
        same.symbol(3, 1);
        same.put(0, 1, 0, true);
        same.instance(0, 1, 1);
        same.way(3, 3);
        due("only what lies under an instance becomes the same", 2, () -> same.compose());
        due("light and light", true, () -> same.at(1, 1));
        due("light and dark", false, () -> same.at(2, 1));
        due("beside it", false, () -> same.at(0, 1));
        same.way(3, 2);
        due("one sample differs from light", 1, () -> same.compose());
        due("all is light before it is composed again", 1, () -> same.compose());
        TextRegions x = new TextRegions(3, 3, 0);
        due("nothing is laid", 0, () -> x.compose());
        x.symbol(8, 8);
        for (int i = 0; i < 64; i++) {
            x.put(0, i % 8, i / 8, true);
        }
        x.instance(0, -6, -7);
        due("only what is in the region", 2, () -> x.compose());
        due("all is light before", 2, () -> x.compose());
        x.instance(0, 3, 0);
        x.instance(0, 0, 3);
        x.instance(0, -8, 0);
        x.instance(0, 0, -8);
        due("beside the region", 2, () -> x.compose());
    }

    // Promise 8 and 9: THE ORDER decides what lies above
    private static void composedSamples() {
        TextRegions x = new TextRegions(5, 4, 0);
        x.symbol(1, 2);
        x.symbol(1, 1);
        x.put(1, 0, 0, true);
        x.instance(1, 2, 1);
        x.instance(0, 2, 0);
        x.way(3, 4);
        due("the lower one is laid last", 1, () -> x.compose());
        due("it is dark", true, () -> x.at(2, 1));
        x.way(0, 1);
        due("at is as composed last", true, () -> x.at(2, 1));
        due("one strip: as they stand in the row", 0, () -> x.compose());
        due("it is light", false, () -> x.at(2, 1));
        int[][] none = {{-1, 0}, {5, 0}, {0, -1}, {0, 4}, {LEAST, 0}, {0, MOST}};
        for (int[] row : none) {
            due("at beside the region", INDEX, () -> x.at(row[0], row[1]));
        }
        due("at the last sample", false, () -> x.at(4, 3));
    }

    // Promise 10
    private static void writing() {
        dueBytes("nothing, kind 0", new TextRegions(5, 5, 0), "1 00 0 00 000");
        dueBytes("nothing, kind 1", new TextRegions(5, 5, 1), "1 00 0 00 000");
        TextRegions x = new TextRegions(5, 5, 1);
        x.symbol(2, 3);
        x.symbol(1, 1);
        x.symbol(1, 1);
        x.way(0, 3);
        x.way(1, 1);
        x.way(2, 2);
        x.way(3, 4);
        dueBytes("ways alone", x, "1 10 1 11 100");
        // right lower corner, turned: T is the column -7 + 1, S the row 0 + 2; strip -2 (and 16: 14), T 2 above it
        x.instance(0, -7, 0);
        dueBytes("one instance", x, "010 10 1 11 100 0001111 00101 10 1 0 0");
        // one more in the strip: T -8, S 6, what would stand next is 2 + 3; symbols 2, then 0 again by its place
        x.instance(2, -8, 6);
        x.instance(0, -7, 7);
        dueBytes("three instances", x, "00100 10 1 11 100 0001111 00101 10 1 0"
                + "1 011 00 011 0 1 00101 10 010 0 0");
    }

    // Promise 10: CODES
    private static void writingCodes() {
        TextRegions x = new TextRegions(5, 5, 0);
        x.symbol(1, 1);
        x.symbol(1, 1);
        x.symbol(1, 1);
        x.symbol(1, 1);
        dueBytes("no instances, four lengths of 0", x, "1 00 0 00 000 0000 0000 0000 0000");
        x.instance(2, 0, 0);
        dueBytes("the only symbol", x, "010 00 0 00 000 0000 0000 0001 0000 000010001 1 0 0 0");
        x.instance(0, 1, 0);
        x.instance(3, 2, 0);
        // counts 1, 0, 1, 1: symbols 0 and 2 are joined, then 3 (count 1) with what was joined (2)
        dueBytes("three symbols", x, "00100 00 0 00 000 0010 0000 0010 0001 000010001 1 11 0"
                + "1 1 10 0 1 1 0 0 0");
        x.instance(1, 3, 0);
        x.instance(1, 4, 0);
        // counts 1, 2, 1, 1: 0 and 2 joined (2); 3 (1) and symbol 1 (2, earlier than what was joined); all of length 2
        dueBytes("four symbols", x, "00110 00 0 00 000 0010 0010 0010 0010 000010001 1 10 0"
                + "1 1 00 0 1 1 11 0 1 1 01 0 1 1 01 0 0");
    }

    // Promise 10: STRIPS and runs
    private static void writingStripsAndRuns() {
        TextRegions x = new TextRegions(9, 9, 1);
        x.symbol(3, 2);
        x.instance(0, 5, 3);
        x.instance(0, 1, 0);
        x.instance(0, 4, 0);
        x.refine(0, 0, 0, true);
        x.refine(0, 1, 0, true);
        x.refine(0, 2, 1, true);
        x.refine(1, 1, 0, true);
        x.refine(2, 1, 1, true);
        x.refine(2, 2, 1, true);
        // strip 0 (and 16), S 1: runs 1, 1, 4; S 4 as expected: runs 4, 2; strip 3 (2 more), S 5 - 1: runs 0, 2, 3, 1
        dueBytes("two strips", x, "00100 00 0 00 000 000010001 011 1 1 010 010 00101"
                + "1 1 1 1 00101 011 0 011 0001001 1 1 1 011 00100 010 0");
    }

    // Promises 10 and 14: the most runs that there can be
    private static void mostRuns() {
        TextRegions x = new TextRegions(9, 9, 1);
        x.symbol(3, 1);
        x.instance(0, 0, 0);
        x.refine(0, 0, 0, true);
        x.refine(0, 2, 0, true);
        dueBytes("runs of 0, 1, 1, 1", x, "010 00 0 00 000 000010001 1 1 1 1 010 010 010 0");
        x.pass();
        due("they are read", 1, () -> x.read());
        due("it differs at two", 2, () -> x.place(0, 6));
        x.compose();
        due("at the first one", true, () -> x.at(0, 0));
        due("not at the second one", false, () -> x.at(1, 0));
        due("at the last one", true, () -> x.at(2, 0));
    }

    // Promise 11
    private static void bytes() {
        TextRegions x = new TextRegions(9, 9, 1);
        due("no byte yet", INDEX, () -> x.byteAt(0));
        x.write();
        due("a byte", 128, () -> x.byteAt(0));
        due("the last byte", 0, () -> x.byteAt(1));
        due("no byte -1", INDEX, () -> x.byteAt(-1));
        due("no byte 2", INDEX, () -> x.byteAt(2));
        due("no such byte", INDEX, () -> x.byteAt(MOST));
        due("no such byte", INDEX, () -> x.byteAt(LEAST));
        x.way(2, 3);
        due("as it was told last", 128, () -> x.byteAt(0));
        x.write();
        due("told again", 128 + 64 + 32, () -> x.byteAt(0));
        due("told again: how many", 2, () -> x.told(5));
    }

    // Promise 12
    private static void feeding() {
        TextRegions x = new TextRegions(9, 9, 1);
        due("a byte of -1", ARGUMENT, () -> x.feed(-1));
        due("a byte of 256", ARGUMENT, () -> x.feed(256));
        due("a byte far off", ARGUMENT, () -> x.feed(LEAST));
        due("none came", 0, () -> x.told(6));
        due("a byte of 0", 1, () -> x.feed(0));
        due("a byte of 255", 2, () -> x.feed(255));
        TextRegions full = fullOf(80, 25);
        due("2000 bytes", 2000, () -> full.told(6));
        due("one more", UNSUPPORTED, () -> full.feed(0));
        due("one more, but none", ARGUMENT, () -> full.feed(256));
        due("2000 bytes still", 2000, () -> full.told(6));
    }

    /** An object that tells so many bytes, that came so often. */
    private static TextRegions fullOf(int bytes, int times) {
        TextRegions x = new TextRegions(9, 9, 1);
        x.symbol(1, 1);
        for (int i = 0; i < 40 && x.write() < bytes; i++) {
            x.instance(0, i % 2 == 0 ? 31 : -8, 0);
        }
        due("so many bytes are told", bytes, () -> x.told(5));
        for (int i = 0; i < times; i++) {
            x.pass();
        }
        return x;
    }

    // Promise 13
    private static void passing() {
        TextRegions x = new TextRegions(9, 9, 1);
        due("nothing was told", 0, () -> x.pass());
        x.feed(7);
        due("nothing was told, one came", 1, () -> x.pass());
        x.write();
        due("two more", 3, () -> x.pass());
        due("two more", 5, () -> x.pass());
        due("they are told still", 2, () -> x.told(5));
        TextRegions full = fullOf(80, 24);
        due("up to 2000", 2000, () -> full.pass());
        due("beyond 2000", UNSUPPORTED, () -> full.pass());
        due("2000 still", 2000, () -> full.told(6));
        TextRegions nearly = fullOf(80, 24);
        nearly.feed(0);
        due("one beyond 2000", UNSUPPORTED, () -> nearly.pass());
        due("as many as before", 1921, () -> nearly.told(6));
    }

    // Promise 14
    private static void reading() {
        TextRegions x = new TextRegions(9, 9, 1);
        x.symbol(2, 1);
        x.symbol(1, 8);
        x.instance(0, 3, 3);
        x.way(2, 1);
        String head = "011 10 1 11 011";
        // strip -2 (told as 14), S -1, T 3 above -8: symbol 1 at x -5, y -1 - 7
        dueReading("one instance more than is told", x, "010 10 1 11 011"
                + "0001111 010 11 010 0 1 1", -3, 28);
        due("nothing changes", 0, () -> x.place(0, 0));
        due("nor do ways", 1, () -> x.way(2, 1));
        due("nor does the row", 1, () -> x.told(4));
        // runs 4, 1, 3; then S 2 beyond the 7 that would stand next: symbol 0, now at place 1, x -5 - 1; runs 0, 2
        dueReading("two instances, the second one further on", x, head
                + "0001111 010 11 010 1 00101 010 00100"
                + "1 00101 11 010 1 1 011 0", 2, -1);
        int[][] all = {{1, -5, -8, -1, -5, -2, 1}, {0, -6, 9, 9, -5, -2, 2}};
        for (int i = 0; i < 2; i++) {
            for (int what = 0; what < 7; what++) {
                int instance = i;
                int w = what;
                due("read: place(" + i + ", " + what + ")", all[i][what], () -> x.place(instance, w));
            }
        }
        due("the log that was told", 2, () -> x.way(2, 0));
        due("turned as was told", 1, () -> x.way(1, 0));
        due("the corner that was told", 3, () -> x.way(0, 0));
        due("the operator that was told", 3, () -> x.way(3, 0));
        dueReading("no bytes", x, "", -2, 0);
        due("the instances stay", 2, () -> x.told(4));
        dueReading("no instances", x, "1 00 0 00 000", 0, -1);
        due("no instances now", 0, () -> x.told(4));
        dueReading("it differs, but is all alike", x, "010 00 0 00 000 000010001 1 1 1 011", 1, -1);
        due("it differs nowhere", 0, () -> x.place(0, 6));
    }

    // Promise 14: what was told comes again, in THE ORDER
    private static void readingInOrder() {
        for (int kind = 0; kind < 2; kind++) {
            TextRegions x = new TextRegions(9, 9, kind);
            x.symbol(2, 1);
            x.symbol(8, 8);
            x.instance(0, 3, 31);
            x.instance(1, -8, -8);
            x.refine(1, 7, 7, true);
            x.instance(0, 31, -8);
            x.write();
            x.pass();
            x.clear();
            due("clear takes bytes away", 0, () -> x.told(6));
            x.symbol(2, 1);
            x.symbol(8, 8);
            x.instance(0, 3, 31);
            x.instance(1, -8, -8);
            x.refine(1, 7, 7, true);
            x.instance(0, 31, -8);
            x.write();
            x.pass();
            due("three come", 3, () -> x.read());
            due("the first one", -8, () -> x.place(0, 1));
            due("its differing", 1, () -> x.place(0, 6));
            due("the second one", 31, () -> x.place(1, 1));
            due("the third one", 31, () -> x.place(2, 2));
        }
    }

    // Promise 14 and 16: what READING is refused by, and where
    private static void refusals() {
        TextRegions x = new TextRegions(9, 9, 1);
        x.symbol(2, 1);
        x.symbol(8, 8);
        String head = "010 00 0 00 000";
        String one = head + "000010001 1";
        dueReading("1: the bits end", x, head + "000010", -2, 24);
        dueReading("2: 41 instances", x, "00000101010 00 0 00 000", -3, 11);
        dueReading("2: 40 instances are fine, but the bits end", x, "00000101001 00 0 00 000 00000", -2, 24);
        dueReading("2: one more than was told", x, one + "1 0 1 1", -3, 24);
        dueReading("3: operator 5", x, "010 00 0 00 101 1", -4, 11);
        dueReading("3: operator 7", x, "010 00 0 00 111 1", -4, 11);
        dueReading("3: operator 4 is fine", x, "1 00 0 00 100", 0, -1);
        dueReading("5: symbol 2", x, one + "011 0 0", -6, 24);
        dueReading("6: x 32", x, head + "000010001 0000001000001 1 0 0", -7, 34);
        dueReading("6: x 31 is fine", x, head + "000010001 00000111111 1 0 0", 1, -1);
        dueReading("6: x -8 is fine", x, head + "000010001 000010000 1 0 0", 1, -1);
        dueReading("6: x -9", x, head + "000010001 000010010 1 0 0", -7, 30);
        dueReading("6: y -9", x, head + "0001000 1 1 0 0", -7, 20);
        dueReading("6: y -8 is fine", x, head + "0001001 1 1 0 0", 1, -1);
        dueReading("6: y 32", x, head + "00000110001 1 1 0 0", -7, 24);
        dueReading("6: y 31 is fine", x, head + "00000110000 1 1 0 0", 1, -1);
        dueReading("7: a first run beyond", x, one + "1 1 00100 0", -8, 28);
        dueReading("7: a second run beyond", x, one + "1 1 010 011 0", -8, 29);
        dueReading("7: a second run of 0", x, one + "1 1 010 1", -8, 27);
        dueReading("7: a first run of 0 is fine", x, one + "1 1 1 011 0", 1, -1);
        due("all differ", 2, () -> x.place(0, 6));
        dueReading("8: thirteen 0", x, "0000000000000 111", -9, 13);
        dueReading("8: twelve 0, then too many", x, "000000000000 1 000000000000", -3, 25);
        dueReading("8: later on", x, head + "0000000000000 1", -9, 24);
        dueReading("9: a bit that fills", x, "1 00 0 00 000 0010000", -10, 12);
        dueReading("9: the last bit that fills", x, "1 00 0 00 000 0000001", -10, 16);
        dueReading("9: a byte behind", x, "1 00 0 00 000 0000000 00000000", -10, 16);
        dueReading("9: a byte behind a full one", x, one + "1 0 0 00000000 00000000", -10, 24);
        dueReading("a full one", x, one + "1 0 0", 1, -1);
    }

    // Promise 14: lengths
    private static void refusedCodes() {
        TextRegions x = new TextRegions(9, 9, 0);
        dueReading("no symbols: no codes", x, "010 00 0 00 000 1111", -5, 11);
        dueReading("no symbols and no instances", x, "1 00 0 00 000", 0, -1);
        x.symbol(2, 1);
        x.symbol(8, 8);
        x.symbol(1, 1);
        String some = "010 00 0 00 000";
        String none = "1 00 0 00 000";
        dueReading("4: none, but an instance", x, some + "0000 0000 0000", -5, 23);
        dueReading("4: none, no instance", x, none + "0000 0000 0000", 0, -1);
        dueReading("4: one of two bits", x, none + "0000 0010 0000", -5, 21);
        dueReading("4: one of one bit", x, none + "0000 0001 0000", 0, -1);
        dueReading("4: full, no instance", x, none + "0010 0001 0010", 0, -1);
        dueReading("4: too few", x, none + "0010 0010 0010", -5, 21);
        dueReading("4: too many", x, none + "0001 0001 0001", -5, 21);
        dueReading("4: the bits end first", x, none + "0010 001", -2, 16);
        String place = "000010001 1";
        dueReading("full codes", x, some + "0010 0001 0010" + place + "10 0 0", 1, -1);
        due("the shortest is first, then by number", 0, () -> x.place(0, 0));
        dueReading("full codes", x, some + "0010 0001 0010" + place + "11 0 0", 1, -1);
        due("the last code", 2, () -> x.place(0, 0));
        dueReading("full codes", x, some + "0010 0001 0010" + place + "0 0 0", 1, -1);
        due("the first code", 1, () -> x.place(0, 0));
    }

    // Promise 14: one code alone
    private static void refusedNamesOfOneCode() {
        TextRegions x = new TextRegions(9, 9, 0);
        x.symbol(2, 1);
        x.symbol(8, 8);
        String start = "010 00 0 00 000 0000 0001 000010001 1";
        dueReading("one code", x, start + "0 0 0", 1, -1);
        due("its symbol", 1, () -> x.place(0, 0));
        dueReading("one code of the first symbol", x, "010 00 0 00 000 0001 0000 000010001 1 0 0 0", 1, -1);
        due("its symbol", 0, () -> x.place(0, 0));
        dueReading("5: no code", x, start + "1 0 0", -6, 30);
        dueReading("6 is looked at behind the name", x, "010 00 0 00 000 0000 0001 1 1 1 0 0", -6, 22);
        dueReading("6 behind a name that is", x, "010 00 0 00 000 0000 0001 1 1 0 0 0", -7, 22);
    }

    // Promise 14: lengths up to 15
    private static void readingLongCodes() {
        TextRegions x = new TextRegions(9, 9, 0);
        StringBuilder lengths = new StringBuilder();
        for (int i = 0; i < 16; i++) {
            x.symbol(1, 1);
            lengths.append(Integer.toBinaryString(16 + Math.max(1, 15 - i)).substring(1));
        }
        // lengths 15, 14, .., 1 and one more of 1 bit are too many; 15, 15, 14, .., 1 are full
        dueReading("too many", x, "010 00 0 00 000" + lengths, -5, 75);
        String full = "1111" + lengths.substring(0, 60);
        String start = "010 00 0 00 000" + full + "000010001 1";
        dueReading("the last of 15 bits", x, start + "111111111111111 0 0", 1, -1);
        due("its symbol", 1, () -> x.place(0, 0));
        dueReading("the first of 15 bits", x, start + "111111111111110 0 0", 1, -1);
        due("its symbol", 0, () -> x.place(0, 0));
        dueReading("14 bits", x, start + "11111111111110 0 0", 1, -1);
        due("its symbol", 2, () -> x.place(0, 0));
        dueReading("one bit", x, start + "0 0 0", 1, -1);
        due("its symbol", 15, () -> x.place(0, 0));
    }

    // Promise 15
    private static void places() {
        TextRegions x = new TextRegions(9, 9, 0);
        due("place without instances", INDEX, () -> x.place(0, 0));
        due("place without instances, of nothing", INDEX, () -> x.place(0, 7));
        x.symbol(1, 1);
        x.symbol(4, 7);
        x.instance(1, -5, -3);
        x.refine(0, 3, 6, true);
        x.refine(0, 0, 0, true);
        int[][] corners = {{-5, -3}, {-5, 3}, {-2, -3}, {-2, 3}};
        for (int way = 0; way < 32; way++) {
            int corner = way % 4;
            int turned = way / 4 % 2;
            int log = way / 8;
            x.way(0, corner);
            x.way(1, turned);
            x.way(2, log);
            int t = corners[corner][1 - turned];
            int[] all = {1, -5, -3, corners[corner][turned], t, (int) Math.floor(t / Math.pow(2, log)), 2, -1};
            for (int what = 0; what < 8; what++) {
                int w = what;
                due("way " + way + ": place(0, " + what + ")", all[what], () -> x.place(0, w));
            }
        }
        due("place of nothing", -1, () -> x.place(0, -1));
        due("place of nothing", -1, () -> x.place(0, MOST));
        due("no instance 1", INDEX, () -> x.place(1, 0));
        due("no instance -1", INDEX, () -> x.place(-1, 0));
        due("no such instance", INDEX, () -> x.place(LEAST, 0));
    }

    // Promise 16
    private static void tellings() {
        TextRegions x = new TextRegions(3, 5, 1);
        x.symbol(1, 1);
        x.symbol(1, 1);
        x.instance(0, 0, 0);
        x.feed(0);
        int bytes = x.write();
        int[] all = {3, 5, 1, 2, 1, bytes, 1, -1, -1};
        for (int what = 0; what < 9; what++) {
            int w = what;
            due("told(" + what + ")", all[what], () -> x.told(w));
        }
        due("told(-1)", -1, () -> x.told(-1));
        due("told of nothing", -1, () -> x.told(LEAST));
        x.read();
        due("refused at", 8, () -> x.told(7));
        due("came", 0, () -> x.told(6));
        x.pass();
        due("read", 1, () -> x.read());
        due("not refused", -1, () -> x.told(7));
    }

    // Promise 17
    private static void clearing() {
        TextRegions x = new TextRegions(3, 5, 1);
        x.symbol(1, 1);
        x.put(0, 0, 0, true);
        x.instance(0, 0, 0);
        x.refine(0, 0, 0, true);
        x.refine(0, 0, 0, false);
        x.instance(0, 1, 0);
        x.refine(1, 0, 0, true);
        x.compose();
        for (int i = 0; i < 4; i++) {
            x.way(i, 1);
        }
        x.write();
        x.pass();
        due("dark before", true, () -> x.at(0, 0));
        x.clear();
        int[] all = {3, 5, 1, 0, 0, 0, 0, -1};
        for (int what = 0; what < 8; what++) {
            int w = what;
            due("clear: told(" + what + ")", all[what], () -> x.told(w));
        }
        due("clear: light", false, () -> x.at(0, 0));
        due("clear: no byte", INDEX, () -> x.byteAt(0));
        due("clear: no instance", INDEX, () -> x.place(0, 0));
        due("clear: no symbol", INDEX, () -> x.put(0, 0, 0, false));
        for (int i = 0; i < 4; i++) {
            int what = i;
            due("clear: way " + i, 0, () -> x.way(what, 0));
        }
        due("clear: a symbol again", 0, () -> x.symbol(1, 1));
        due("clear: its sample is light", false, () -> x.put(0, 0, 0, false));
        x.instance(0, 0, 0);
        due("clear: an instance again", 1, () -> x.instance(0, 0, 0));
        due("clear: it differs nowhere", 0, () -> x.place(1, 6));
    }
}
