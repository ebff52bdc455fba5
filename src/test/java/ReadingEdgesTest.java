/** Each sentence that names an edge of READING, the nine refusals among them, each with its place. */
public final class ReadingEdgesTest extends Checks {
    /** One instance of kind 1, up to where its strip begins. */
    private static final String ONE = head(1, 0, 0, 0, 0);
    /** And up to its name: strip 0, S 0. */
    private static final String NAMED = ONE + "000010001 1";

    public static void main(String[] args) {
        noBytes();
        bitsEnd();
        bitsEndAnywhere();
        moreThanForty();
        oneMoreThanTold();
        operators();
        lengthsNotFull();
        oneCodeAlone();
        noCodesAtAll();
        lengthsOfSixteen();
        noSuchSymbol();
        noCode();
        columnsOutside();
        rowsOutside();
        outsideByCorners();
        lookedAtBehindTheName();
        runsBeyond();
        runsOfNone();
        longNumbers();
        bitsThatFill();
        bytesBehind();
        theFirstThatItMeets();
        nothingChanges();
        noBytesThen();
        symbolsAtHand();
        thoseThatWereTold();
        inTheOrderInWhichTheyCame();
        fortyAreRead();
        end();
    }

    private static TextRegions with(int kind, int... sides) {
        TextRegions x = new TextRegions(24, 24, kind);
        for (int i = 0; i < sides.length; i += 2) {
            x.symbol(sides[i], sides[i + 1]);
        }
        return x;
    }

    // 1

    private static void noBytes() {
        by("1 the bits end");
        for (int kind = 0; kind < 2; kind++) {
            TextRegions x = with(kind, 1, 1);
            dueReading("no bytes", x, "", -2, 0);
            dueReading("no bytes again", x, "", -2, 0);
            dueReading("one byte", x, "1 00 0 00 00", -2, 8);
            dueReading("one byte and a half number", x, "00000 101", -2, 8);
        }
    }

    private static void bitsEnd() {
        by("1 the bits end");
        TextRegions x = with(1, 2, 1);
        String log = head(1, 0, 0, 1, 0);
        // all of these end with a byte, so that no bit fills
        dueReading("in the 0 of a number", x, "00000000", -2, 8);
        dueReading("in the bits behind its 1", x, "00001000", -2, 8);
        dueReading("in the ways", x, "00100 00 0", -2, 8);
        dueReading("in the 0 of the strip", x, head(7, 0, 0, 0, 0) + "0", -2, 16);
        dueReading("in the bits behind the 1 of the strip", x, ONE + "00001", -2, 16);
        dueReading("in S", x, ONE + "000010001 0000", -2, 24);
        dueReading("in T", x, head(1, 0, 0, 2, 0) + "0001111 00100 0", -2, 24);
        dueReading("before the name", x, log + "0001111 00100 1", -2, 24);
        dueReading("before the bit whether it differs", x, ONE + "0001001 00100 1", -2, 24);
        dueReading("before the first run", x, log + "0001111 010 1 1 1", -2, 24);
        dueReading("before the second run", x, NAMED + "1 1 1", -2, 24);
        dueReading("before the bit behind an instance", x, log + "0001111 010 1 1 0", -2, 24);
        dueReading("before the second strip", x, head(2, 0, 0, 0, 0) + "000010001 1 1 0 0", -2, 24);
    }

    /** A telling without its last bytes is refused at its end, however many are left out. */
    private static void bitsEndAnywhere() {
        by("1 the bits end");
        for (int kind = 0; kind < 2; kind++) {
            TextRegions x = with(kind, 2, 1, 3, 3);
            x.way(2, 3);
            x.way(3, 1);
            x.instance(0, 31, 3);
            x.instance(1, -8, 4);
            x.refine(1, 1, 1, true);
            x.instance(0, 5, 31);
            int bytes = x.write();
            for (int left = 0; left < bytes; left++) {
                for (int i = 0; i < left; i++) {
                    x.feed(x.byteAt(i));
                }
                due("left " + left, -2, () -> x.read());
                int all = 8 * left;
                due("left " + left + ": place", all, () -> x.told(7));
            }
            x.pass();
            due("none left out", 3, () -> x.read());
        }
    }

    // 2

    private static void moreThanForty() {
        by("2 more than 40 instances, or one more than was told at first");
        TextRegions x = with(1, 1, 1);
        dueReading("40: the bits end", x, "00000101001 00000", -2, 16);
        dueReading("41", x, "00000101010 00000", -3, 11);
        dueReading("41 with nothing behind", x, "00000101 010 11111", -3, 11);
        dueReading("62", x, "00000111111", -3, 11);
        dueReading("63", x, "0000001000000", -3, 13);
        dueReading("8190", x, "0000000000001111111111111", -3, 25);
        dueReading("4095", x, "0000000000001000000000000", -3, 25);
        dueReading("41, kind 0", with(0, 1, 1), "00000101010", -3, 11);
    }

    private static void oneMoreThanTold() {
        by("2 more than 40 instances, or one more than was told at first");
        TextRegions x = with(1, 1, 1);
        dueReading("one told, a second one comes", x, NAMED + "1 0 1 1 1 0 0", -3, 24);
        dueReading("the bit alone is enough", x, NAMED + "1 0 1", -3, 24);
        dueReading("two told, a third one comes", x, head(2, 0, 0, 0, 0) + "000010001 1 1 0 1 1 1 0 1", -3, 28);
        dueReading("two told, in the second strip", x, head(2, 0, 0, 0, 0) + "000010001 1 1 0 0 1 1 1 0 1", -3, 29);
        dueReading("two told, two come", x, head(2, 0, 0, 0, 0) + "000010001 1 1 0 1 1 1 0 0", 2, -1);
        dueReading("none told: a bit that fills", x, "1 00 0 00 000 1", -10, 10);
        dueReading("one less is no refusal by 2: the bits end", x, head(2, 0, 0, 0, 0) + "000010001 1 1 0 0", -2, 24);
    }

    // 3

    private static void operators() {
        by("3 an OPERATOR above 4");
        for (int kind = 0; kind < 2; kind++) {
            TextRegions x = with(kind);
            for (int operator = 0; operator < 8; operator++) {
                boolean isOne = operator <= 4;
                dueReading("operator " + operator, x, head(0, 0, 0, 0, operator), isOne ? 0 : -4, isOne ? -1 : 9);
            }
            due("the last good one", 4, () -> x.way(3, 0));
            TextRegions y = with(kind, 1, 1);
            dueReading("behind 40 instances", y, head(40, 3, 1, 3, 5), -4, 19);
        }
    }

    // 4

    private static void lengthsNotFull() {
        by("4 lengths whose CODES are not full (full: all powers 1 / 2^length come to 1)");
        int[][] full = {{1, 1, 0}, {0, 1, 1}, {1, 2, 2}, {2, 1, 2}, {2, 2, 1}};
        int[][] not = {{2, 2, 2}, {1, 1, 1}, {1, 2, 0}, {1, 2, 3}, {2, 2, 0}, {15, 15, 15}, {1, 1, 15}, {3, 3, 3},
            {2, 0, 0}, {0, 15, 0}, {0, 0, 3}, {1, 15, 15}};
        TextRegions x = with(0, 1, 1, 1, 1, 1, 1);
        for (int[] lengths : full) {
            dueReading("full, no instances", x, head(0, 0, 0, 0, 0) + told(lengths), 0, -1);
            dueReading("full, one instance", x, ONE + told(lengths) + "000010001 1" + (lengths[0] == 1 ? "0" : "10")
                    + "0 0", 1, -1);
        }
        for (int[] lengths : not) {
            dueReading("not full, no instances", x, head(0, 0, 0, 0, 0) + told(lengths) + "111", -5, 21);
            dueReading("not full, one instance", x, ONE + told(lengths) + "111", -5, 23);
        }
        dueReading("the lengths end", x, head(0, 0, 0, 0, 0) + "1111 111", -2, 16);
        dueReading("kind 1 has no lengths", with(1, 1, 1, 1, 1), head(0, 0, 0, 0, 0) + "0000000", 0, -1);
    }

    private static String told(int... lengths) {
        StringBuilder all = new StringBuilder();
        for (int length : lengths) {
            all.append(fixed(length, 4));
        }
        return all.toString();
    }

    private static void oneCodeAlone() {
        by("but for one CODE of one bit");
        TextRegions x = with(0, 1, 1, 1, 1, 1, 1);
        for (int symbol = 0; symbol < 3; symbol++) {
            int s = symbol;
            int[] lengths = new int[3];
            lengths[symbol] = 1;
            dueReading("one code, no instance", x, head(0, 0, 0, 0, 0) + told(lengths), 0, -1);
            dueReading("one code, one instance", x, ONE + told(lengths) + "000010001 1 0 0 0", 1, -1);
            due("its symbol", s, () -> x.place(0, 0));
            for (int length = 2; length <= 15; length++) {
                lengths[symbol] = length;
                dueReading("one of " + length + " bits", x, ONE + told(lengths), -5, 23);
            }
        }
    }

    private static void noCodesAtAll() {
        by("and none at all if there are no instances");
        TextRegions x = with(0, 1, 1, 1, 1);
        dueReading("none, no instances", x, head(0, 0, 0, 0, 0) + told(0, 0), 0, -1);
        dueReading("none, one instance", x, ONE + told(0, 0) + "000010001 1 0 0 0", -5, 19);
        dueReading("none, 40 instances", x, head(40, 0, 0, 0, 0) + told(0, 0), -5, 27);
        TextRegions empty = with(0);
        dueReading("no symbols, no instances", empty, head(0, 0, 0, 0, 0), 0, -1);
        dueReading("no symbols, one instance", empty, ONE + "000010001 1 0 0 0", -5, 11);
    }

    private static void lengthsOfSixteen() {
        by("4 lengths whose CODES are not full (full: all powers 1 / 2^length come to 1)");
        TextRegions x = with(0);
        int[] lengths = new int[16];
        for (int i = 0; i < 16; i++) {
            x.symbol(1, 1);
            lengths[i] = 4;
        }
        dueReading("sixteen of four bits", x, ONE + told(lengths) + "000010001 1 1111 0 0", 1, -1);
        due("the last one", 15, () -> x.place(0, 0));
        dueReading("sixteen of four bits", x, ONE + told(lengths) + "000010001 1 0000 0 0", 1, -1);
        due("the first one", 0, () -> x.place(0, 0));
        lengths[7] = 3;
        dueReading("one of three", x, ONE + told(lengths), -5, 75);
        lengths[7] = 5;
        dueReading("one of five", x, ONE + told(lengths), -5, 75);
        for (int i = 0; i < 16; i++) {
            lengths[i] = Math.min(15, i + 1);
        }
        dueReading("1, 2, .., 15, 15", x, ONE + told(lengths) + "000010001 1 111111111111111 0 0", 1, -1);
        due("the last one", 15, () -> x.place(0, 0));
        dueReading("1, 2, .., 15, 15", x, ONE + told(lengths) + "000010001 1 111111111111110 0 0", 1, -1);
        due("the one before", 14, () -> x.place(0, 0));
        lengths[15] = 14;
        dueReading("1, 2, .., 15, 14", x, ONE + told(lengths), -5, 75);
        lengths[15] = 0;
        dueReading("1, 2, .., 15", x, ONE + told(lengths), -5, 75);
    }

    // 5

    private static void noSuchSymbol() {
        by("5 a symbol that there is not, or no CODE");
        TextRegions x = with(1, 1, 1, 1, 1);
        dueReading("the last symbol", x, NAMED + "010 0 0", 1, -1);
        dueReading("one behind it", x, NAMED + "011 0 0", -6, 24);
        dueReading("far behind it", x, NAMED + "0000000000001111111111111 0 0", -6, 46);
        dueReading("no symbols", with(1), NAMED + "1 0 0", -6, 22);
        TextRegions sixteen = with(1);
        for (int i = 0; i < 16; i++) {
            sixteen.symbol(1, 1);
        }
        dueReading("symbol 15", sixteen, NAMED + "000010000 0 0", 1, -1);
        due("it is", 15, () -> sixteen.place(0, 0));
        dueReading("symbol 16", sixteen, NAMED + "000010001 0 0", -6, 30);
        dueReading("of the second instance", x, head(2, 0, 0, 0, 0) + "000010001 1 010 0 1 1 011", -6, 30);
    }

    private static void noCode() {
        by("5 a symbol that there is not, or no CODE");
        TextRegions x = with(0, 1, 1, 1, 1);
        dueReading("one code: 0", x, ONE + told(1, 0) + "000010001 1 0 0 0", 1, -1);
        dueReading("one code: 1", x, ONE + told(1, 0) + "000010001 1 1 0 0", -6, 30);
        dueReading("two codes: 1", x, ONE + told(1, 1) + "000010001 1 1 0 0", 1, -1);
        due("the second symbol", 1, () -> x.place(0, 0));
        // the last bit of a byte is that of the name: it is not to be read farther
        dueReading("one code: 1 ends the bytes", x, ONE + told(0, 1) + "000010001 011 1", -6, 32);
    }

    // 6

    private static void columnsOutside() {
        by("6 an x or y that is not -8 .. 31 (looked at behind the NAME)");
        TextRegions x = with(1, 1, 1);
        for (int v : new int[] {-8, 31, -9, 32, -4095, 4095}) {
            boolean isOne = v >= -8 && v <= 31;
            String bits = ONE + "000010001" + signed(v) + "1";
            dueReading("x " + v, x, bits + "0 0", isOne ? 1 : -7, isOne ? -1 : bits.replace(" ", "").length());
        }
        String two = head(2, 0, 0, 0, 0) + "000010001" + signed(31) + "1 0 1";
        dueReading("31 again", x, two + signed(-1) + "1 0 0", 2, -1);
        dueReading("32 behind 31", x, two + signed(0) + "1 0 0", -7, 36);
        String strips = head(2, 0, 0, 0, 0) + "000010001" + signed(-8) + "1 0 0 1";
        dueReading("-8 below -8", x, strips + signed(0) + "1 0 0", 2, -1);
        dueReading("-9 below -8", x, strips + signed(-1) + "1 0 0", -7, 37);
    }

    private static void rowsOutside() {
        by("6 an x or y that is not -8 .. 31 (looked at behind the NAME)");
        TextRegions x = with(1, 1, 1);
        for (int strip : new int[] {0, 7, 8, 47, 48, 8190}) {
            boolean isOne = strip >= 8 && strip <= 47;
            String bits = ONE + number(strip) + "1 1";
            dueReading("strip " + strip, x, bits + "0 0", isOne ? 1 : -7, isOne ? -1 : bits.replace(" ", "").length());
        }
        due("the last good one", 31, () -> x.place(0, 2));
        String far = head(1, 0, 0, 3, 0);
        dueReading("-8", x, far + number(15) + "1 000 1 0 0", 1, -1);
        due("it is", -8, () -> x.place(0, 2));
        dueReading("-9", x, far + number(14) + "1 111 1 0 0", -7, 11 + 7 + 1 + 3 + 1);
        dueReading("31", x, far + number(19) + "1 111 1 0 0", 1, -1);
        due("it is 31", 31, () -> x.place(0, 2));
        dueReading("32", x, far + number(20) + "1 000 1 0 0", -7, 11 + 9 + 1 + 3 + 1);
        String two = head(2, 0, 0, 0, 0) + number(46) + "1 1 0 0";
        dueReading("31 below 30", x, two + number(0) + "1 1 0 0", 2, -1);
        dueReading("32 below 30", x, two + number(1) + "1 1 0 0", -7, 31);
    }

    private static void outsideByCorners() {
        by("6 an x or y that is not -8 .. 31 (looked at behind the NAME)");
        // a symbol of three columns and five rows: its place is the corner's less 2, less 4
        for (int corner = 0; corner < 4; corner++) {
            for (int turned = 0; turned < 2; turned++) {
                int right = corner >= 2 ? 2 : 0;
                int down = corner % 2 == 1 ? 4 : 0;
                for (int edge = 0; edge < 8; edge++) {
                    int column = edge % 4 == 0 ? -8 : edge % 4 == 1 ? 31 : edge % 4 == 2 ? -9 : 32;
                    int at = edge < 4 ? column : 7;
                    int below = edge < 4 ? 7 : column;
                    TextRegions x = with(1, 3, 5);
                    int s = turned == 1 ? below + down : at + right;
                    int t = turned == 1 ? at + right : below + down;
                    String bits = head(1, corner, turned, 0, 0) + number(t + 16) + signed(s) + "1";
                    boolean isOne = edge % 4 < 2;
                    dueReading("corner " + corner + ", turned " + turned + ", " + at + ", " + below, x, bits + "0 0",
                            isOne ? 1 : -7, isOne ? -1 : bits.length());
                    if (isOne) {
                        due("its x", at, () -> x.place(0, 1));
                        due("its y", below, () -> x.place(0, 2));
                    }
                }
            }
        }
    }

    private static void lookedAtBehindTheName() {
        by("(looked at behind the NAME)");
        TextRegions x = with(1, 1, 1);
        String far = ONE + "1" + signed(2000);
        dueReading("a name that is: 6", x, far + "1 1", -7, 11 + 1 + 23 + 1);
        dueReading("a name that is not: 5", x, far + "010 1", -6, 11 + 1 + 23 + 3);
        dueReading("a name that is too long: 8", x, far + "0000000000000", -9, 11 + 1 + 23 + 13);
        dueReading("a name that ends: 1", x, ONE + "1 00001000", -2, 24);
        TextRegions codes = with(0, 1, 1, 1, 1);
        dueReading("kind 0: 5 before 6", codes, ONE + told(0, 1) + "1 1 1", -6, 22);
        dueReading("kind 0: 6", codes, ONE + told(0, 1) + "1 1 0", -7, 22);
        dueReading("before whether it differs: 6, not 7", x, far + "1 1 00100", -7, 36);
    }

    // 7

    private static void runsBeyond() {
        by("7 a run that goes beyond the samples, or of 0 but for the first one");
        TextRegions x = with(1, 3, 2);
        String runs = NAMED + "1 1";
        dueReading("alike are six, as there are", x, runs + number(6) + "0", 1, -1);
        due("it differs nowhere", 0, () -> x.place(0, 6));
        dueReading("alike are seven", x, runs + number(7) + "0", -8, 23 + 7);
        dueReading("six differ, as there are", x, runs + number(0) + number(6) + "0", 1, -1);
        due("it differs everywhere", 6, () -> x.place(0, 6));
        dueReading("seven differ", x, runs + number(0) + number(7) + "0", -8, 23 + 1 + 7);
        dueReading("five, then one", x, runs + number(5) + number(1) + "0", 1, -1);
        due("one differs", 1, () -> x.place(0, 6));
        dueReading("five, then two", x, runs + number(5) + number(2) + "0", -8, 23 + 5 + 3);
        dueReading("one, two, three", x, runs + number(1) + number(2) + number(3) + "0", 1, -1);
        due("two differ", 2, () -> x.place(0, 6));
        dueReading("one, two, four", x, runs + number(1) + number(2) + number(4) + "0", -8, 23 + 3 + 3 + 5);
        dueReading("far beyond", x, runs + number(8190) + "0", -8, 23 + 25);
        TextRegions all = with(1, 8, 8);
        dueReading("64", all, runs + number(0) + number(64) + "0", 1, -1);
        due("64 differ", 64, () -> all.place(0, 6));
        dueReading("65", all, runs + number(0) + number(65) + "0", -8, 23 + 1 + 13);
        dueReading("63 and one", all, runs + number(63) + number(1) + "0", 1, -1);
        due("one differs", 1, () -> all.place(0, 6));
        due("the last one", true, () -> all.refine(0, 7, 7, false));
    }

    private static void runsOfNone() {
        by("7 a run that goes beyond the samples, or of 0 but for the first one");
        TextRegions x = with(1, 3, 1);
        String runs = NAMED + "1 1";
        dueReading("the first one of 0", x, runs + "1 010 011 0", 1, -1);
        dueReading("the second one of 0", x, runs + "1 1", -8, 25);
        dueReading("the second one of 0 behind some", x, runs + "010 1", -8, 27);
        dueReading("the third one of 0", x, runs + "1 010 1", -8, 28);
        dueReading("no run behind the last sample", x, runs + "010 010 010 0", 1, -1);
        dueReading("a bit 1 behind the last sample", x, runs + "010 010 010 1", -3, 33);
    }

    // 8

    private static void longNumbers() {
        by("8 a NUMBER whose k is above 12 (when the 13th 0 comes)");
        TextRegions x = with(1, 3, 1);
        String thirteen = "0000000000000";
        dueReading("how many", x, thirteen + "111", -9, 13);
        dueReading("how many, twelve 0", x, "000000000000 1 000000000000", -3, 25);
        dueReading("the strip", x, ONE + thirteen, -9, 24);
        dueReading("the strip, with bits behind", x, ONE + thirteen + "11111111", -9, 24);
        dueReading("S", x, ONE + "000010001" + thirteen, -9, 33);
        dueReading("the name", x, NAMED + thirteen, -9, 34);
        dueReading("the name, twelve 0", x, NAMED + "0000000000001000000000000", -6, 46);
        dueReading("the first run", x, NAMED + "1 1" + thirteen, -9, 36);
        dueReading("the second run", x, NAMED + "1 1 010" + thirteen, -9, 39);
        dueReading("S of the second instance", x, head(2, 0, 0, 0, 0) + "000010001 1 1 0 1" + thirteen, -9, 37);
        dueReading("the second strip", x, head(2, 0, 0, 0, 0) + "000010001 1 1 0 0" + thirteen, -9, 37);
        // the twelfth 0 is the last bit: 1, for the thirteenth does not come
        dueReading("S: twelve 0, then the bits end", x, ONE + "000010001 000000000000", -2, 32);
        dueReading("the name: twelve 0, then the bits end", x,
                head(1, 0, 0, 1, 0) + "0001111 000010000 1 000000000000", -2, 40);
        dueReading("the name: thirteen 0, then the bits end", x, ONE + "0001001 1" + thirteen, -9, 32);
    }

    // 9

    private static void bitsThatFill() {
        by("9 behind the end a bit 1 that fills, or a byte (bits that fill are read one by one, too)");
        TextRegions x = with(1, 1, 1);
        String none = head(0, 0, 0, 0, 0);
        dueReading("all 0", x, none + "0000000", 0, -1);
        for (int i = 0; i < 7; i++) {
            dueReading("fill bit " + i, x, none + "0".repeat(i) + "1", -10, 10 + i);
            dueReading("fill bit " + i + " and all behind it", x, none + "0".repeat(i) + "1".repeat(7 - i), -10, 10 + i);
        }
        dueReading("a fill bit, and a byte behind", x, none + "0001000 11111111", -10, 13);
        due("the reading before it stays", 0, () -> x.told(4));
        TextRegions codes = with(0, 1, 1);
        dueReading("kind 0", codes, none + "0000 001", -10, 16);
    }

    private static void bytesBehind() {
        by("9 behind the end a bit 1 that fills, or a byte (bits that fill are read one by one, too)");
        TextRegions x = with(1, 1, 1);
        String none = head(0, 0, 0, 0, 0);
        dueReading("a byte of 0", x, none + "0000000 00000000", -10, 16);
        dueReading("a byte of 1", x, none + "0000000 11111111", -10, 16);
        dueReading("two bytes", x, none + "0000000 00000000 00000000", -10, 16);
        dueReading("nothing to fill", x, NAMED + "1 0 0", 1, -1);
        dueReading("nothing to fill, a byte of 0", x, NAMED + "1 0 0 00000000", -10, 24);
        dueReading("nothing to fill, a byte of 1", x, NAMED + "1 0 0 11111111", -10, 24);
        for (int count = 2; count <= 40; count++) {
            // all in one column: S is one less than what would stand next
            String told = filled(head(count, 0, 0, 0, 0) + "000010001 1 1 0" + "1 010 1 0".repeat(count - 1) + "0");
            int bytes = told.length() / 8;
            TextRegions y = with(1, 1, 1);
            dueReading(bytes + " bytes", y, told, count, -1);
            dueReading(bytes + " bytes and one behind", y, told + "00000000", -10, 8 * bytes);
        }
        x.write();
        x.pass();
        x.pass();
        due("what was told, twice", -10, () -> x.read());
        due("at its end", 24, () -> x.told(7));
    }

    private static void theFirstThatItMeets() {
        by("It is REFUSED by the first that it meets");
        TextRegions x = with(1, 1, 1);
        TextRegions codes = with(0, 1, 1, 1, 1);
        dueReading("2 before 3", x, head(41, 0, 0, 0, 7), -3, 11);
        dueReading("3 before 4", codes, head(1, 0, 0, 0, 7) + told(3, 3), -4, 11);
        dueReading("4 before 8", codes, ONE + told(3, 3) + "0000000000000", -5, 19);
        dueReading("8 before 5", x, ONE + "000010001 0000000000000", -9, 33);
        dueReading("5 before 6", x, ONE + "1 1 010", -6, 16);
        dueReading("6 before 7", x, ONE + "1 1 1 1 00100", -7, 14);
        dueReading("7 before 2", x, NAMED + "1 1 011 1", -8, 26);
        dueReading("2 before 9", x, NAMED + "1 0 1 11111111", -3, 24);
        dueReading("1 before 2", x, "00000101", -2, 8);
    }

    // Promise 14

    private static TextRegions some(int kind) {
        TextRegions x = new TextRegions(3, 2, kind);
        x.symbol(2, 1);
        x.symbol(1, 3);
        x.put(0, 1, 0, true);
        x.instance(1, 1, 0);
        x.instance(0, 0, 1);
        x.refine(1, 0, 0, true);
        x.way(0, 1);
        x.way(1, 1);
        x.way(2, 2);
        x.way(3, 2);
        x.compose();
        x.write();
        return x;
    }

    private static void nothingChanges() {
        by("-1 less the number by which it is REFUSED (nothing changes but that)");
        String two = head(2, 3, 0, 1, 3);
        String first = number(16) + "1 0 1 1 1 011 ";
        String[] refused = {two + first + "1 00001", head(41, 0, 0, 0, 0), two + first + "1 1 0 1 0 1",
            head(2, 3, 0, 1, 5), "", two + first + "1 1 0 011", two + first + "1" + signed(40) + "0 1",
            two + first + "1 1 0 1 1 1 00100", two + first + "0000000000000", head(0, 3, 0, 1, 3) + "1"};
        int[] why = {1, 2, 2, 3, 1, 5, 6, 7, 8, 9};
        for (int i = 0; i < why.length; i++) {
            TextRegions x = some(1);
            TextRegions y = some(1);
            int n = i;
            feedBits(x, refused[i]);
            due("refused by " + why[i], -1 - why[n], () -> x.read());
            due("nothing changes by " + why[i], lookOf(y), () -> lookOf(x));
            due("nor what is composed", y.compose(), () -> x.compose());
            due("nor what is told", y.write(), () -> x.write());
            due("nor is it otherwise", lookOf(y), () -> lookOf(x));
        }
        TextRegions x = some(0);
        TextRegions y = some(0);
        dueReading("refused by 4", x, two + told(1, 2), -5, 19);
        due("nothing changes by 4", lookOf(y), () -> lookOf(x));
        dueReading("refused by 5", x, two + told(1, 0) + number(8) + "1 0 1", -6, 11 + 8 + 7 + 3);
        due("nothing changes by 5", lookOf(y), () -> lookOf(x));
        due("codes are made anew", y.write(), () -> x.write());
        due("as they were", lookOf(y), () -> lookOf(x));
    }

    private static void noBytesThen() {
        by("No bytes have come then.");
        TextRegions x = with(1, 1, 1);
        feedBits(x, head(0, 0, 0, 0, 0));
        due("read", 0, () -> x.read());
        due("none", 0, () -> x.told(6));
        due("none to read", -2, () -> x.read());
        due("at once", 0, () -> x.told(7));
        x.feed(0);
        x.feed(0);
        x.feed(255);
        due("refused", -9, () -> x.read());
        due("none", 0, () -> x.told(6));
        feedBits(x, head(0, 0, 0, 0, 0));
        due("from the first bit on", 0, () -> x.read());
        due("not refused", -1, () -> x.told(7));
    }

    private static void symbolsAtHand() {
        by("READING goes through all bytes that came; symbols and KIND are those at hand.");
        // right lower corner at column 7, row 7, one sample differs
        String bits = head(1, 3, 0, 0, 0) + number(23) + signed(7) + "1 1" + number(0) + number(1);
        dueReading("a symbol of one sample", with(1, 1, 1), bits + "0", 1, -1);
        dueReading("a symbol of two: one run more", with(1, 2, 1), bits + "010 0", 1, -1);
        TextRegions x = with(1, 8, 8);
        dueReading("a symbol of 64", x, bits + number(63) + "0", 1, -1);
        due("its x", 0, () -> x.place(0, 1));
        due("its y", 0, () -> x.place(0, 2));
        x.symbol(1, 1);
        dueReading("a symbol more: kind 1 names it", x, NAMED + "010 0 0", 1, -1);
        dueReading("kind 0 has lengths for it", with(0, 1, 1, 1, 1), ONE + told(1, 1) + "000010001 1 1 0 0", 1, -1);
        TextRegions y = with(0, 1, 1);
        dueReading("lengths of all at hand", y, head(0, 0, 0, 0, 0) + told(1) + "000", 0, -1);
        y.symbol(1, 1);
        dueReading("the second one's length is missing", y, head(0, 0, 0, 0, 0) + told(1) + "000", -2, 16);
    }

    private static void thoseThatWereTold() {
        by("Else INSTANCES and WAYS are those that were told, INSTANCES in the order in which they came.");
        TextRegions x = some(1);
        dueReading("none", x, head(0, 0, 0, 0, 0), 0, -1);
        due("no instances", INDEX, () -> x.place(0, 0));
        for (int i = 0; i < 4; i++) {
            int w = i;
            due("way " + i, 0, () -> x.way(w, 0));
        }
        dueReading("all ways at their most", x, head(0, 3, 1, 3, 4), 0, -1);
        int[] most = {3, 1, 3, 4};
        for (int i = 0; i < 4; i++) {
            int w = i;
            due("way " + i, most[i], () -> x.way(w, 0));
        }
        dueReading("one", x, NAMED + "1 1 1 011 0", 1, -1);
        due("one instance", 1, () -> x.told(4));
        due("both samples differ", 2, () -> x.place(0, 6));
        due("symbols are as they were", 2, () -> x.told(3));
        due("a new one stands behind it", 1, () -> x.instance(1, 0, 0));
        due("it differs nowhere", 0, () -> x.place(1, 6));
    }

    private static void inTheOrderInWhichTheyCame() {
        by("INSTANCES in the order in which they came");
        for (int kind = 0; kind < 2; kind++) {
            TextRegions x = with(kind, 1, 1, 2, 2);
            int[][] places = {{0, 5, 9}, {1, 3, -8}, {0, 2, 9}, {1, 9, 0}, {0, 8, -8}};
            int[] inOrder = {1, 4, 3, 0, 2};
            for (int[] place : places) {
                x.instance(place[0], place[1], place[2]);
            }
            x.refine(3, 1, 1, true);
            x.write();
            x.pass();
            due("five", 5, () -> x.read());
            for (int i = 0; i < 5; i++) {
                for (int what = 0; what < 3; what++) {
                    int n = i;
                    int w = what;
                    due("instance " + i, places[inOrder[i]][what], () -> x.place(n, w));
                }
                int n = i;
                due("instance " + i + " differs", inOrder[i] == 3 ? 1 : 0, () -> x.place(n, 6));
            }
        }
    }

    private static void fortyAreRead() {
        by("READING: how many instances");
        for (int kind = 0; kind < 2; kind++) {
            TextRegions x = with(kind, 1, 1);
            for (int i = 0; i < 40; i++) {
                x.instance(0, i - 8, 31 - i);
            }
            x.write();
            x.pass();
            due("forty strips", 40, () -> x.read());
            due("the first one's row", -8, () -> x.place(0, 2));
            due("the last one's row", 31, () -> x.place(39, 2));
            x.way(1, 1);
            x.way(2, 3);
            x.write();
            x.pass();
            due("five strips", 40, () -> x.read());
            due("full", UNSUPPORTED, () -> x.instance(0, 0, 0));
            String start = head(40, 0, 0, 0, 0) + (kind == 0 ? "0001" : "") + "0001001" + signed(-8);
            String name = (kind == 0 ? "0" : "1") + "0";
            String all = start + name + ("1 1" + name).repeat(39);
            dueReading("forty in one strip", x, all + "0", 40, -1);
            due("the last one's column", 31, () -> x.place(39, 1));
            int bits = all.replace(" ", "").length() + 1;
            dueReading("a 41st comes", x, all + "1 1" + name + "0", -3, bits);
        }
    }
}
