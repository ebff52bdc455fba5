import java.io.IOException;
import java.nio.file.Files;
import java.nio.file.Path;

/** What tests have in common: answers that are due, bits, and the sentence that a test is for. */
abstract class Checks {
    static final String INDEX = "IndexOutOfBoundsException";
    static final String ARGUMENT = "IllegalArgumentException";
    static final String UNSUPPORTED = "UnsupportedOperationException";
    static final int LEAST = Integer.MIN_VALUE;
    static final int MOST = Integer.MAX_VALUE;

    private static final int MOST_LINES = 60;
    private static final Path DOCUMENT = Path.of("../shared/DOC.md");

    private static int wrong = 0;
    private static String sentence = "";
    private static String document = null;

    interface Call {
        Object make();
    }

    /** From here on the tests are for these words, which have to stand in the document. */
    static void by(String words) {
        sentence = words;
        try {
            if (document == null) {
                document = Files.exists(DOCUMENT) ? Files.readString(DOCUMENT).replaceAll("\\s+", " ") : "";
            }
        } catch (IOException e) {
            fail("the document can't be read: " + e);
        }
        if (document != null && !document.isEmpty() && !document.contains(words)) {
            fail("the document has no such words");
        }
    }

    static void fail(String what) {
        wrong++;
        if (wrong > MOST_LINES) {
            return;
        }
        System.out.println(what + (sentence.isEmpty() ? "" : " [" + sentence + "]"));
    }

    static Object answer(Call call) {
        try {
            return call.make();
        } catch (RuntimeException e) {
            return e.getClass().getSimpleName();
        }
    }

    static void due(String what, Object want, Call call) {
        Object got = answer(call);
        if (!want.equals(got)) {
            fail(what + " answered " + got + ", due is " + want);
        }
    }

    static void end() {
        if (wrong != 0) {
            System.exit(1);
        }
    }

    /** A NUMBER, written otherwise than the program writes it. */
    static String number(int n) {
        String digits = Integer.toBinaryString(n + 1);
        return "0".repeat(digits.length() - 1) + digits;
    }

    static String signed(int v) {
        return number(v >= 0 ? 2 * v : -2 * v - 1);
    }

    static String fixed(int v, int bits) {
        return Integer.toBinaryString((1 << bits) + v).substring(1);
    }

    /** What is told first: how many instances, then the ways. */
    static String head(int count, int corner, int turned, int log, int operator) {
        return number(count) + fixed(log, 2) + turned + fixed(corner, 2) + fixed(operator, 3);
    }

    static String filled(String bits) {
        StringBuilder all = new StringBuilder(bits.replace(" ", ""));
        while (all.length() % 8 != 0) {
            all.append('0');
        }
        return all.toString();
    }

    /** The bytes that are told are these bits, filled with 0. */
    static void dueBytes(String what, TextRegions x, String bits) {
        String all = filled(bits);
        due(what + ": bytes", all.length() / 8, () -> x.write());
        StringBuilder got = new StringBuilder();
        for (int i = 0; i < all.length() / 8; i++) {
            int n = i;
            Object b = answer(() -> x.byteAt(n));
            got.append(b instanceof Integer ? fixed((Integer) b & 255, 8) : b);
        }
        due(what + ": bits", all, () -> got.toString());
        due(what + ": no more bytes", INDEX, () -> x.byteAt(all.length() / 8));
        due(what + ": how many bits", bits.replace(" ", "").length(), () -> x.order(0));
    }

    static int feedBits(TextRegions x, String bits) {
        String all = filled(bits);
        for (int i = 0; i < all.length(); i += 8) {
            x.feed(Integer.parseInt(all.substring(i, i + 8), 2));
        }
        return all.length() / 8;
    }

    /** Reading these bits, filled with 0, has this answer, and is refused at this place (-1: is not). */
    static void dueReading(String what, TextRegions x, String bits, int answer, int place) {
        int came = feedBits(x, bits);
        due(what + ": came", came, () -> x.told(6));
        due(what, answer, () -> x.read());
        due(what + ": place", place, () -> x.told(7));
        due(what + ": none came then", 0, () -> x.told(6));
    }

    /** What can be seen of an object but for the bytes that came; it is afterwards as it was. */
    static String lookOf(TextRegions x) {
        StringBuilder all = new StringBuilder();
        for (int what = 0; what < 6; what++) {
            all.append(x.told(what)).append(' ');
        }
        for (int way = 0; way < 4; way++) {
            int v = x.way(way, 0);
            x.way(way, v);
            all.append(v).append(' ');
        }
        for (int i = 0; i < x.told(4); i++) {
            all.append('i').append(x.place(i, 0)).append(' ').append(x.place(i, 1)).append(' ');
            all.append(x.place(i, 2)).append(' ').append(x.place(i, 6)).append(' ');
        }
        for (int i = 0; i < x.told(5); i++) {
            all.append('b').append(x.byteAt(i)).append(' ');
        }
        for (int i = 0; i < x.told(0) * x.told(1); i++) {
            all.append(x.at(i % x.told(0), i / x.told(0)) ? '#' : '.');
        }
        for (int i = 0; i < x.told(3); i++) {
            all.append(" s").append(symbolLook(x, i));
        }
        return all.toString();
    }

    /** The samples of a symbol, up to where it has none. */
    private static String symbolLook(TextRegions x, int symbol) {
        StringBuilder all = new StringBuilder();
        for (int y = 0; y < 8; y++) {
            for (int column = 0; column < 8; column++) {
                int c = column;
                int r = y;
                Object wasDark = answer(() -> x.put(symbol, c, r, false));
                if (wasDark.equals(INDEX)) {
                    if (column == 0) {
                        return all.toString();
                    }
                    break;
                }
                if (wasDark.equals(true)) {
                    x.put(symbol, c, r, true);
                }
                all.append(wasDark.equals(true) ? '#' : '.');
            }
            all.append('/');
        }
        return all.toString();
    }
}
