/** The last paragraph of the document's terms: what is thrown, which of several, and that nothing changes. */
public final class ThrowingTest extends Checks {
    private interface On {
        Object make(TextRegions x);
    }

    private interface State {
        TextRegions make();
    }

    public static void main(String[] args) {
        noSuchOne();
        noNumberThatIsTold();
        moreThanThereMayBe();
        theFirstOfSeveral();
        nothingElseIsEverThrown();
        end();
    }

    /** Something of all that an object has. */
    private static TextRegions some() {
        TextRegions x = new TextRegions(3, 2, 0);
        x.symbol(2, 1);
        x.symbol(1, 3);
        x.put(0, 1, 0, true);
        x.put(1, 0, 2, true);
        x.instance(1, 1, 0);
        x.instance(0, 0, 1);
        x.instance(0, -1, 0);
        x.refine(1, 0, 0, true);
        x.way(0, 1);
        x.way(1, 1);
        x.way(2, 2);
        x.way(3, 2);
        x.compose();
        x.feed(1);
        x.read();
        x.write();
        x.instance(0, 2, 1);
        x.pass();
        x.way(1, 0);
        return x;
    }

    /** As much of all as there may be. */
    private static TextRegions full() {
        TextRegions x = new TextRegions(2, 1, 1);
        x.symbol(1, 1);
        for (int i = 0; i < 40; i++) {
            x.instance(0, i % 2 == 0 ? 31 : -8, 0);
            if (x.told(5) < 80) {
                x.write();
            }
        }
        for (int i = 0; i < 25; i++) {
            x.pass();
        }
        for (int i = 0; i < 15; i++) {
            x.symbol(1, 1);
        }
        return x;
    }

    /** It throws, and then all answers are those of an object that was not called so. */
    private static void thrown(String what, String exception, State state, On call) {
        TextRegions x = state.make();
        TextRegions y = state.make();
        due(what, exception, () -> call.make(x));
        due(what + ": and again", exception, () -> call.make(x));
        due(what + ": nothing changes", lookOf(y), () -> lookOf(x));
        due(what + ": what came", comeOf(y), () -> comeOf(x));
    }

    private static String comeOf(TextRegions x) {
        int refusedAt = x.told(7);
        int came = x.told(6);
        int read = x.read();
        return refusedAt + " " + came + " " + read + " " + x.told(7) + " " + x.told(4) + " " + x.compose();
    }

    private static void noSuchOne() {
        by("IndexOutOfBounds: there is no such symbol, sample, instance or byte.");
        for (int i : new int[] {-1, 2, LEAST, MOST}) {
            thrown("a sample of symbol " + i, INDEX, () -> some(), x -> x.put(i, 0, 0, true));
            thrown("an instance of symbol " + i, INDEX, () -> some(), x -> x.instance(i, 0, 0));
        }
        int[][] samples = {{-1, 0}, {2, 0}, {0, -1}, {0, 1}, {LEAST, 0}, {0, LEAST}, {MOST, 0}, {0, MOST}, {2, -1}};
        for (int[] at : samples) {
            thrown("no sample of a symbol", INDEX, () -> some(), x -> x.put(0, at[0], at[1], true));
            thrown("nor to make it light", INDEX, () -> some(), x -> x.put(0, at[0], at[1], false));
            thrown("no sample of an instance", INDEX, () -> some(), x -> x.refine(1, at[0], at[1], true));
            thrown("nor to make it alike", INDEX, () -> some(), x -> x.refine(1, at[0], at[1], false));
        }
        for (int i : new int[] {-1, 4, LEAST, MOST}) {
            thrown("a sample of instance " + i, INDEX, () -> some(), x -> x.refine(i, 0, 0, true));
            thrown("the place of instance " + i, INDEX, () -> some(), x -> x.place(i, 0));
        }
        int[][] region = {{-1, 0}, {3, 0}, {0, -1}, {0, 2}, {LEAST, 0}, {0, LEAST}, {MOST, 0}, {0, MOST}, {3, -1}};
        for (int[] at : region) {
            thrown("no sample of the region", INDEX, () -> some(), x -> x.at(at[0], at[1]));
        }
        int told = some().told(5);
        for (int i : new int[] {-1, told, told + 1, LEAST, MOST}) {
            thrown("byte " + i, INDEX, () -> some(), x -> x.byteAt(i));
        }
    }

    private static void noNumberThatIsTold() {
        by("IllegalArgument: another number is none that is told.");
        for (int side : new int[] {0, 9, -1, LEAST, MOST}) {
            thrown("width " + side, ARGUMENT, () -> some(), x -> x.symbol(side, 1));
            thrown("height " + side, ARGUMENT, () -> some(), x -> x.symbol(1, side));
        }
        for (int v : new int[] {-9, 32, LEAST, MOST}) {
            thrown("x " + v, ARGUMENT, () -> some(), x -> x.instance(0, v, 0));
            thrown("y " + v, ARGUMENT, () -> some(), x -> x.instance(0, 0, v));
        }
        int[][] ways = {{-1, 0}, {4, 0}, {LEAST, 0}, {MOST, 0}, {0, 4}, {0, -1}, {1, 2}, {1, -1}, {2, 4}, {2, -1},
            {3, 5}, {3, -1}, {0, MOST}, {3, LEAST}};
        for (int[] way : ways) {
            thrown("way " + way[0] + " of " + way[1], ARGUMENT, () -> some(), x -> x.way(way[0], way[1]));
        }
        for (int tries : new int[] {-1, 9, LEAST, MOST}) {
            thrown(tries + " tries", ARGUMENT, () -> some(), x -> x.order(tries));
        }
        for (int b : new int[] {-1, 256, LEAST, MOST}) {
            thrown("byte " + b + " comes", ARGUMENT, () -> some(), x -> x.feed(b));
        }
    }

    private static void moreThanThereMayBe() {
        by("UnsupportedOperation: there would be more than there may be.");
        TextRegions all = full();
        due("all is full", "16 40 80 2000",
                () -> all.told(3) + " " + all.told(4) + " " + all.told(5) + " " + all.told(6));
        thrown("the 17th symbol", UNSUPPORTED, () -> full(), x -> x.symbol(1, 1));
        thrown("the 41st instance", UNSUPPORTED, () -> full(), x -> x.instance(15, 31, -8));
        thrown("the 2001st byte", UNSUPPORTED, () -> full(), x -> x.feed(0));
        thrown("80 bytes more than 2000", UNSUPPORTED, () -> full(), x -> x.pass());
    }

    private static void theFirstOfSeveral() {
        by("Of several that a call names, the first one.");
        thrown("the 17th symbol, its width", ARGUMENT, () -> full(), x -> x.symbol(0, 1));
        thrown("the 17th symbol, its height", ARGUMENT, () -> full(), x -> x.symbol(1, 9));
        thrown("the 41st instance, no symbol", INDEX, () -> full(), x -> x.instance(16, 0, 0));
        thrown("the 41st instance, no symbol, x", INDEX, () -> full(), x -> x.instance(-1, 32, 0));
        thrown("the 41st instance, no symbol, y", INDEX, () -> full(), x -> x.instance(16, 0, -9));
        thrown("no symbol, x and y", INDEX, () -> some(), x -> x.instance(2, 32, -9));
        thrown("the 41st instance, x", ARGUMENT, () -> full(), x -> x.instance(0, -9, 0));
        thrown("the 41st instance, y", ARGUMENT, () -> full(), x -> x.instance(0, 0, 32));
        thrown("the 2001st byte, and none", ARGUMENT, () -> full(), x -> x.feed(256));
        thrown("the 2001st byte, and none", ARGUMENT, () -> full(), x -> x.feed(-1));
    }

    private static void nothingElseIsEverThrown() {
        by("A call that throws changes nothing.");
        int[] far = {LEAST, -1, 0, 1, 65536, MOST};
        for (int a : far) {
            for (int b : far) {
                for (int c : far) {
                    TextRegions x = some();
                    due("put", true, () -> isDue(answer(() -> x.put(a, b, c, true))));
                    due("instance", true, () -> isDue(answer(() -> x.instance(a, b, c))));
                    due("refine", true, () -> isDue(answer(() -> x.refine(a, b, c, true))));
                }
                TextRegions x = some();
                due("symbol", true, () -> isDue(answer(() -> x.symbol(a, b))));
                due("way", true, () -> isDue(answer(() -> x.way(a, b))));
                due("at", true, () -> isDue(answer(() -> x.at(a, b))));
                due("place", true, () -> isDue(answer(() -> x.place(a, b))));
                due("new", true, () -> new TextRegions(a, b, a).told(0) >= 1);
            }
        }
    }

    private static boolean isDue(Object answer) {
        return !(answer instanceof String) || answer.equals(INDEX) || answer.equals(ARGUMENT);
    }
}
