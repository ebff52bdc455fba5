import java.util.ArrayList;
import java.util.Collections;
import java.util.List;

/**
 * Long runs of calls, drawn by a fixed rule, on a TextRegions and on a plain model of the document
 * that works by texts of bits and lists; every answer has to be the same.
 */
public final class ModelTest {
    private static int wrong = 0;

    public static void main(String[] args) {
        for (int run = 0; run < 1500; run++) {
            new Run(run).go();
        }
        for (int why = 1; why <= 9; why++) {
            for (int kind = 0; kind <= 1; kind++) {
                boolean canBe = !(why == 4 && kind == 1);
                if (canBe && Run.refusals[kind][why] < 5) {
                    wrong++;
                    System.out.println("kind " + kind + " was refused by " + why + " only "
                            + Run.refusals[kind][why] + " times");
                }
            }
        }
        if (Run.readings < 300 || Run.changes < 300) {
            wrong++;
            System.out.println("too few readings or changes: " + Run.readings + ", " + Run.changes);
        }
        if (wrong != 0) {
            System.exit(1);
        }
    }

    /** One run of at most 512 calls. */
    private static final class Run {
        static final int MOST_CALLS = 512;
        static final int[][] refusals = new int[2][10];
        static int readings = 0;
        static int changes = 0;

        final int number;
        long seed;
        final TextRegions real;
        final Model model;
        final int spread;
        /** How many the real object has had, or a few more. */
        int calls = 0;

        Run(int number) {
            this.number = number;
            seed = 77L * number + 5;
            int width = draw(28) - 2;
            int height = draw(28) - 2;
            int kind = draw(4) - 1;
            spread = draw(3);
            real = new TextRegions(width, height, kind);
            model = new Model(width, height, kind);
        }

        int draw(int below) {
            seed = seed * 6364136223846793005L + 1442695040888963407L;
            return (int) ((seed >>> 33) % below);
        }

        void go() {
            int symbols = draw(19);
            for (int i = 0; i < symbols; i++) {
                call(0);
                call(1);
                call(1);
            }
            int instances = draw(45);
            for (int i = 0; i < instances; i++) {
                call(2);
            }
            while (calls < MOST_CALLS) {
                call(draw(20));
            }
        }

        void call(int what) {
            calls++;
            String called = "";
            Object got;
            Object due;
            int a = near(16);
            int b = near(8);
            int c = near(8);
            boolean flag = draw(3) > 0;
            switch (what) {
                case 0:
                    got = answer(() -> real.symbol(b + 1, c + 1));
                    due = answer(() -> model.symbol(b + 1, c + 1));
                    called = "symbol(" + (b + 1) + ", " + (c + 1) + ")";
                    break;
                case 1: {
                    int s = near(model.symbols.size());
                    got = answer(() -> real.put(s, b, c, flag));
                    due = answer(() -> model.put(s, b, c, flag));
                    called = "put(" + s + ", " + b + ", " + c + ", " + flag + ")";
                    break;
                }
                case 2: {
                    int s = near(model.symbols.size());
                    int x = -8 + near(40);
                    int y = spread == 0 ? -8 + near(40) : near(4);
                    got = answer(() -> real.instance(s, x, y));
                    due = answer(() -> model.instance(s, x, y));
                    called = "instance(" + s + ", " + x + ", " + y + ")";
                    break;
                }
                case 3:
                case 4: {
                    int i = near(model.instances.size());
                    got = answer(() -> real.refine(i, b, c, flag));
                    due = answer(() -> model.refine(i, b, c, flag));
                    called = "refine(" + i + ", " + b + ", " + c + ", " + flag + ")";
                    break;
                }
                case 5: {
                    int w = near(4);
                    int v = near(5);
                    got = answer(() -> real.way(w, v));
                    due = answer(() -> model.way(w, v));
                    called = "way(" + w + ", " + v + ")";
                    break;
                }
                case 6: {
                    int tries = near(9);
                    List<Placed> before = new ArrayList<>(model.instances);
                    got = answer(() -> real.order(tries));
                    due = answer(() -> model.order(tries));
                    changes += before.equals(model.instances) ? 0 : 1;
                    called = "order(" + tries + ")";
                    break;
                }
                case 7:
                    got = answer(() -> real.compose());
                    due = answer(() -> model.compose());
                    called = "compose()";
                    break;
                case 8: {
                    int x = near(24);
                    int y = near(24);
                    got = answer(() -> real.at(x, y));
                    due = answer(() -> model.at(x, y));
                    called = "at(" + x + ", " + y + ")";
                    break;
                }
                case 9:
                    got = answer(() -> real.write());
                    due = answer(() -> model.write());
                    called = "write()";
                    break;
                case 10: {
                    int i = near(model.toldBytes.size());
                    got = answer(() -> real.byteAt(i));
                    due = answer(() -> model.byteAt(i));
                    called = "byteAt(" + i + ")";
                    break;
                }
                case 11: {
                    int v = near(256);
                    got = answer(() -> real.feed(v));
                    due = answer(() -> model.feed(v));
                    called = "feed(" + v + ")";
                    break;
                }
                case 12:
                    got = answer(() -> real.pass());
                    due = answer(() -> model.pass());
                    called = "pass()";
                    break;
                case 13:
                case 14:
                    tell(draw(3) == 0);
                    return;
                case 15:
                    tell(true);
                    return;
                case 16:
                case 17:
                    if (draw(60) == 0) {
                        real.clear();
                        model.clear();
                    }
                    look();
                    return;
                case 18: {
                    int i = near(model.instances.size());
                    int w = near(7);
                    got = answer(() -> real.place(i, w));
                    due = answer(() -> model.place(i, w));
                    called = "place(" + i + ", " + w + ")";
                    break;
                }
                default: {
                    int w = near(8);
                    got = answer(() -> real.told(w));
                    due = answer(() -> model.told(w));
                    called = "told(" + w + ")";
                    break;
                }
            }
            same(called, got, due);
        }

        /** Mostly 0 .. below - 1, now and then one beyond, seldom far beyond. */
        int near(int below) {
            int v = draw(Math.max(1, below) * 12 + 3);
            if (v < Math.max(1, below) * 12) {
                return below == 0 ? 0 : v % below;
            }
            switch (draw(4)) {
                case 0: return -1;
                case 1: return below;
                case 2: return Integer.MIN_VALUE;
                default: return Integer.MAX_VALUE;
            }
        }

        /** Feeds what the model tells, perhaps with bits that are changed, added or left out; reads it. */
        void tell(boolean rightly) {
            StringBuilder bits = new StringBuilder(draw(3) == 0 ? made() : model.bits());
            if (!rightly && draw(5) == 0) {
                bits.setLength(draw(bits.length() + 1));
            }
            if (!rightly && bits.length() > 0) {
                int changes = draw(3);
                for (int i = 0; i < changes; i++) {
                    int at = draw(bits.length());
                    bits.setCharAt(at, bits.charAt(at) == '0' ? '1' : '0');
                }
            }
            boolean fillsWrong = !rightly && draw(6) == 0;
            while (bits.length() % 8 != 0) {
                bits.append(fillsWrong && draw(3) == 0 ? '1' : '0');
            }
            if (!rightly && draw(8) == 0) {
                bits.append("00000000");
            }
            if (calls + bits.length() / 8 > MOST_CALLS) {
                calls += 20;
                return;
            }
            for (int i = 0; i < bits.length(); i += 8) {
                int v = Integer.parseInt(bits.substring(i, i + 8), 2);
                calls++;
                same("feed(" + v + ")", answer(() -> real.feed(v)), answer(() -> model.feed(v)));
            }
            Object due = answer(() -> model.read());
            same("read()", answer(() -> real.read()), due);
            if (due instanceof Integer && (Integer) due < 0) {
                refusals[model.kind][-1 - (Integer) due]++;
            } else {
                readings++;
            }
            look();
        }

        /** Bits that no layout at hand tells: other ways, lengths, names and runs. */
        String made() {
            StringBuilder bits = new StringBuilder();
            int count = draw(4);
            bits.append(Model.number(count)).append(Model.fixed(draw(4), 2)).append(draw(2));
            bits.append(Model.fixed(draw(4), 2)).append(Model.fixed(draw(12) == 0 ? 5 : draw(5), 3));
            if (model.kind == 0) {
                int one = draw(2);
                int full = draw(3);
                for (int i = 0; i < model.symbols.size(); i++) {
                    boolean last = i == model.symbols.size() - 1;
                    int length = full == 0 ? (i == one ? 1 : 0) : full == 1 ? Math.min(15, last ? i : i + 1) : draw(3);
                    bits.append(Model.fixed(length, 4));
                }
            }
            for (int i = 0; i < 60; i++) {
                int most = draw(3) == 0 ? 40 : 3;
                bits.append(draw(50) == 0 ? "0000000000000" : Model.number(draw(most)));
            }
            return bits.substring(0, Math.min(bits.length(), 40 + draw(60)));
        }

        /** What is told, and now and then all of the instances, else of a few: a run has 512 calls. */
        void look() {
            for (int w = -1; w <= 8 && calls < MOST_CALLS; w++) {
                int what = w;
                calls++;
                same("told(" + w + ")", answer(() -> real.told(what)), answer(() -> model.told(what)));
            }
            int apart = draw(6) == 0 ? 1 : 11;
            for (int i = draw(apart); i < model.instances.size(); i += apart) {
                for (int w = 0; w <= 6 && calls < MOST_CALLS; w++) {
                    int instance = i;
                    int what = w;
                    calls++;
                    same("place(" + i + ", " + w + ")", answer(() -> real.place(instance, what)),
                            answer(() -> model.place(instance, what)));
                }
            }
        }

        void same(String called, Object got, Object due) {
            if (!got.equals(due)) {
                wrong++;
                if (wrong < 40) {
                    System.out.println("run " + number + ", call " + calls + ": " + called + " answered " + got
                            + ", due is " + due);
                }
            }
        }
    }

    private interface Call {
        Object make();
    }

    private static Object answer(Call call) {
        try {
            return call.make();
        } catch (RuntimeException e) {
            return e.getClass().getName();
        }
    }

    private record Symbol(int width, int height, boolean[] dark) {
    }

    private record Placed(int symbol, int x, int y, boolean[] differs) {
    }

    private static final class Refused extends RuntimeException {
        private static final long serialVersionUID = 1L;
        final int why;

        Refused(int why) {
            this.why = why;
        }
    }

    /** The document, as plainly as it can be said. */
    private static final class Model {
        final int width;
        final int height;
        final int kind;
        List<Symbol> symbols = new ArrayList<>();
        List<Placed> instances = new ArrayList<>();
        List<Integer> toldBytes = new ArrayList<>();
        List<Integer> cameBytes = new ArrayList<>();
        int[] ways = new int[4];
        boolean[][] page;
        int refusedAt = -1;
        String bits;
        int place;

        Model(int width, int height, int kind) {
            this.width = width < 1 ? 1 : width > 24 ? 24 : width;
            this.height = height < 1 ? 1 : height > 24 ? 24 : height;
            this.kind = kind <= 0 ? 0 : 1;
            page = new boolean[this.height][this.width];
        }

        int symbol(int w, int h) {
            if (w < 1 || w > 8 || h < 1 || h > 8) {
                throw new IllegalArgumentException();
            }
            if (symbols.size() == 16) {
                throw new UnsupportedOperationException();
            }
            symbols.add(new Symbol(w, h, new boolean[w * h]));
            return symbols.size() - 1;
        }

        void isIn(int v, int below) {
            if (v < 0 || v >= below) {
                throw new IndexOutOfBoundsException();
            }
        }

        boolean put(int s, int x, int y, boolean dark) {
            isIn(s, symbols.size());
            return set(symbols.get(s), symbols.get(s).dark, x, y, dark);
        }

        boolean set(Symbol symbol, boolean[] row, int x, int y, boolean v) {
            isIn(x, symbol.width);
            isIn(y, symbol.height);
            boolean before = row[y * symbol.width + x];
            row[y * symbol.width + x] = v;
            return before != v;
        }

        int instance(int s, int x, int y) {
            isIn(s, symbols.size());
            if (x < -8 || x > 31 || y < -8 || y > 31) {
                throw new IllegalArgumentException();
            }
            if (instances.size() == 40) {
                throw new UnsupportedOperationException();
            }
            instances.add(new Placed(s, x, y, new boolean[symbols.get(s).dark.length]));
            return instances.size() - 1;
        }

        boolean refine(int i, int x, int y, boolean differs) {
            isIn(i, instances.size());
            return set(symbols.get(instances.get(i).symbol), instances.get(i).differs, x, y, differs);
        }

        int way(int what, int v) {
            if (what < 0 || what > 3 || v < 0 || v > new int[] {3, 1, 3, 4}[what]) {
                throw new IllegalArgumentException();
            }
            int before = ways[what];
            ways[what] = v;
            return before;
        }

        int column(Placed p) {
            return ways[0] == 2 || ways[0] == 3 ? p.x + symbols.get(p.symbol).width - 1 : p.x;
        }

        int row(Placed p) {
            return ways[0] == 1 || ways[0] == 3 ? p.y + symbols.get(p.symbol).height - 1 : p.y;
        }

        int sOf(Placed p) {
            return ways[1] == 1 ? row(p) : column(p);
        }

        int tOf(Placed p) {
            return ways[1] == 1 ? column(p) : row(p);
        }

        int stripOf(Placed p) {
            return Math.floorDiv(tOf(p), (int) Math.pow(2, ways[2]));
        }

        List<Placed> inOrder() {
            List<Placed> row = new ArrayList<>();
            for (int strip = -50; strip <= 50; strip++) {
                for (Placed p : instances) {
                    if (stripOf(p) == strip) {
                        row.add(p);
                    }
                }
            }
            return row;
        }

        int order(int tries) {
            if (tries < 0 || tries > 8) {
                throw new IllegalArgumentException();
            }
            boolean goesOn = ways[3] != 4;
            for (int t = 0; t < tries && goesOn; t++) {
                goesOn = false;
                for (int i = 1; i < instances.size(); i++) {
                    if (stripOf(instances.get(i - 1)) == stripOf(instances.get(i))) {
                        int before = bits().length();
                        Collections.swap(instances, i - 1, i);
                        if (bits().length() < before) {
                            goesOn = true;
                        } else {
                            Collections.swap(instances, i - 1, i);
                        }
                    }
                }
            }
            return bits().length();
        }

        int compose() {
            page = new boolean[height][width];
            for (Placed p : inOrder()) {
                Symbol symbol = symbols.get(p.symbol);
                for (int i = 0; i < symbol.dark.length; i++) {
                    int x = p.x + i % symbol.width;
                    int y = p.y + i / symbol.width;
                    if (x >= 0 && x < width && y >= 0 && y < height) {
                        boolean laid = symbol.dark[i] != p.differs[i];
                        boolean was = page[y][x];
                        boolean[] all = {was | laid, was & laid, was ^ laid, was == laid, laid};
                        page[y][x] = all[ways[3]];
                    }
                }
            }
            int dark = 0;
            for (boolean[] row : page) {
                for (boolean sample : row) {
                    dark += sample ? 1 : 0;
                }
            }
            return dark;
        }

        boolean at(int x, int y) {
            isIn(x, width);
            isIn(y, height);
            return page[y][x];
        }

        static String fixed(int v, int howMany) {
            String text = "";
            for (int i = 0; i < howMany; i++) {
                text = (v >> i) % 2 + text;
            }
            return text;
        }

        static String number(int n) {
            String text = Integer.toBinaryString(n + 1);
            return "0".repeat(text.length() - 1) + text;
        }

        static String signed(int v) {
            return number(v >= 0 ? 2 * v : -2 * v - 1);
        }

        /** Joins lists of symbols, so that a length is how many lists a symbol went through. */
        int[] lengths() {
            int[] lengths = new int[symbols.size()];
            List<List<Integer>> groups = new ArrayList<>();
            List<Integer> counts = new ArrayList<>();
            for (int s = 0; s < symbols.size(); s++) {
                int count = 0;
                for (Placed p : instances) {
                    count += p.symbol == s ? 1 : 0;
                }
                if (count > 0) {
                    groups.add(new ArrayList<>(List.of(s)));
                    counts.add(count);
                }
            }
            if (groups.size() == 1) {
                lengths[groups.get(0).get(0)] = 1;
            }
            while (groups.size() > 1) {
                List<Integer> joined = new ArrayList<>();
                int sum = 0;
                for (int turn = 0; turn < 2; turn++) {
                    int least = counts.indexOf(Collections.min(counts));
                    sum += counts.remove(least);
                    joined.addAll(groups.remove(least));
                }
                for (int s : joined) {
                    lengths[s]++;
                }
                groups.add(joined);
                counts.add(sum);
            }
            return lengths;
        }

        String[] codes(int[] lengths) {
            String[] codes = new String[lengths.length];
            String before = null;
            for (int length = 1; length <= 15; length++) {
                for (int s = 0; s < lengths.length; s++) {
                    if (lengths[s] == length) {
                        String code;
                        if (before == null) {
                            code = "0".repeat(length);
                        } else {
                            code = fixed(Integer.parseInt(before, 2) + 1, before.length())
                                    + "0".repeat(length - before.length());
                        }
                        codes[s] = code;
                        before = code;
                    }
                }
            }
            return codes;
        }

        List<Integer> byNumber() {
            List<Integer> row = new ArrayList<>();
            for (int s = 0; s < symbols.size(); s++) {
                row.add(s);
            }
            return row;
        }

        String bits() {
            StringBuilder out = new StringBuilder(number(instances.size()));
            out.append(fixed(ways[2], 2)).append(ways[1]).append(fixed(ways[0], 2)).append(fixed(ways[3], 3));
            int[] lengths = kind == 0 ? lengths() : new int[0];
            for (int length : lengths) {
                out.append(fixed(length, 4));
            }
            String[] codes = codes(lengths);
            List<Integer> row = byNumber();
            Placed before = null;
            Placed first = null;
            for (Placed p : inOrder()) {
                Symbol symbol = symbols.get(p.symbol);
                if (before == null) {
                    out.append(number(stripOf(p) + 16)).append(signed(sOf(p)));
                    first = p;
                } else if (stripOf(p) != stripOf(before)) {
                    out.append('0').append(number(stripOf(p) - stripOf(before) - 1));
                    out.append(signed(sOf(p) - sOf(first)));
                    first = p;
                } else {
                    Symbol last = symbols.get(before.symbol);
                    out.append('1').append(signed(sOf(p) - sOf(before) - (ways[1] == 1 ? last.height : last.width)));
                }
                out.append(fixed(Math.floorMod(tOf(p), 1 << ways[2]), ways[2]));
                if (kind == 0) {
                    out.append(codes[p.symbol]);
                } else {
                    int at = row.indexOf(p.symbol);
                    out.append(number(at));
                    row.add(0, row.remove(at));
                }
                out.append(runs(p, symbol));
                before = p;
            }
            return before == null ? out.toString() : out.append('0').toString();
        }

        String runs(Placed p, Symbol symbol) {
            StringBuilder out = new StringBuilder();
            boolean any = false;
            boolean now = false;
            int run = 0;
            for (boolean differs : p.differs) {
                any |= differs;
                if (differs != now) {
                    out.append(number(run));
                    run = 0;
                    now = differs;
                }
                run++;
            }
            return any ? "1" + out + number(run) : "0";
        }

        int write() {
            String all = bits();
            all += "0".repeat((8 - all.length() % 8) % 8);
            toldBytes.clear();
            for (int i = 0; i < all.length(); i += 8) {
                toldBytes.add(Integer.parseInt(all.substring(i, i + 8), 2));
            }
            return toldBytes.size();
        }

        int byteAt(int i) {
            isIn(i, toldBytes.size());
            return toldBytes.get(i);
        }

        int feed(int b) {
            if (b < 0 || b > 255) {
                throw new IllegalArgumentException();
            }
            if (cameBytes.size() == 2000) {
                throw new UnsupportedOperationException();
            }
            cameBytes.add(b);
            return cameBytes.size();
        }

        int pass() {
            if (cameBytes.size() + toldBytes.size() > 2000) {
                throw new UnsupportedOperationException();
            }
            cameBytes.addAll(toldBytes);
            return cameBytes.size();
        }

        int nextBits(int howMany) {
            int v = 0;
            for (int i = 0; i < howMany; i++) {
                if (place == bits.length()) {
                    throw new Refused(1);
                }
                v = 2 * v + bits.charAt(place) - '0';
                place++;
            }
            return v;
        }

        int nextNumber() {
            int k = 0;
            while (nextBits(1) == 0) {
                k++;
                if (k == 13) {
                    throw new Refused(8);
                }
            }
            return (1 << k) + nextBits(k) - 1;
        }

        int nextSigned() {
            int n = nextNumber();
            return n % 2 == 0 ? n / 2 : -(n + 1) / 2;
        }

        int read() {
            StringBuilder all = new StringBuilder();
            for (int b : cameBytes) {
                all.append(fixed(b, 8));
            }
            cameBytes.clear();
            bits = all.toString();
            place = 0;
            List<Placed> instancesBefore = instances;
            int[] waysBefore = ways;
            try {
                instances = new ArrayList<>();
                ways = new int[4];
                readAll();
                refusedAt = -1;
                return instances.size();
            } catch (Refused e) {
                instances = instancesBefore;
                ways = waysBefore;
                refusedAt = place;
                return -1 - e.why;
            }
        }

        void readAll() {
            int count = nextNumber();
            if (count > 40) {
                throw new Refused(2);
            }
            ways[2] = nextBits(2);
            ways[1] = nextBits(1);
            ways[0] = nextBits(2);
            ways[3] = nextBits(3);
            if (ways[3] > 4) {
                throw new Refused(3);
            }
            String[] codes = kind == 0 ? readCodes(count) : null;
            List<Integer> row = byNumber();
            int strip = 0;
            int firstS = 0;
            while (instances.size() < count) {
                strip = instances.isEmpty() ? nextNumber() - 16 : strip + 1 + nextNumber();
                firstS += nextSigned();
                int s = firstS;
                boolean goesOn = true;
                while (goesOn) {
                    Placed p = readInstance(s, strip, codes, row);
                    instances.add(p);
                    goesOn = nextBits(1) == 1;
                    if (goesOn && instances.size() == count) {
                        throw new Refused(2);
                    }
                    if (goesOn) {
                        Symbol symbol = symbols.get(p.symbol);
                        s += ways[1] == 1 ? symbol.height : symbol.width;
                        s += nextSigned();
                    }
                }
            }
            while (place % 8 != 0) {
                if (nextBits(1) == 1) {
                    throw new Refused(9);
                }
            }
            if (place < bits.length()) {
                throw new Refused(9);
            }
        }

        String[] readCodes(int count) {
            int[] lengths = new int[symbols.size()];
            double sum = 0;
            int used = 0;
            for (int s = 0; s < lengths.length; s++) {
                lengths[s] = nextBits(4);
                sum += lengths[s] == 0 ? 0 : Math.pow(0.5, lengths[s]);
                used += lengths[s] == 0 ? 0 : 1;
            }
            if (sum != 1.0 && !(used == 1 && sum == 0.5) && !(used == 0 && count == 0)) {
                throw new Refused(4);
            }
            return codes(lengths);
        }

        int readName(String[] codes, List<Integer> row) {
            if (kind == 1) {
                int at = nextNumber();
                if (at >= row.size()) {
                    throw new Refused(5);
                }
                row.add(0, row.remove(at));
                return row.get(0);
            }
            String code = "";
            while (true) {
                code += nextBits(1);
                boolean begins = false;
                for (int s = 0; s < codes.length; s++) {
                    if (code.equals(codes[s])) {
                        return s;
                    }
                    begins |= codes[s] != null && codes[s].startsWith(code);
                }
                if (!begins) {
                    throw new Refused(5);
                }
            }
        }

        Placed readInstance(int s, int strip, String[] codes, List<Integer> row) {
            int t = strip * (1 << ways[2]) + nextBits(ways[2]);
            int name = readName(codes, row);
            Symbol symbol = symbols.get(name);
            int column = ways[1] == 1 ? t : s;
            int line = ways[1] == 1 ? s : t;
            int x = ways[0] >= 2 ? column - symbol.width + 1 : column;
            int y = ways[0] == 1 || ways[0] == 3 ? line - symbol.height + 1 : line;
            if (x < -8 || x > 31 || y < -8 || y > 31) {
                throw new Refused(6);
            }
            boolean[] differs = new boolean[symbol.dark.length];
            if (nextBits(1) == 1) {
                int at = nextNumber();
                if (at > differs.length) {
                    throw new Refused(7);
                }
                boolean now = true;
                while (at < differs.length) {
                    int run = nextNumber();
                    if (run == 0 || at + run > differs.length) {
                        throw new Refused(7);
                    }
                    for (int i = 0; i < run; i++) {
                        differs[at++] = now;
                    }
                    now = !now;
                }
            }
            return new Placed(name, x, y, differs);
        }

        int place(int i, int what) {
            isIn(i, instances.size());
            Placed p = instances.get(i);
            int differing = 0;
            for (boolean differs : p.differs) {
                differing += differs ? 1 : 0;
            }
            int[] all = {p.symbol, p.x, p.y, sOf(p), tOf(p), stripOf(p), differing};
            return what >= 0 && what < all.length ? all[what] : -1;
        }

        int told(int what) {
            int[] all = {width, height, kind, symbols.size(), instances.size(), toldBytes.size(), cameBytes.size(),
                refusedAt};
            return what >= 0 && what < all.length ? all[what] : -1;
        }

        void clear() {
            symbols.clear();
            instances = new ArrayList<>();
            toldBytes.clear();
            cameBytes.clear();
            ways = new int[4];
            page = new boolean[height][width];
        }
    }
}
