import java.io.File;
import java.io.PrintWriter;
import java.io.StringWriter;
import java.net.URISyntaxException;
import java.util.ArrayList;
import java.util.LinkedHashMap;
import java.util.List;
import java.util.Map;
import java.util.Set;
import java.util.TreeSet;
import java.util.regex.Matcher;
import java.util.regex.Pattern;
import java.util.spi.ToolProvider;

/** The compiled class keeps to what of LANGUAGE.md can be seen in its code: rules 4, 6, 8, 11 and 12. */
public final class LanguageTest {
    private static final Set<String> LIBRARY = Set.of("java/lang/Math.max", "java/lang/Math.min",
            "java/lang/Long.bitCount", "java/lang/Object.<init>");
    private static final Set<String> THROWN = Set.of("java/lang/IllegalArgumentException",
            "java/lang/IndexOutOfBoundsException", "java/lang/UnsupportedOperationException");
    private static final int MOST_CLASSES = 12;
    private static final int MOST_DEPTH = 8;
    private static final int MOST_PARAMETERS = 7;
    private static final int MOST_LINES = 60;

    private static final Pattern CALLED = Pattern.compile("// (?:Interface)?Method ([^ ]+)");
    private static final Pattern MADE = Pattern.compile(": (?:new|newarray|anewarray|multianewarray) +(.*)");
    private static final Pattern LINE = Pattern.compile("line (\\d+): \\d+");

    private static int wrong = 0;

    /** A method with its code as javap prints it. */
    private static final class Listed {
        final String owner;
        final String name;
        String descriptor = "";
        final List<String> code = new ArrayList<>();

        Listed(String owner, String name) {
            this.owner = owner;
            this.name = name;
        }

        String key() {
            return owner + "." + name + ":" + descriptor;
        }

        boolean makesAnObject() {
            return name.equals("<init>") || name.equals("<clinit>");
        }
    }

    private static void check(boolean holds, String what) {
        if (!holds) {
            wrong++;
            System.out.println(what);
        }
    }

    public static void main(String[] args) throws URISyntaxException {
        if (ToolProvider.findFirst("javap").isEmpty()) {
            System.out.println("this Java has no javap: the code was not looked at");
            return;
        }
        Map<String, Listed> methods = new LinkedHashMap<>();
        int classes = 0;
        File place = new File(TextRegions.class.getProtectionDomain().getCodeSource().getLocation().toURI());
        for (String file : new TreeSet<>(List.of(place.list()))) {
            if (file.matches("TextRegions(\\$.*)?\\.class")) {
                classes++;
                list(new File(place, file), file.replace(".class", ""), methods);
            }
        }
        check(classes > 1 && classes <= MOST_CLASSES, "classes: " + classes);
        check(methods.size() > 50, "only " + methods.size() + " methods were listed");
        for (Listed method : methods.values()) {
            checkCode(method, methods);
            checkSize(method);
        }
        int deepest = 0;
        for (Listed method : methods.values()) {
            deepest = Math.max(deepest, depth(method, methods, 1));
        }
        check(deepest <= MOST_DEPTH, "calls go " + deepest + " deep");
        if (wrong != 0) {
            System.exit(1);
        }
    }

    private static void list(File file, String owner, Map<String, Listed> methods) {
        StringWriter text = new StringWriter();
        PrintWriter out = new PrintWriter(text);
        ToolProvider javap = ToolProvider.findFirst("javap").orElseThrow();
        check(javap.run(out, out, "-p", "-c", "-s", "-l", file.getPath()) == 0, "javap: " + text);
        Listed now = null;
        for (String line : text.toString().split("\\R")) {
            if (line.matches("  \\S.*;") && (line.contains("(") || line.contains("static {}"))) {
                String head = line.contains("(") ? line.substring(0, line.indexOf('(')).trim() : "<clinit>";
                String name = head.substring(head.lastIndexOf(' ') + 1);
                now = new Listed(owner, name.equals(owner) ? "<init>" : name);
            } else if (line.matches("  \\S.*;")) {
                now = null;
            } else if (now != null && line.startsWith("    descriptor: ")) {
                now.descriptor = line.substring("    descriptor: ".length());
                methods.put(now.key(), now);
            } else if (now != null) {
                now.code.add(line);
            }
        }
    }

    private static void checkCode(Listed method, Map<String, Listed> methods) {
        for (String line : method.code) {
            check(!line.contains("Exception table"), method.key() + " catches");
            check(!line.contains("invokedynamic"), method.key() + " has a lambda or joins texts by +");
            check(!line.contains("checkcast"), method.key() + " casts");
            check(!line.contains("monitorenter"), method.key() + " is synchronized");
            boolean divides = line.matches(".*: [il](div|rem)\\b.*");
            check(!divides || isByConstant(method, line), method.key() + " divides by what is no constant: " + line);
            Matcher made = MADE.matcher(line);
            if (made.find() && !method.makesAnObject()) {
                String what = made.group(1).replaceAll(".*// class ", "");
                check(THROWN.contains(what), method.key() + " makes " + what);
            }
            String called = called(method, line);
            if (called != null && !methods.containsKey(called)) {
                String bare = called.substring(0, called.indexOf(':'));
                boolean isThrown = bare.endsWith(".<init>") && THROWN.contains(bare.replace(".<init>", ""));
                check(isThrown || LIBRARY.contains(bare), method.key() + " calls " + called);
            }
        }
    }

    /** Whether the value pushed just before a division is a constant other than 0. */
    private static boolean isByConstant(Listed method, String line) {
        int at = method.code.indexOf(line);
        return at > 0 && method.code.get(at - 1).matches(".*: (iconst_[1-5]|bipush +[1-9]\\d*)\\s*");
    }

    private static void checkSize(Listed method) {
        int first = Integer.MAX_VALUE;
        int last = 0;
        for (String line : method.code) {
            Matcher at = LINE.matcher(line);
            if (at.find()) {
                first = Math.min(first, Integer.parseInt(at.group(1)));
                last = Math.max(last, Integer.parseInt(at.group(1)));
            }
        }
        // the code of field initialisers stands in a constructor, so its lines say nothing of its length
        check(method.makesAnObject() || last - first < MOST_LINES, method.key() + " is long");
        String parameters = method.descriptor.replaceAll("\\((.*)\\).*", "$1").replaceAll("\\[*(L[^;]*;|\\w)", "p");
        check(parameters.length() <= MOST_PARAMETERS, method.key() + " has " + parameters.length() + " parameters");
    }

    /** What a line calls, as owner.name:descriptor, or null. */
    private static String called(Listed method, String line) {
        Matcher found = CALLED.matcher(line);
        if (!found.find()) {
            return null;
        }
        String whole = found.group(1).replace("\"", "");
        String bare = whole.substring(0, whole.indexOf(':'));
        return bare.contains(".") ? whole : method.owner + "." + whole;
    }

    /** How many calls stand open at most below a method, itself counted; methods of an interface by what has them. */
    private static int depth(Listed method, Map<String, Listed> methods, int above) {
        if (above > 2 * MOST_DEPTH) {
            return above;
        }
        int deepest = above;
        for (String line : method.code) {
            String called = called(method, line);
            if (called == null || !methods.containsKey(called)) {
                continue;
            }
            String ownName = called.substring(called.lastIndexOf('.', called.indexOf(':')));
            for (Listed next : methods.values()) {
                boolean isMeant = line.contains("InterfaceMethod")
                        ? next.key().endsWith(ownName) && !next.code.isEmpty() : next.key().equals(called);
                if (isMeant) {
                    deepest = Math.max(deepest, depth(next, methods, above + 1));
                }
            }
        }
        return deepest;
    }
}
