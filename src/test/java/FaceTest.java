import java.lang.reflect.Constructor;
import java.lang.reflect.Field;
import java.lang.reflect.Method;
import java.lang.reflect.Modifier;
import java.util.Set;
import java.util.TreeSet;

/** The class has the document's face and nothing else that can be seen (LANGUAGE.md, rules 1 and 5). */
public final class FaceTest {
    private static final String[] FACE = {
        "public int symbol(int,int) throws IllegalArgumentException,UnsupportedOperationException",
        "public boolean put(int,int,int,boolean) throws IndexOutOfBoundsException",
        "public int instance(int,int,int) throws IndexOutOfBoundsException,IllegalArgumentException,"
                + "UnsupportedOperationException",
        "public boolean refine(int,int,int,boolean) throws IndexOutOfBoundsException",
        "public int way(int,int) throws IllegalArgumentException",
        "public int order(int) throws IllegalArgumentException",
        "public int compose()",
        "public boolean at(int,int) throws IndexOutOfBoundsException",
        "public int write()",
        "public int byteAt(int) throws IndexOutOfBoundsException",
        "public int feed(int) throws IllegalArgumentException,UnsupportedOperationException",
        "public int pass() throws UnsupportedOperationException",
        "public int read()",
        "public int place(int,int) throws IndexOutOfBoundsException",
        "public int told(int)",
        "public void clear()"};

    private static int wrong = 0;

    private static void check(boolean holds, String what) {
        if (!holds) {
            wrong++;
            System.out.println(what);
        }
    }

    public static void main(String[] args) {
        Class<?> face = TextRegions.class;
        check(Modifier.isPublic(face.getModifiers()) && Modifier.isFinal(face.getModifiers()), "public and final");
        Set<String> due = new TreeSet<>(Set.of(FACE));
        Set<String> found = new TreeSet<>();
        Set<String> hidden = new TreeSet<>();
        for (Method m : face.getDeclaredMethods()) {
            if (Modifier.isPublic(m.getModifiers())) {
                found.add(m.toString().replace("java.lang.", "").replace("TextRegions.", ""));
            } else {
                check(Modifier.isPrivate(m.getModifiers()), m + " is not private");
                hidden.add(m.getName());
            }
        }
        check(found.equals(due), "public methods: " + found);
        for (String row : due) {
            String name = row.substring(0, row.indexOf('(')).split(" ")[2];
            check(!hidden.contains(name), "a private method bears a public one's name: " + name);
        }
        for (Constructor<?> c : face.getDeclaredConstructors()) {
            check(c.toString().equals("public TextRegions(int,int,int)"), c + " is not the document's");
        }
        checkFields(face);
        for (Class<?> inside : face.getDeclaredClasses()) {
            check(Modifier.isStatic(inside.getModifiers()), inside + " is not static");
            check(!Modifier.isPublic(inside.getModifiers()), inside + " is public");
            checkFields(inside);
        }
        if (wrong != 0) {
            System.exit(1);
        }
    }

    private static void checkFields(Class<?> owner) {
        int own = 0;
        for (Field f : owner.getDeclaredFields()) {
            int modifiers = f.getModifiers();
            boolean isNone = owner == TextRegions.class && f.getName().equals("NONE");
            check(isNone ? Modifier.isPublic(modifiers) : !Modifier.isPublic(modifiers), f + " is seen wrongly");
            check(owner != TextRegions.class || isNone || Modifier.isPrivate(modifiers), f + " is not private");
            check(!Modifier.isStatic(modifiers) || Modifier.isFinal(modifiers), f + " is not final");
            own += Modifier.isStatic(modifiers) ? 0 : 1;
        }
        check(own <= 20, owner + " has too many fields: " + own);
    }
}
