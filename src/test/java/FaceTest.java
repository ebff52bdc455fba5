import java.lang.reflect.Constructor;
import java.lang.reflect.Field;
import java.lang.reflect.Method;
import java.lang.reflect.Modifier;
import java.util.Set;
import java.util.TreeSet;

/** The class has the document's face and nothing else that can be seen (LANGUAGE.md, rules 1 and 5). */
public final class FaceTest {
    private static int wrong = 0;

    private static void check(boolean holds, String what) {
        if (!holds) {
            wrong++;
            System.out.println(what);
        }
    }

    public static void main(String[] args) {
        Class<?> face = TextRegions.class;
        check(Modifier.isPublic(face.getModifiers()) && Modifier.isFinal(face.getModifiers()), "public and final");
        Set<String> due = new TreeSet<>(Set.of("int symbol 2", "boolean put 4", "int instance 3", "boolean refine 4",
                "int way 2", "int order 1", "int compose 0", "boolean at 2", "int write 0", "int byteAt 1"));
        due.addAll(Set.of("int feed 1", "int pass 0", "int read 0", "int place 2", "int told 1", "void clear 0"));
        Set<String> found = new TreeSet<>();
        Set<String> hidden = new TreeSet<>();
        for (Method m : face.getDeclaredMethods()) {
            if (Modifier.isPublic(m.getModifiers())) {
                found.add(m.getReturnType() + " " + m.getName() + " " + m.getParameterCount());
            } else {
                check(Modifier.isPrivate(m.getModifiers()), m + " is not private");
                hidden.add(m.getName());
            }
        }
        check(found.equals(due), "public methods: " + found);
        for (String row : due) {
            check(!hidden.contains(row.split(" ")[1]), "a private method bears a public one's name: " + row);
        }
        for (Constructor<?> c : face.getDeclaredConstructors()) {
            check(Modifier.isPublic(c.getModifiers()) && c.getParameterCount() == 3, c + " is not the document's");
        }
        checkFields(face);
        for (Class<?> inside : face.getDeclaredClasses()) {
            check(Modifier.isStatic(inside.getModifiers()), inside + " is not static");
            check(!Modifier.isPublic(inside.getModifiers()), inside + " is public");
            checkFields(inside);
        }
        if (wrong != 0) {
            System.exit(1);
        }
    }

    private static void checkFields(Class<?> owner) {
        int own = 0;
        for (Field f : owner.getDeclaredFields()) {
            int modifiers = f.getModifiers();
            boolean isNone = owner == TextRegions.class && f.getName().equals("NONE");
            check(isNone ? Modifier.isPublic(modifiers) : !Modifier.isPublic(modifiers), f + " is seen wrongly");
            check(owner != TextRegions.class || isNone || Modifier.isPrivate(modifiers), f + " is not private");
            check(!Modifier.isStatic(modifiers) || Modifier.isFinal(modifiers), f + " is not final");
            own += Modifier.isStatic(modifiers) ? 0 : 1;
        }
        check(own <= 20, owner + " has too many fields: " + own);
    }
}
