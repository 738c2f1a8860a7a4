import java.lang.reflect.Array;
import java.lang.reflect.Constructor;
import java.lang.reflect.Field;
import java.lang.reflect.Member;
import java.lang.reflect.Method;
import java.lang.reflect.Modifier;
import java.util.Arrays;
import java.util.Collections;
import java.util.IdentityHashMap;
import java.util.Set;
import java.util.TreeSet;

/** The face is the document's, and what can be seen of LANGUAGE.md's rules in the compiled class holds. */
public final class FaceTest {
    private static final String[] FACE = {
        "public LookaheadMill()",
        "public int LookaheadMill.write(long)",
        "public int LookaheadMill.wipe()",
        "public int LookaheadMill.read()",
        "public int LookaheadMill.place()",
        "public void LookaheadMill.bind(char,int,int) throws java.lang.IllegalArgumentException",
        "public int LookaheadMill.number(int)"
            + " throws java.lang.IllegalStateException,java.lang.IllegalArgumentException",
        "public int LookaheadMill.symbol(int,int)"
            + " throws java.lang.IllegalStateException,java.lang.IndexOutOfBoundsException",
        "public int LookaheadMill.set(char,int)"
            + " throws java.lang.IllegalStateException,java.lang.IllegalArgumentException",
        "public int LookaheadMill.item(int,int)"
            + " throws java.lang.IllegalStateException,java.lang.IndexOutOfBoundsException",
        "public int LookaheadMill.go(int,char) throws java.lang.IllegalStateException,"
            + "java.lang.IndexOutOfBoundsException,java.lang.IllegalArgumentException",
        "public int LookaheadMill.behind(int,int,int) throws java.lang.IllegalStateException,"
            + "java.lang.IndexOutOfBoundsException,java.lang.IllegalArgumentException",
        "public int LookaheadMill.action(int,char) throws java.lang.IllegalStateException,"
            + "java.lang.IndexOutOfBoundsException,java.lang.IllegalArgumentException",
        "public int LookaheadMill.unsettled(int) throws java.lang.IllegalStateException",
        "public void LookaheadMill.open(int,int)"
            + " throws java.lang.IllegalStateException,java.lang.IllegalArgumentException",
        "public int LookaheadMill.token(char)"
            + " throws java.lang.IllegalStateException,java.lang.IllegalArgumentException",
        "public int LookaheadMill.parser(int)",
        "public int LookaheadMill.stack(int) throws java.lang.IndexOutOfBoundsException",
        "public int LookaheadMill.expected() throws java.lang.IllegalStateException",
        "public int LookaheadMill.node(int,int)"
            + " throws java.lang.IndexOutOfBoundsException,java.lang.IllegalArgumentException",
        "public int LookaheadMill.child(int,int) throws java.lang.IndexOutOfBoundsException",
    };

    public static void main(String[] args) {
        constants();
        face();
        names();
        for (Class<?> inside : LookaheadMill.class.getDeclaredClasses()) {
            inside(inside);
        }
        sizes(LookaheadMill.class);
        room();
        Check.same("twelve classes at most", atMost(LookaheadMill.class.getDeclaredClasses().length + 1, 12), 0);
        Check.end();
    }

    private static void constants() {
        Check.same("NONE", LookaheadMill.NONE, -1);
        Check.same("WAITS", LookaheadMill.WAITS, 0);
        Check.same("ACCEPTED", LookaheadMill.ACCEPTED, 1);
        Check.same("REFUSED", LookaheadMill.REFUSED, 2);
        Check.same("FULL", LookaheadMill.FULL, 3);
        Check.same("ACCEPT", LookaheadMill.ACCEPT, 16);
        Check.same("SHIFT", LookaheadMill.SHIFT, 20);
    }

    private static void face() {
        Class<?> mill = LookaheadMill.class;
        Check.same("the class", Modifier.toString(mill.getModifiers()), "public final");
        Set<String> seen = new TreeSet<>();
        for (Constructor<?> constructor : mill.getDeclaredConstructors()) {
            seen.add(constructor.toString());
        }
        for (Method method : mill.getDeclaredMethods()) {
            if (!Modifier.isPrivate(method.getModifiers())) {
                seen.add(method.toString());
            }
        }
        Check.same("constructors and methods", seen.toString(), new TreeSet<>(Arrays.asList(FACE)).toString());
        Set<String> fields = new TreeSet<>();
        for (Field field : mill.getDeclaredFields()) {
            if (!Modifier.isPrivate(field.getModifiers())) {
                fields.add(Modifier.toString(field.getModifiers()) + " " + field.getType() + " " + field.getName());
            }
        }
        Set<String> due = new TreeSet<>();
        for (String name : "NONE WAITS ACCEPTED REFUSED FULL ACCEPT SHIFT".split(" ")) {
            due.add("public static final int " + name);
        }
        Check.same("constants", fields.toString(), due.toString());
    }

    private static void names() {
        Set<String> known = new TreeSet<>();
        Set<String> hidden = new TreeSet<>();
        for (Method method : LookaheadMill.class.getDeclaredMethods()) {
            (Modifier.isPublic(method.getModifiers()) ? known : hidden).add(method.getName());
        }
        for (Class<?> inside : LookaheadMill.class.getDeclaredClasses()) {
            for (Method method : inside.getDeclaredMethods()) {
                hidden.add(method.getName());
            }
        }
        hidden.retainAll(known);
        Check.same("no other method bears a public one's name", hidden.toString(), "[]");
    }

    private static void inside(Class<?> inside) {
        int modifiers = inside.getModifiers();
        String name = inside.getSimpleName();
        boolean hidden = !Modifier.isPublic(modifiers) && !Modifier.isProtected(modifiers);
        Check.same(name + " is hidden and static", hidden && Modifier.isStatic(modifiers) ? 1 : 0, 1);
        sizes(inside);
    }

    private static void sizes(Class<?> each) {
        int fields = 0;
        for (Field field : each.getDeclaredFields()) {
            if (Modifier.isStatic(field.getModifiers())) {
                Check.same(field + " is final", isFinal(field) ? 1 : 0, 1);
            } else {
                fields++;
            }
        }
        Check.same("fields of " + each.getSimpleName(), atMost(fields, 20), 0);
        for (Method method : each.getDeclaredMethods()) {
            Check.same("parameters of " + method.getName(), atMost(method.getParameterCount(), 7), 0);
        }
    }

    /** A run's objects share a room of 7.3 million fields and elements, so one of them must stay small. */
    private static void room() {
        Set<Object> held = Collections.newSetFromMap(new IdentityHashMap<>());
        int places = hold(new LookaheadMill(), held);
        Check.same("objects and arrays that one holds", atMost(held.size(), 60), 0);
        Check.same("fields and elements that one holds", atMost(places, 6000), 0);
    }

    private static int hold(Object object, Set<Object> held) {
        if (object == null || !held.add(object)) {
            return 0;
        }
        if (object.getClass().isArray()) {
            return Array.getLength(object);
        }
        int places = 0;
        for (Field field : object.getClass().getDeclaredFields()) {
            if (!Modifier.isStatic(field.getModifiers())) {
                places++;
                places += field.getType().isPrimitive() ? 0 : hold(valueOf(field, object), held);
            }
        }
        return places;
    }

    private static Object valueOf(Field field, Object object) {
        try {
            field.setAccessible(true);
            return field.get(object);
        } catch (IllegalAccessException e) {
            throw new IllegalStateException(e);
        }
    }

    private static boolean isFinal(Member member) {
        return Modifier.isFinal(member.getModifiers());
    }

    private static int atMost(int many, int most) {
        return Math.max(0, many - most);
    }
}
