import java.lang.reflect.Array;
import java.lang.reflect.Field;
import java.lang.reflect.Member;
import java.lang.reflect.Method;
import java.lang.reflect.Modifier;
import java.util.ArrayDeque;
import java.util.Arrays;
import java.util.Collections;
import java.util.Deque;
import java.util.IdentityHashMap;
import java.util.Set;
import java.util.TreeSet;

/** The public face is the document's and no wider, and what an object holds does not grow. */
public final class FaceTest {
    private static final Checks CHECKS = new Checks();
    private static final String[] METHODS = {"feed(IIIII)", "back(I)", "read()", "place()", "inn(III)",
        "room(II)", "caravan(IIIIII)", "bale(I)", "shut(II)", "look(IIZ)", "state(IIII)", "house(IIII)",
        "full(IIII)", "comes(II)", "barred(III)", "could(II)", "sealed(III)", "tolls(III)",
        "crowded(III)", "count(I)"};

    public static void main(String[] args) throws IllegalAccessException {
        face();
        whatItHolds();
        CHECKS.end();
    }

    private static void face() {
        Class<?> road = CaravanRoad.class;
        yes("the class is public and final",
                Modifier.isPublic(road.getModifiers()) && Modifier.isFinal(road.getModifiers()));
        due("constructors", road.getDeclaredConstructors().length, 1);
        due("public constructors", road.getConstructors().length, 1);
        due("arguments of the constructor", road.getConstructors()[0].getParameterCount(), 0);
        Set<String> found = new TreeSet<>();
        for (Method m : road.getDeclaredMethods()) {
            if (!isHidden(m)) {
                found.add(signature(m));
                yes(m.getName() + " answers an int", m.getReturnType() == int.class);
                yes(m.getName() + " is public, not static",
                        Modifier.isPublic(m.getModifiers()) && !Modifier.isStatic(m.getModifiers()));
            }
        }
        yes("the methods are " + found, found.equals(new TreeSet<>(Arrays.asList(METHODS))));
        for (Field f : road.getDeclaredFields()) {
            yes("field " + f.getName(), isHidden(f) || f.getName().equals("NONE"));
        }
        for (Class<?> c : road.getDeclaredClasses()) {
            yes("class " + c.getName() + " is static", Modifier.isStatic(c.getModifiers()));
            yes("class " + c.getName() + " is hidden", !Modifier.isPublic(c.getModifiers())
                    && !Modifier.isProtected(c.getModifiers()));
        }
    }

    private static boolean isHidden(Member m) {
        return Modifier.isPrivate(m.getModifiers());
    }

    private static String signature(Method m) {
        StringBuilder text = new StringBuilder(m.getName()).append("(");
        for (Class<?> type : m.getParameterTypes()) {
            text.append(type.descriptorString());
        }
        return text.append(")").toString();
    }

    /** 512 new objects fit in the room of one run, and no call makes one hold more. */
    private static void whatItHolds() throws IllegalAccessException {
        CaravanRoad road = new CaravanRoad();
        long[] ahead = held(road);
        yes("objects: " + ahead[0], ahead[0] * 512 < 600000);
        yes("fields and elements: " + ahead[1], ahead[1] * 512 < 7300000);
        for (int i = 0; i < 9; i++) {
            road.inn(0, 60, 60);
            road.room(i, 20);
            road.caravan(0, 1, 1, 0, 1, 0);
            road.bale(i);
            road.shut(i, i);
            road.look(i, i, false);
            Checks.read(road, "first (kind + 1) * 2 if day < 3 or inn == 2;");
            road.state(i, 3, i, 1);
            road.could(i, i);
        }
        long[] behind = held(road);
        due("objects held", behind[0], ahead[0]);
        due("fields and elements held", behind[1], ahead[1]);
    }

    private static long[] held(Object root) throws IllegalAccessException {
        Set<Object> seen = Collections.newSetFromMap(new IdentityHashMap<>());
        Deque<Object> open = new ArrayDeque<>();
        open.add(root);
        long parts = 0;
        while (!open.isEmpty()) {
            Object o = open.remove();
            if (seen.add(o)) {
                parts += o.getClass().isArray() ? elements(o, open) : fields(o, open);
            }
        }
        return new long[] {seen.size(), parts};
    }

    private static long elements(Object array, Deque<Object> open) {
        int length = Array.getLength(array);
        for (int i = 0; i < length && !array.getClass().getComponentType().isPrimitive(); i++) {
            if (Array.get(array, i) != null) {
                open.add(Array.get(array, i));
            }
        }
        return length;
    }

    private static long fields(Object o, Deque<Object> open) throws IllegalAccessException {
        long number = 0;
        for (Field f : o.getClass().getDeclaredFields()) {
            if (!Modifier.isStatic(f.getModifiers())) {
                number++;
                f.setAccessible(true);
                if (!f.getType().isPrimitive() && f.get(o) != null) {
                    open.add(f.get(o));
                }
            }
        }
        return number;
    }

    private static void yes(String what, boolean holds) {
        due(what, holds ? 1 : 0, 1);
    }

    private static void due(String call, long got, long want) {
        CHECKS.due(call, got, want);
    }
}
