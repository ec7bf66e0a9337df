import java.lang.reflect.Constructor;
import java.lang.reflect.Field;
import java.lang.reflect.Method;
import java.lang.reflect.Modifier;
import java.util.Arrays;
import java.util.Set;
import java.util.TreeSet;

/** The public face, its constants, and promise 1: a new object. */
public final class FaceTest {
    private static final String[] METHODS = {
        "put(int,int)int", "lower(int,int)int", "take()int", "drop(int)int", "join()int", "clear()int", "drift(int,int)int", "told(int)int", "job(int,int)int", "child(int,int)int", "loose(int)int", "bits()long",
        "sit(int,int,int)int", "sits(int,int)int", "net(int)int", "road(int,int,int)int", "tree(int,int)int", "way(int,int)int", "ways(int,int)int", "keep(int)int", "goBack(int)int"};
    private static final String[] CONSTANTS = {"NONE", "UNKNOWN", "OUTSIDE", "NOT", "FULL", "PLACE", "STORE"};

    private static String told(Method method) {
        StringBuilder text = new StringBuilder(method.getName()).append('(');
        for (Class<?> type : method.getParameterTypes()) {
            text.append(text.charAt(text.length() - 1) == '(' ? "" : ",").append(type.getName());
        }
        return text.append(')').append(method.getReturnType().getName()).toString();
    }

    private static void face(Due due) {
        Set<String> methods = new TreeSet<>();
        Set<String> names = new TreeSet<>();
        for (Method method : LooseHeap.class.getDeclaredMethods()) {
            if (!Modifier.isPrivate(method.getModifiers())) {
                due.holds(1, method + " is public and no more", method.getModifiers() == Modifier.PUBLIC);
                methods.add(told(method));
                names.add(method.getName());
            }
        }
        due.holds(1, "the methods are those of the document: " + methods, methods.equals(new TreeSet<>(Arrays.asList(METHODS))));
        Set<String> constants = new TreeSet<>();
        for (Field field : LooseHeap.class.getDeclaredFields()) {
            if (!Modifier.isPrivate(field.getModifiers())) {
                due.holds(1, field + " is a constant", field.getModifiers() == (Modifier.PUBLIC | Modifier.STATIC | Modifier.FINAL) && field.getType() == int.class);
                constants.add(field.getName());
            }
        }
        due.holds(1, "the constants are those of the document: " + constants, constants.equals(new TreeSet<>(Arrays.asList(CONSTANTS))));
        Constructor<?>[] makers = LooseHeap.class.getDeclaredConstructors();
        due.holds(1, "one public constructor without parameters", makers.length == 1 && makers[0].getModifiers() == Modifier.PUBLIC && makers[0].getParameterCount() == 0);
        due.is(1, "the class is public and final", LooseHeap.class.getModifiers(), Modifier.PUBLIC | Modifier.FINAL);
        inside(due, names);
    }

    private static void inside(Due due, Set<String> publicNames) {
        for (Class<?> type : LooseHeap.class.getDeclaredClasses()) {
            due.holds(1, type + " is static and not open to others", Modifier.isStatic(type.getModifiers()) && (type.getModifiers() & (Modifier.PUBLIC | Modifier.PROTECTED)) == 0);
            for (Method method : type.getDeclaredMethods()) {
                due.holds(1, method + " bears no public name", !publicNames.contains(method.getName()));
            }
        }
        for (Method method : LooseHeap.class.getDeclaredMethods()) {
            due.holds(1, method + " bears no public name", !Modifier.isPrivate(method.getModifiers()) || !publicNames.contains(method.getName()));
        }
    }

    private static void constants(Due due) {
        due.is(1, "NONE", LooseHeap.NONE, -1);
        due.is(1, "UNKNOWN", LooseHeap.UNKNOWN, -1000000001);
        due.is(1, "OUTSIDE", LooseHeap.OUTSIDE, -1000000002);
        due.is(1, "NOT", LooseHeap.NOT, -1000000003);
        due.is(1, "FULL", LooseHeap.FULL, -1000000004);
        due.is(1, "PLACE", LooseHeap.PLACE, -1000000011);
        due.is(1, "STORE", LooseHeap.STORE, -1000000012);
    }

    private static void newObject(Due due) {
        LooseHeap x = new LooseHeap();
        int[] empty = {0, 0, -1, 0, 0, -1, 0, 0, 0, 0, 0};
        for (int what = 0; what < empty.length; what++) {
            due.is(1, "told(" + what + ") of a new object", x.told(what), empty[what]);
        }
        due.is(1, "bits() of a new object", x.bits(), 0);
        due.is(1, "job(0, 0) of a new object", x.job(0, 0), LooseHeap.UNKNOWN);
        due.is(1, "take() of a new object", x.take(), LooseHeap.NOT);
        due.is(1, "join() of a new object", x.join(), 0);
        due.is(1, "clear() of a new object", x.clear(), 0);
        for (int place = 0; place < 8; place++) {
            due.is(1, "sits(0, " + place + ") of a new object", x.sits(0, place), -1);
            due.is(1, "sits(1, " + place + ") of a new object", x.sits(1, place), -1);
            due.is(1, "tree(" + place + ", 0) without a net", x.tree(place, 0), LooseHeap.UNKNOWN);
            due.is(1, "ways(" + place + ", 0) without a net", x.ways(place, 0), LooseHeap.UNKNOWN);
            due.is(1, "way(" + place + ", " + place + ") without a net", x.way(place, place), LooseHeap.UNKNOWN);
        }
        due.is(1, "goBack(0) of a new object", x.goBack(0), LooseHeap.NOT);
        due.is(1, "goBack(1) of a new object", x.goBack(1), LooseHeap.NOT);
        LooseHeap other = new LooseHeap();
        x.put(0, 1);
        x.net(3);
        due.is(1, "told(0) of another object", other.told(0), 0);
        due.is(1, "told(9) of another object", other.told(9), 0);
    }

    public static void main(String[] args) {
        Due due = new Due("FaceTest");
        face(due);
        constants(due);
        newObject(due);
        due.end();
    }
}
