import java.lang.reflect.Array;
import java.lang.reflect.Constructor;
import java.lang.reflect.Field;
import java.lang.reflect.Method;
import java.lang.reflect.Modifier;
import java.util.Collections;
import java.util.IdentityHashMap;
import java.util.Set;
import java.util.TreeSet;

/** The public face, and the room that an object takes: it must not grow by calls. */
final class FaceTest {
    private static final String FACE = "answer(int,int):char ask():int choices():int clauses():int consult():int forget():void "
        + "goals():int length():int run(int):int tries():int type(long):boolean";

    public static void main(String[] args) throws IllegalAccessException {
        Due due = new Due();
        face(due);
        PrunedSearch x = new PrunedSearch();
        long before = room(x);
        due.holds("a new object is small enough: " + before, before < 25000);
        for (int k = 0; k < 40; k++) {
            Due.consulted(x, k % 2 == 0 ? "p(a). p(f(X)):-p(X)." : "p(");
            Due.asked(x, "p(X),p(Y).");
            x.run(100);
            Due.text(x, 0);
        }
        due.same("and stays as it is", room(x), before);
        due.finish();
    }

    private static void face(Due due) {
        Set<String> methods = new TreeSet<>();
        for (Method method : PrunedSearch.class.getDeclaredMethods()) {
            if (!Modifier.isPrivate(method.getModifiers())) {
                due.holds(method.getName() + " is public", Modifier.isPublic(method.getModifiers()));
                StringBuilder text = new StringBuilder(method.getName()).append('(');
                for (Class<?> kind : method.getParameterTypes()) {
                    text.append(text.charAt(text.length() - 1) == '(' ? "" : ",").append(kind.getName());
                }
                methods.add(text.append("):").append(method.getReturnType().getName()).toString());
            }
        }
        due.same("methods", String.join(" ", methods), FACE);
        Set<String> fields = new TreeSet<>();
        for (Field field : PrunedSearch.class.getDeclaredFields()) {
            if (!Modifier.isPrivate(field.getModifiers())) {
                fields.add(Modifier.toString(field.getModifiers()) + " " + field.getType() + " " + field.getName());
            }
            due.holds(field.getName() + " is final", Modifier.isFinal(field.getModifiers()));
        }
        due.same("constants", String.join(", ", fields), "public static final int MUCH, public static final int NONE");
        Constructor<?>[] constructors = PrunedSearch.class.getDeclaredConstructors();
        due.same("constructors", constructors.length, 1);
        due.holds("the constructor is public", Modifier.isPublic(constructors[0].getModifiers()));
        due.same("its parameters", constructors[0].getParameterCount(), 0);
        due.same("the class", Modifier.toString(PrunedSearch.class.getModifiers()), "public final");
        for (Class<?> inside : PrunedSearch.class.getDeclaredClasses()) {
            due.fails(inside.getName() + " is not public", Modifier.isPublic(inside.getModifiers()));
            due.holds(inside.getName() + " is static", Modifier.isStatic(inside.getModifiers()));
        }
    }

    /** Objects, fields and elements that can be reached from the object. */
    private static long room(Object from) throws IllegalAccessException {
        return room(from, Collections.newSetFromMap(new IdentityHashMap<>()));
    }

    private static long room(Object from, Set<Object> seen) throws IllegalAccessException {
        if (from == null || !seen.add(from)) {
            return 0;
        }
        if (from.getClass().isArray()) {
            return 1 + Array.getLength(from);
        }
        long room = 1;
        for (Field field : from.getClass().getDeclaredFields()) {
            if (!Modifier.isStatic(field.getModifiers())) {
                field.setAccessible(true);
                room += 1 + (field.getType().isPrimitive() ? 0 : room(field.get(from), seen));
            }
        }
        return room;
    }
}
