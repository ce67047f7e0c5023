import java.lang.reflect.Constructor;
import java.lang.reflect.Field;
import java.lang.reflect.Method;
import java.lang.reflect.Modifier;
import java.util.Set;
import java.util.TreeSet;

/** The public face of the document, and no other member of the class that is not private. */
public final class FaceTest {
    private static final String FACE = "row(int,int,int) set(int,int,int) copy(int,int,int,int,int) drop(int) "
        + "feed(long,int) town() fault() season(int) lean(int,int) cloud(int,int) draw(int,int) more(int,int,int) "
        + "undo() shadow(int,int) open(int) shop(int,int) soonest(int,int,int) check(int,int,int,int,int,int) "
        + "thief(int,int,int,int) longest(int,int) bills(int,int) leans(int,int,int) image(int) restore(int) "
        + "kind(int) as(int,int) ask(int,int) trace(int) count(int) status()";
    private static final Due due = new Due();

    public static void main(String[] args) throws IllegalAccessException {
        due.is("public and final", DialTown.class.getModifiers(), Modifier.PUBLIC | Modifier.FINAL);
        constants();
        constructors();
        methods();
        innerNames();
        due.end();
    }

    private static void constants() throws IllegalAccessException {
        String[] names = {"NONE", "BAD", "STATE", "FULL"};
        int met = 0;
        for (Field field : DialTown.class.getDeclaredFields()) {
            if (Modifier.isPrivate(field.getModifiers())) {
                continue;
            }
            for (int i = 0; i < names.length; i++) {
                if (field.getName().equals(names[i])) {
                    met++;
                    due.is(names[i], field.getInt(null), -1000000 - i);
                    due.is(names[i] + " is public", field.getModifiers(),
                        Modifier.PUBLIC | Modifier.STATIC | Modifier.FINAL);
                }
            }
            due.is(field + " is told", Set.of(names).contains(field.getName()) ? 1 : 0, 1);
        }
        due.is("constants", met, names.length);
    }

    private static void constructors() {
        Constructor<?>[] made = DialTown.class.getDeclaredConstructors();
        due.is("constructors", made.length, 1);
        due.is("its parameters", made[0].getParameterCount(), 0);
        due.is("it is public", made[0].getModifiers(), Modifier.PUBLIC);
    }

    private static void methods() {
        Set<String> told = new TreeSet<>(Set.of(FACE.split(" ")));
        Set<String> names = new TreeSet<>();
        for (String call : told) {
            names.add(call.substring(0, call.indexOf('(')));
        }
        Set<String> met = new TreeSet<>();
        for (Method method : DialTown.class.getDeclaredMethods()) {
            if (method.isSynthetic()) {
                continue;
            }
            if (Modifier.isPrivate(method.getModifiers())) {
                due.is(method + " bears no public name", names.contains(method.getName()) ? 1 : 0, 0);
                continue;
            }
            due.is(method + " is public", method.getModifiers(), Modifier.PUBLIC);
            due.is(method + " answers an int", method.getReturnType() == int.class ? 1 : 0, 1);
            met.add(call(method));
        }
        due.is("the face " + met, met.equals(told) ? 1 : 0, 1);
    }

    private static void innerNames() {
        int classes = 1;
        for (Class<?> inner : DialTown.class.getDeclaredClasses()) {
            classes++;
            due.is(inner + " is static", Modifier.isStatic(inner.getModifiers()) ? 1 : 0, 1);
            due.is(inner + " is not public", Modifier.isPublic(inner.getModifiers()) ? 1 : 0, 0);
            due.is(inner + " has few fields", inner.getDeclaredFields().length <= 25 ? 1 : 0, 1);
        }
        due.is("few classes", classes <= 12 ? 1 : 0, 1);
    }

    private static String call(Method method) {
        StringBuilder call = new StringBuilder(method.getName()).append('(');
        for (Class<?> type : method.getParameterTypes()) {
            call.append(call.charAt(call.length() - 1) == '(' ? "" : ",").append(type.getName());
        }
        return call.append(')').toString();
    }
}
