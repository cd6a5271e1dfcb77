import java.lang.reflect.Constructor;
import java.lang.reflect.Field;
import java.lang.reflect.Method;
import java.lang.reflect.Modifier;
import java.util.Arrays;
import java.util.Set;
import java.util.TreeSet;

/** The class has the document's face and no other visible member, and keeps no state in static fields. */
public final class FaceTest {
    private static final String[] FACE = {
        "boolean begin 1", "int line 2", "boolean paint 2", "int bare 1", "int turn 3", "int swap 2", "int grow 1",
        "int growAll 0", "int pair 0", "int even 0", "boolean take 1", "boolean keep 0", "int back 0", "int grown 1",
        "int of 2", "int clash 2", "int post 2", "int colour 2", "int chain 4", "int idle 1", "int calmer 1",
        "int fan 3", "int index 0", "int first 2", "int overfull 1", "int refused 2", "int list 2", "int listed 1",
        "int free 1", "int longest 1", "int sets 1", "int critical 0", "int kinds 1", "int turns 1", "int chains 2",
        "int sides 1", "int apart 1", "long ways 1", "int unlike 1", "int count 1"
    };

    private final Check check = new Check();

    public static void main(String[] args) {
        FaceTest test = new FaceTest();
        test.methods();
        test.constructors();
        test.fields(LineColours.class);
        test.classesInside();
        test.check.end();
    }

    private void methods() {
        Set<String> want = new TreeSet<>(Arrays.asList(FACE));
        Set<String> got = new TreeSet<>();
        Set<String> publicNames = new TreeSet<>();
        for (Method method : LineColours.class.getDeclaredMethods()) {
            boolean instance = !Modifier.isStatic(method.getModifiers());
            if (Modifier.isPublic(method.getModifiers()) && instance && takesInts(method)) {
                got.add(method.getReturnType().getName() + " " + method.getName() + " " + method.getParameterCount());
                publicNames.add(method.getName());
            } else if (!Modifier.isPrivate(method.getModifiers())) {
                check.fail("visible: " + method);
            }
        }
        check.due("the face " + got + " is " + want, got.equals(want), true);
        dueOtherNames(LineColours.class, publicNames);
        for (Class<?> inside : LineColours.class.getDeclaredClasses()) {
            dueOtherNames(inside, publicNames);
        }
    }

    private void dueOtherNames(Class<?> owner, Set<String> publicNames) {
        for (Method method : owner.getDeclaredMethods()) {
            if (!Modifier.isPublic(method.getModifiers()) && publicNames.contains(method.getName())) {
                check.fail("bears a public name: " + method);
            }
        }
    }

    private static boolean takesInts(Method method) {
        for (Class<?> type : method.getParameterTypes()) {
            if (type != int.class) {
                return false;
            }
        }
        return true;
    }

    private void constructors() {
        Constructor<?>[] all = LineColours.class.getDeclaredConstructors();
        check.due("one constructor", all.length, 1);
        check.due("public", Modifier.isPublic(all[0].getModifiers()), true);
        check.due("without parameters", all[0].getParameterCount(), 0);
        check.due("the class is final", Modifier.isFinal(LineColours.class.getModifiers()), true);
    }

    private void fields(Class<?> owner) {
        int own = 0;
        for (Field field : owner.getDeclaredFields()) {
            boolean isNone = owner == LineColours.class && field.getName().equals("NONE");
            check.due(field + " is hidden", Modifier.isPublic(field.getModifiers()) == isNone, true);
            check.due(field + " is private or NONE", isNone || Modifier.isPrivate(field.getModifiers()), true);
            if (Modifier.isStatic(field.getModifiers())) {
                check.due(field + " is final", Modifier.isFinal(field.getModifiers()), true);
            } else {
                own++;
            }
        }
        check.due("some twenty fields in " + owner, own <= 20, true);
    }

    private void classesInside() {
        Class<?>[] inside = LineColours.class.getDeclaredClasses();
        check.due("some twelve classes", inside.length < 12, true);
        for (Class<?> one : inside) {
            check.due(one + " is static", Modifier.isStatic(one.getModifiers()), true);
            check.due(one + " is hidden", Modifier.isPublic(one.getModifiers()), false);
            fields(one);
        }
    }
}
