import java.lang.reflect.Constructor;
import java.lang.reflect.Field;
import java.lang.reflect.Method;
import java.lang.reflect.Modifier;
import java.util.Arrays;
import java.util.Set;
import java.util.TreeSet;

/** The document's public face, and what LANGUAGE.md says of members and fields (rules 1, 2, 5 and 10). */
public final class FaceTest {
    private static final Set<String> FACE = Set.of("frames/0", "used/0", "mappedIn/1", "map/3", "unmap/3", "protect/4",
        "mapped/2", "writable/2", "read/2", "write/3", "touch/3", "stamp/3", "remap/3", "duplicate/2", "exchange/1", "sum/1",
        "nextMapped/2");
    private static final Set<Class<?>> NUMBERS = Set.of(int.class, long.class, short.class, byte.class, char.class,
        boolean.class);

    public static void main(String[] args) {
        theClassIsPublicFinalAndAlone();
        oneConstructorTakesAnInt();
        thePublicMethodsAreTheFace();
        privateMethodsHaveNamesOfTheirOwn();
        fieldsArePrivateNumbersOrArrays();
        Checks.finish();
    }

    private static void theClassIsPublicFinalAndAlone() {
        Class<?> type = PageRangeStore.class;
        Checks.holds("the class is public", Modifier.isPublic(type.getModifiers()));
        Checks.holds("the class is final", Modifier.isFinal(type.getModifiers()));
        Checks.holds("the class has no super class but Object", type.getSuperclass() == Object.class);
        Checks.due("interfaces", type.getInterfaces().length, 0);
        Checks.due("nested classes", type.getDeclaredClasses().length, 0);
        Checks.holds("the class has no package", type.getPackageName().isEmpty());
    }

    private static void oneConstructorTakesAnInt() {
        Constructor<?>[] constructors = PageRangeStore.class.getDeclaredConstructors();
        Checks.due("constructors", constructors.length, 1);
        Checks.holds("the constructor is public", Modifier.isPublic(constructors[0].getModifiers()));
        Checks.holds("it takes an int",
            Arrays.equals(constructors[0].getParameterTypes(), new Class<?>[] {int.class}));
    }

    private static void thePublicMethodsAreTheFace() {
        Set<String> found = new TreeSet<>();
        for (Method method : PageRangeStore.class.getDeclaredMethods()) {
            if (Modifier.isPrivate(method.getModifiers())) {
                continue;
            }
            String told = method.getName() + "/" + method.getParameterCount();
            found.add(told);
            Checks.holds(told + " is public and not static", method.getModifiers() == Modifier.PUBLIC);
            Checks.holds(told + " answers an int", method.getReturnType() == int.class);
            for (Class<?> parameter : method.getParameterTypes()) {
                Checks.holds(told + " takes ints", parameter == int.class);
            }
        }
        Checks.holds("the methods are those of the face: " + found, found.equals(FACE));
    }

    private static void privateMethodsHaveNamesOfTheirOwn() {
        Set<String> publicNames = new TreeSet<>();
        for (String told : FACE) {
            publicNames.add(told.substring(0, told.indexOf('/')));
        }
        for (Method method : PageRangeStore.class.getDeclaredMethods()) {
            if (Modifier.isPrivate(method.getModifiers())) {
                Checks.holds(method.getName() + " is no public name", !publicNames.contains(method.getName()));
                Checks.holds(method.getName() + " answers no array", !method.getReturnType().isArray());
                Checks.holds(method.getName() + " takes at most seven", method.getParameterCount() <= 7);
            }
        }
    }

    private static void fieldsArePrivateNumbersOrArrays() {
        for (Field field : PageRangeStore.class.getDeclaredFields()) {
            String name = field.getName();
            Class<?> type = field.getType();
            Checks.holds(name + " is private", Modifier.isPrivate(field.getModifiers()));
            Class<?> base = type.isArray() ? type.getComponentType() : type;
            Checks.holds(name + " is a number or a one-dimensional array", NUMBERS.contains(base));
            if (Modifier.isStatic(field.getModifiers())) {
                Checks.holds(name + " is a constant", Modifier.isFinal(field.getModifiers()));
                Checks.holds(name + " is an int or a long", type == int.class || type == long.class);
            }
        }
    }
}
