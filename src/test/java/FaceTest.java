import java.lang.reflect.Constructor;
import java.lang.reflect.Field;
import java.lang.reflect.Member;
import java.lang.reflect.Method;
import java.lang.reflect.Modifier;
import java.util.Arrays;
import java.util.Set;
import java.util.TreeSet;

/** The public face is the document's, no more and no less, and the rest is private (LANGUAGE.md 1, 2, 5). */
public final class FaceTest {
    private static final Set<String> FACE = new TreeSet<>(Arrays.asList(
        "road/3", "remove/1", "weigh/2", "want/1", "turn/1", "roads/0", "isJoin/1", "possible/0", "joins/0",
        "best/0", "bestSet/0", "bestWith/1", "bestWithout/1", "between/2", "postman/0", "oddPlaces/0"));
    private static final Set<Class<?>> TYPES = Set.of(
        int.class, long.class, short.class, byte.class, char.class, boolean.class,
        int[].class, long[].class, short[].class, byte[].class, char[].class, boolean[].class);
    private static int wrong = 0;

    private static void check(boolean holds, String what) {
        if (!holds) {
            wrong++;
            System.out.println("not so: " + what);
        }
    }

    public static void main(String[] args) {
        Class<?> type = TJoins.class;
        check(Modifier.isPublic(type.getModifiers()) && Modifier.isFinal(type.getModifiers()), "public and final");
        check(type.getDeclaredClasses().length == 0, "no nested class");
        constructors(type);
        methods(type);
        fields(type);
        System.out.println(wrong == 0 ? "the face is as due" : wrong + " things are not as due");
        if (wrong != 0) {
            System.exit(1);
        }
    }

    private static void constructors(Class<?> type) {
        Constructor<?>[] all = type.getDeclaredConstructors();
        check(all.length == 1, "one constructor");
        check(Modifier.isPublic(all[0].getModifiers()), "a public constructor");
        check(Arrays.equals(all[0].getParameterTypes(), new Class<?>[] {int.class}), "of one int");
    }

    private static void methods(Class<?> type) {
        Set<String> names = new TreeSet<>();
        Set<String> publicNames = new TreeSet<>();
        Set<String> privateNames = new TreeSet<>();
        for (Method method : type.getDeclaredMethods()) {
            if (Modifier.isPublic(method.getModifiers())) {
                names.add(method.getName() + "/" + method.getParameterCount());
                publicNames.add(method.getName());
                check(!Modifier.isStatic(method.getModifiers()), method + " is not static");
                check(method.getReturnType() == int.class, method + " answers an int");
                for (Class<?> parameter : method.getParameterTypes()) {
                    check(parameter == int.class, method + " takes ints");
                }
            } else {
                privateNames.add(method.getName());
                checkPrivate(method);
            }
        }
        check(names.equals(FACE), "the public methods " + names + " are " + FACE);
        privateNames.retainAll(publicNames);
        check(privateNames.isEmpty(), "no private method named as a public one: " + privateNames);
    }

    private static void fields(Class<?> type) {
        for (Field field : type.getDeclaredFields()) {
            checkPrivate(field);
            check(TYPES.contains(field.getType()), field + " is a number or an array of numbers");
            if (Modifier.isStatic(field.getModifiers())) {
                check(Modifier.isFinal(field.getModifiers()), field + " is a constant");
                check(field.getType() == int.class || field.getType() == long.class, field + " is int or long");
            }
        }
    }

    private static void checkPrivate(Member member) {
        check(Modifier.isPrivate(member.getModifiers()), member + " is private");
    }
}
