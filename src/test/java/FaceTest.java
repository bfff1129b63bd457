import java.lang.reflect.Constructor;
import java.lang.reflect.Executable;
import java.lang.reflect.Field;
import java.lang.reflect.Method;
import java.lang.reflect.Modifier;
import java.util.Arrays;
import java.util.Set;
import java.util.TreeSet;
import java.util.stream.Collectors;

/** The class has the document's face and shows nothing else. */
public final class FaceTest {
    private static final String FACE = """
            install(int int int int) IllegalArgumentException IllegalStateException
            export(int int int) IllegalArgumentException NoSuchElementException IllegalStateException UnsupportedOperationException
            need(int int int int boolean) IllegalArgumentException NoSuchElementException IllegalStateException UnsupportedOperationException
            resolve(int) IllegalArgumentException NoSuchElementException IllegalStateException ArithmeticException
            start(int) IllegalArgumentException NoSuchElementException IllegalStateException UnsupportedOperationException ArithmeticException
            stop(int) IllegalArgumentException NoSuchElementException
            level(int) IllegalArgumentException
            uninstall(int) IllegalArgumentException NoSuchElementException
            update(int) IllegalArgumentException NoSuchElementException
            refresh()
            register(int int double) IllegalArgumentException NoSuchElementException IllegalStateException UnsupportedOperationException
            get(int int) IllegalArgumentException NoSuchElementException IllegalStateException UnsupportedOperationException
            giveBack(int int) IllegalArgumentException NoSuchElementException UnsupportedOperationException
            unregister(int int) IllegalArgumentException NoSuchElementException UnsupportedOperationException
            rank(int) IllegalArgumentException ArithmeticException
            event() IllegalStateException
            about(int int) IllegalArgumentException
            count(int) IllegalArgumentException
            """;

    private static int wrong;

    public static void main(String[] args) {
        Set<String> shown = new TreeSet<>();
        Set<String> publicNames = new TreeSet<>();
        for (Method method : BundleHall.class.getDeclaredMethods()) {
            if (!Modifier.isPrivate(method.getModifiers())) {
                shown.add(text(method.getName(), method));
                publicNames.add(method.getName());
                String answer = method.getName().equals("rank") ? "double" : "int";
                check(method.getReturnType().getName().equals(answer), method + " answers another type");
                check(Modifier.isPublic(method.getModifiers()), method + " is not public");
            }
        }
        Set<String> due = new TreeSet<>(Arrays.asList(FACE.strip().split("\n")));
        check(shown.equals(due), "the face is " + shown + ", due is " + due);
        check(Modifier.isFinal(BundleHall.class.getModifiers()), "the class is not final");
        checkNothingElse(publicNames);
        System.out.println(wrong == 0 ? "the face is as due" : wrong + " faults in the face");
        if (wrong != 0) {
            System.exit(1);
        }
    }

    private static void checkNothingElse(Set<String> publicNames) {
        Constructor<?>[] constructors = BundleHall.class.getDeclaredConstructors();
        check(constructors.length == 1 && Modifier.isPublic(constructors[0].getModifiers())
                && constructors[0].getParameterCount() == 0, "not just one public constructor");
        for (Method method : BundleHall.class.getDeclaredMethods()) {
            check(Modifier.isPublic(method.getModifiers()) || !publicNames.contains(method.getName()),
                    method + " bears the name of a public one");
        }
        for (Field field : BundleHall.class.getDeclaredFields()) {
            check(Modifier.isPrivate(field.getModifiers()), field + " is not private");
            check(!Modifier.isStatic(field.getModifiers()) || Modifier.isFinal(field.getModifiers()),
                    field + " is static and not final");
        }
        for (Class<?> inside : BundleHall.class.getDeclaredClasses()) {
            check(Modifier.isStatic(inside.getModifiers()) && !Modifier.isPublic(inside.getModifiers()),
                    inside + " is not static, or is public");
        }
    }

    private static String text(String name, Executable method) {
        String parameters = Arrays.stream(method.getParameterTypes()).map(Class::getSimpleName)
                .collect(Collectors.joining(" "));
        String thrown = Arrays.stream(method.getExceptionTypes()).map(Class::getSimpleName)
                .collect(Collectors.joining(" "));
        return (name + "(" + parameters + ") " + thrown).strip();
    }

    private static void check(boolean holds, String fault) {
        if (!holds) {
            wrong++;
            System.out.println(fault);
        }
    }
}
