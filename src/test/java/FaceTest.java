import java.lang.reflect.Constructor;
import java.lang.reflect.Field;
import java.lang.reflect.Method;
import java.lang.reflect.Modifier;
import java.util.Arrays;
import java.util.HashSet;
import java.util.Set;
import java.util.TreeSet;

/** The public face is the document's and no more; the rest keeps to LANGUAGE.md as far as reflection shows it. */
public final class FaceTest {
    private static final Class<?> PROGRAM = BitSerialMachine.class;

    public static void main(String[] args) {
        publicMembersAreTheDocuments();
        privateMethodsBearNoPublicName();
        fieldsHoldNumbersAndArraysOfThem();
        Due.end();
    }

    private static void publicMembersAreTheDocuments() {
        int modifiers = PROGRAM.getModifiers();
        Due.holds("the class is public and final", Modifier.isPublic(modifiers) && Modifier.isFinal(modifiers));
        Set<String> due = new TreeSet<>(Arrays.asList(
                "int emit[int, int, int, int]", "void clear[]", "void set[int, int]", "int get[int]",
                "void rewind[]", "int run[int]", "int next[]", "int total[]"));
        Set<String> found = new TreeSet<>();
        for (Method method : PROGRAM.getDeclaredMethods()) {
            int access = method.getModifiers();
            if (Modifier.isPrivate(access)) {
                continue;
            }
            Due.holds(method + " is public and not static", Modifier.isPublic(access) && !Modifier.isStatic(access));
            found.add(method.getReturnType() + " " + method.getName() + Arrays.toString(method.getParameterTypes()));
        }
        Due.holds("the public methods are " + due + ", found " + found, due.equals(found));
        Constructor<?>[] constructors = PROGRAM.getDeclaredConstructors();
        Due.is("the number of constructors", 1, constructors.length);
        Due.holds("the constructor is public and takes nothing",
                Modifier.isPublic(constructors[0].getModifiers()) && constructors[0].getParameterCount() == 0);
        Due.is("the number of nested classes", 0, PROGRAM.getDeclaredClasses().length);
    }

    private static void privateMethodsBearNoPublicName() {
        Set<String> names = new HashSet<>();
        for (Method method : PROGRAM.getDeclaredMethods()) {
            Due.holds(method.getName() + " names one method alone", names.add(method.getName()));
        }
    }

    private static void fieldsHoldNumbersAndArraysOfThem() {
        for (Field field : PROGRAM.getDeclaredFields()) {
            Class<?> type = field.getType();
            Class<?> element = type.isArray() ? type.getComponentType() : type;
            Due.holds(field + " is private", Modifier.isPrivate(field.getModifiers()));
            Due.holds(field + " is of whole numbers",
                    element.isPrimitive() && element != float.class && element != double.class);
            if (Modifier.isStatic(field.getModifiers())) {
                Due.holds(field + " is a constant of int or long",
                        Modifier.isFinal(field.getModifiers()) && (type == int.class || type == long.class));
            }
        }
    }
}
