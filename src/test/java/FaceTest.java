import java.lang.reflect.Constructor;
import java.lang.reflect.Field;
import java.lang.reflect.Method;
import java.lang.reflect.Modifier;
import java.util.ArrayList;
import java.util.Collections;
import java.util.HashSet;
import java.util.List;
import java.util.Set;

/** The public face of the document, and the rules of LANGUAGE.md that show in the compiled class. */
public final class FaceTest {
    private static final String[] FACE = {
        "int push() IllegalStateException",
        "int pop() IllegalStateException",
        "int make(int,int,int) IndexOutOfBoundsException,IllegalArgumentException,IllegalStateException",
        "int set(int,int,int) IndexOutOfBoundsException,IllegalStateException",
        "int get(int,int,int) IndexOutOfBoundsException,IllegalStateException",
        "int put(int,int) IndexOutOfBoundsException",
        "int swap(int,int) IndexOutOfBoundsException",
        "int hash(int) IndexOutOfBoundsException,IllegalStateException",
        "boolean pin(int) IndexOutOfBoundsException,IllegalStateException",
        "boolean unpin(int) IndexOutOfBoundsException,IllegalStateException",
        "int take(int) IndexOutOfBoundsException",
        "int minor() ",
        "int full(boolean) ",
        "int start() IllegalStateException",
        "int step(int) IllegalArgumentException,IllegalStateException",
        "int finish() IllegalStateException",
        "int tenure(int) IllegalArgumentException",
        "int at(int) IndexOutOfBoundsException",
        "int field(int,int) IndexOutOfBoundsException",
        "int ofObject(int,int) IndexOutOfBoundsException,IllegalArgumentException",
        "int many(int) IllegalArgumentException",
        "boolean isDirty(int) IndexOutOfBoundsException",
        "int queue(int) IndexOutOfBoundsException",
        "double meanSize() ",
        "boolean isReachable(int) IndexOutOfBoundsException",
        "int wouldFree(boolean) ",
        "int held(int) IndexOutOfBoundsException",
        "int addressFor(int) IllegalArgumentException",
        "long digest() ",
    };

    private FaceTest() { }

    public static void main(String[] args) {
        Check.part("the face");
        face();
        Check.part("the classes inside");
        classesInside();
        Check.end();
    }

    private static void face() {
        Class<?> face = Tenuredale.class;
        Check.due("public and final", face.getModifiers() == (Modifier.PUBLIC | Modifier.FINAL), true);
        Check.due("no class above", face.getSuperclass() == Object.class && face.getInterfaces().length == 0, true);
        Check.due("constructors", face.getDeclaredConstructors().length, 1);
        Constructor<?> made = face.getDeclaredConstructors()[0];
        Check.due("public Tenuredale()", Modifier.isPublic(made.getModifiers()) && made.getParameterCount() == 0, true);
        List<String> due = new ArrayList<>(List.of(FACE));
        List<String> got = new ArrayList<>();
        Set<String> names = new HashSet<>();
        for (Method method : face.getDeclaredMethods()) {
            if (Modifier.isPrivate(method.getModifiers())) {
                continue;
            }
            got.add(told(method));
            names.add(method.getName());
            Check.due("public " + method.getName(), method.getModifiers() == Modifier.PUBLIC, true);
        }
        Collections.sort(due);
        Collections.sort(got);
        Check.due("the face: " + got + ", due is " + due, got.equals(due), true);
        for (Method method : face.getDeclaredMethods()) {
            if (Modifier.isPrivate(method.getModifiers())) {
                Check.due("private with a name of the face: " + method, names.contains(method.getName()), false);
            }
        }
        for (Field field : face.getDeclaredFields()) {
            Check.due("private field " + field.getName(), Modifier.isPrivate(field.getModifiers()), true);
            staticIsFinal(field);
        }
    }

    private static void classesInside() {
        Class<?>[] inside = Tenuredale.class.getDeclaredClasses();
        Check.due("some twelve classes at most", inside.length < 12, true);
        for (Class<?> one : inside) {
            int of = one.getModifiers();
            Check.due(one.getName() + " hidden", Modifier.isPublic(of) || Modifier.isProtected(of), false);
            Check.due(one.getName() + " static", Modifier.isStatic(of), true);
            Check.due(one.getName() + " with some twenty fields", one.getDeclaredFields().length <= 20, true);
            for (Field field : one.getDeclaredFields()) {
                staticIsFinal(field);
            }
            for (Method method : one.getDeclaredMethods()) {
                Check.due("at most seven parameters: " + method, method.getParameterCount() <= 7, true);
            }
        }
    }

    private static void staticIsFinal(Field field) {
        int of = field.getModifiers();
        Check.due("static and final: " + field, !Modifier.isStatic(of) || Modifier.isFinal(of), true);
    }

    private static String told(Method method) {
        StringBuilder told = new StringBuilder(method.getReturnType().getName() + " " + method.getName() + "(");
        for (int i = 0; i < method.getParameterCount(); i++) {
            told.append(i == 0 ? "" : ",").append(method.getParameterTypes()[i].getName());
        }
        told.append(") ");
        for (int i = 0; i < method.getExceptionTypes().length; i++) {
            told.append(i == 0 ? "" : ",").append(method.getExceptionTypes()[i].getSimpleName());
        }
        return told.toString();
    }
}
