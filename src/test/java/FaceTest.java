import java.lang.reflect.Constructor;
import java.lang.reflect.Field;
import java.lang.reflect.Method;
import java.lang.reflect.Modifier;
import java.util.Arrays;
import java.util.TreeSet;

/** The public face, and a new object (promise 1). */
public final class FaceTest {
    private static final String[] FACE = {
        "void feed(int,int,int,int,int) throws IllegalStateException",
        "void end(int) throws IllegalArgumentException",
        "void again(int,int) throws IllegalArgumentException,IllegalStateException",
        "int length()",
        "void alter(int,int) throws IndexOutOfBoundsException,IllegalArgumentException",
        "int pack()",
        "int told(int) throws IllegalArgumentException",
        "int codeLength(int,int) throws IllegalArgumentException",
        "int unpack(int) throws IllegalArgumentException",
        "int blame(int) throws IllegalArgumentException",
        "void back() throws IllegalStateException",
        "int size()",
        "int byteAt(int) throws IndexOutOfBoundsException",
        "long check()"};

    public static void main(String[] args) {
        face();
        methods();
        constants();
        newObject();
        objectsApart();
        Due.finish("FaceTest");
    }

    private static void face() {
        Class<?> face = PackedBytes.class;
        Due.due("public and final", face.getModifiers(), Modifier.PUBLIC | Modifier.FINAL);
        Due.due("it extends nothing", face.getSuperclass() == Object.class ? 1 : 0, 1);
        Due.due("it implements nothing", face.getInterfaces().length, 0);
        Constructor<?>[] makers = face.getDeclaredConstructors();
        Due.due("constructors", makers.length, 1);
        Due.due("the constructor is public", makers[0].getModifiers(), Modifier.PUBLIC);
        Due.due("the constructor takes nothing", makers[0].getParameterCount(), 0);
        for (Class<?> inside : face.getDeclaredClasses()) {
            int open = inside.getModifiers() & (Modifier.PUBLIC | Modifier.PROTECTED);
            Due.due(inside.getSimpleName() + " is static", Modifier.isStatic(inside.getModifiers()) ? 1 : 0, 1);
            Due.due(inside.getSimpleName() + " is private or package-visible", open, 0);
        }
    }

    private static void methods() {
        TreeSet<String> open = new TreeSet<>();
        TreeSet<String> openNames = new TreeSet<>();
        TreeSet<String> privateNames = new TreeSet<>();
        for (Method m : PackedBytes.class.getDeclaredMethods()) {
            if (Modifier.isPrivate(m.getModifiers())) {
                privateNames.add(m.getName());
                continue;
            }
            Due.due(m.getName() + " is public alone", m.getModifiers(), Modifier.PUBLIC);
            openNames.add(m.getName());
            open.add(m.getReturnType() + " " + m.getName() + "(" + names(m.getParameterTypes()) + ")"
                + (m.getExceptionTypes().length == 0 ? "" : " throws " + names(m.getExceptionTypes())));
        }
        boolean same = open.equals(new TreeSet<>(Arrays.asList(FACE)));
        if (!same) {
            System.out.println("the methods are " + open);
        }
        Due.due("the methods are the document's", same ? 1 : 0, 1);
        privateNames.retainAll(openNames);
        Due.due("private methods with the name of a public one", privateNames.size(), 0);
    }

    private static void constants() {
        Due.due("NONE", PackedBytes.NONE, -1);
        for (Field f : PackedBytes.class.getDeclaredFields()) {
            if (f.getName().equals("NONE")) {
                Due.due("NONE is public static final", f.getModifiers(), Modifier.PUBLIC | Modifier.STATIC | Modifier.FINAL);
                Due.due("NONE is an int", f.getType() == int.class ? 1 : 0, 1);
            } else {
                Due.due("the field " + f.getName() + " is private", Modifier.isPrivate(f.getModifiers()) ? 1 : 0, 1);
            }
        }
    }

    private static String names(Class<?>[] types) {
        StringBuilder text = new StringBuilder();
        for (Class<?> type : types) {
            text.append(text.length() == 0 ? "" : ",").append(type.getSimpleName());
        }
        return text.toString();
    }

    private static void newObject() {
        Probe x = new Probe();
        Due.due("length()", x.length(), 0);
        Due.due("size()", x.size(), 0);
        Due.due("check()", x.check(), 0);
        Due.dueThrow("byteAt(0)", () -> x.byteAt(0), Due.INDEX);
        Due.dueThrow("alter(0, 0)", () -> x.alter(0, 0), Due.INDEX);
        for (int what = 0; what < 6; what++) {
            Due.due("told before", x.told(what), 0);
        }
        for (int what = 0; what < 3; what++) {
            Due.due("blame before", x.blame(what), 0);
        }
        int[] symbols = {286, 30, 19};
        for (int table = 0; table < 3; table++) {
            for (int s = 0; s < symbols[table]; s++) {
                Due.due("codeLength before", x.codeLength(table, s), 0);
            }
        }
        Due.dueThrow("back() without a product", x::back, 0);
        Due.due("length() then", x.length(), 0);
    }

    private static void objectsApart() {
        Probe x = new Probe();
        Probe y = new Probe();
        x.feed(1, 2, 3, 4, 5);
        x.pack();
        Due.due("the other's length()", y.length(), 0);
        Due.due("the other's size()", y.size(), 0);
        Due.due("the other's told(3)", y.told(3), 0);
        Due.due("the other's codeLength(0, 256)", y.codeLength(0, 256), 0);
    }
}
