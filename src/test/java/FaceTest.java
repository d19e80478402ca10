import java.lang.reflect.Constructor;
import java.lang.reflect.Field;
import java.lang.reflect.Method;
import java.lang.reflect.Modifier;
import java.util.Arrays;
import java.util.TreeSet;

/** The public face, and a new object (promise 1). */
public final class FaceTest {
    private static final String[] FACE = {
        "void feed(int,int,int,int,int) throws IllegalStateException",
        "void end(int) throws IllegalArgumentException",
        "void again(int,int) throws IllegalArgumentException,IllegalStateException",
        "int length()",
        "void alter(int,int) throws IndexOutOfBoundsException,IllegalArgumentException",
        "int pack()",
        "int told(int) throws IllegalArgumentException",
        "int codeLength(int,int) throws IllegalArgumentException",
        "int unpack(int) throws IllegalArgumentException",
        "int blame(int) throws IllegalArgumentException",
        "void back() throws IllegalStateException",
        "int size()",
        "int byteAt(int) throws IndexOutOfBoundsException",
        "long check()"};

    public static void main(String[] args) {
        face();
        newObject();
        objectsApart();
        Due.finish("FaceTest");
    }

    private static void face() {
        Class<?> face = PackedBytes.class;
        Due.due("public and final", face.getModifiers(), Modifier.PUBLIC | Modifier.FINAL);
        TreeSet<String> open = new TreeSet<>();
        for (Method m : face.getDeclaredMethods()) {
            if (!Modifier.isPrivate(m.getModifiers())) {
                Due.due(m.getName() + " is public alone", m.getModifiers(), Modifier.PUBLIC);
                open.add(m.getReturnType() + " " + m.getName() + "(" + names(m.getParameterTypes()) + ")"
                    + (m.getExceptionTypes().length == 0 ? "" : " throws " + names(m.getExceptionTypes())));
            }
        }
        if (!open.equals(new TreeSet<>(Arrays.asList(FACE)))) {
            System.out.println("the methods are " + open);
        }
        Due.due("the methods are the document's", open.equals(new TreeSet<>(Arrays.asList(FACE))) ? 1 : 0, 1);
        for (Class<?> inside : face.getDeclaredClasses()) {
            Due.due(inside.getSimpleName() + " is static", Modifier.isStatic(inside.getModifiers()) ? 1 : 0, 1);
            Due.due(inside.getSimpleName() + " is public", Modifier.isPublic(inside.getModifiers()) ? 1 : 0, 0);
        }
        for (Field f : face.getDeclaredFields()) {
            boolean none = f.getName().equals("NONE");
            Due.due("the field " + f.getName() + " is private", Modifier.isPrivate(f.getModifiers()) ? 1 : 0, none ? 0 : 1);
        }
        Constructor<?>[] makers = face.getDeclaredConstructors();
        Due.due("constructors", makers.length, 1);
        Due.due("the constructor is public", makers[0].getModifiers(), Modifier.PUBLIC);
        Due.due("NONE", PackedBytes.NONE, -1);
    }

    private static String names(Class<?>[] types) {
        StringBuilder text = new StringBuilder();
        for (Class<?> type : types) {
            text.append(text.length() == 0 ? "" : ",").append(type.getSimpleName());
        }
        return text.toString();
    }

    private static void newObject() {
        PackedBytes x = new PackedBytes();
        Due.due("length()", x.length(), 0);
        Due.due("size()", x.size(), 0);
        Due.due("check()", x.check(), 0);
        Due.dueThrow("byteAt(0)", () -> x.byteAt(0), Due.INDEX);
        Due.dueThrow("alter(0, 0)", () -> x.alter(0, 0), Due.INDEX);
        for (int what = 0; what < 6; what++) {
            Due.due("told before", x.told(what), 0);
        }
        for (int what = 0; what < 3; what++) {
            Due.due("blame before", x.blame(what), 0);
        }
        int[] symbols = {286, 30, 19};
        for (int table = 0; table < 3; table++) {
            for (int s = 0; s < symbols[table]; s++) {
                Due.due("codeLength before", x.codeLength(table, s), 0);
            }
        }
        Due.dueThrow("back() without a product", x::back, 0);
        Due.due("length() then", x.length(), 0);
    }

    private static void objectsApart() {
        PackedBytes x = new PackedBytes();
        PackedBytes y = new PackedBytes();
        x.feed(1, 2, 3, 4, 5);
        x.pack();
        Due.due("the other's length()", y.length(), 0);
        Due.due("the other's size()", y.size(), 0);
        Due.due("the other's told(3)", y.told(3), 0);
        Due.due("the other's codeLength(0, 256)", y.codeLength(0, 256), 0);
    }
}
