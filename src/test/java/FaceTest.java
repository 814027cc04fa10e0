import java.lang.reflect.Constructor;
import java.lang.reflect.Field;
import java.lang.reflect.Method;
import java.lang.reflect.Modifier;
import java.util.Arrays;
import java.util.TreeSet;

/** The public face: the document's members, and no other that is not private. */
public final class FaceTest {
    private static final String[] METHODS = {
        "int feed(int,int,int,int,int)", "int put(int,int)", "int cut(int)", "int read(int)",
        "int entry(int)", "int last(int)", "int kind(int)", "int value(int)", "int byteAt(int,int)",
        "int child(int,int,boolean)", "int find(int,int)", "boolean alike(int,int)",
        "int write(int)", "int written(int)", "int rewind()", "int drop(int)", "int count(int)"};
    private static final String[] CONSTANTS = {
        "NONE=-1", "ENDED=-1", "TOKEN=-2", "STRING=-3", "NAME=-4", "KEY=-5", "DEEP=-6", "FULL=-7",
        "STREAM=-8", "HEAD=-9", "BODY=-10"};

    public static void main(String[] args) throws IllegalAccessException {
        Bench bench = new Bench();
        bench.due("public final", SheetObjects.class.getModifiers(), Modifier.PUBLIC | Modifier.FINAL);
        bench.due("methods", methods().toString(), sorted(METHODS));
        bench.due("constants", constants().toString(), sorted(CONSTANTS));
        Constructor<?>[] constructors = SheetObjects.class.getDeclaredConstructors();
        bench.due("constructors", constructors.length, 1);
        bench.due("its parameters", constructors[0].getParameterCount(), 0);
        bench.due("it is public", constructors[0].getModifiers(), Modifier.PUBLIC);
        for (Class<?> inside : SheetObjects.class.getDeclaredClasses()) {
            bench.due(inside.getName() + " is static", Modifier.isStatic(inside.getModifiers()), true);
        }
        bench.end();
    }

    private static TreeSet<String> methods() {
        TreeSet<String> found = new TreeSet<>();
        for (Method method : SheetObjects.class.getDeclaredMethods()) {
            if (!Modifier.isPrivate(method.getModifiers())) {
                StringBuilder text = new StringBuilder();
                for (Class<?> parameter : method.getParameterTypes()) {
                    text.append(text.length() > 0 ? "," : "").append(parameter.getName());
                }
                found.add(method.getReturnType() + " " + method.getName() + "(" + text + ")");
            }
        }
        return found;
    }

    private static TreeSet<String> constants() throws IllegalAccessException {
        TreeSet<String> found = new TreeSet<>();
        for (Field field : SheetObjects.class.getDeclaredFields()) {
            if (!Modifier.isPrivate(field.getModifiers())) {
                found.add(field.getName() + "=" + field.getInt(null));
            }
        }
        return found;
    }

    private static String sorted(String[] texts) {
        return new TreeSet<>(Arrays.asList(texts)).toString();
    }
}
