import java.lang.reflect.Constructor;
import java.lang.reflect.Field;
import java.lang.reflect.Method;
import java.lang.reflect.Modifier;
import java.util.Arrays;
import java.util.TreeSet;

/** The public face of StripeDisk is the document's, and nothing of the class can be seen beside it. */
public final class Face {
    private static final String[] DUE = {
        "BAD", "OFF", "MANY", "StripeDisk()",
        "lay(int,int)", "write(int,int,int,int)", "read(int,int)", "commit(int,long)", "forget()", "lose(int)",
        "replace(int)", "rot(int,int)", "fill(int,int,long)", "scrub(int,int,long)", "mount(int,long)", "fail()",
        "check()", "gone(int)", "status(int)", "count(int)"
    };

    public static void main(String[] args) {
        TreeSet<String> seen = new TreeSet<>();
        boolean right = Modifier.isFinal(StripeDisk.class.getModifiers()) && Modifier.isPublic(StripeDisk.class.getModifiers());
        for (Field field : StripeDisk.class.getDeclaredFields()) {
            if (!Modifier.isPrivate(field.getModifiers())) {
                seen.add(field.getName());
                right &= field.getType() == int.class && field.getModifiers() == (Modifier.PUBLIC | Modifier.STATIC | Modifier.FINAL);
            }
        }
        for (Constructor<?> constructor : StripeDisk.class.getDeclaredConstructors()) {
            if (!Modifier.isPrivate(constructor.getModifiers())) {
                seen.add("StripeDisk" + types(constructor.getParameterTypes()));
                right &= constructor.getModifiers() == Modifier.PUBLIC;
            }
        }
        for (Method method : StripeDisk.class.getDeclaredMethods()) {
            if (!Modifier.isPrivate(method.getModifiers())) {
                seen.add(method.getName() + types(method.getParameterTypes()));
                right &= method.getReturnType() == int.class && method.getModifiers() == Modifier.PUBLIC;
            }
        }
        right &= seen.equals(new TreeSet<>(Arrays.asList(DUE)));
        System.out.println(right ? "the face is the document's" : "the face is not the document's: " + seen);
        if (!right) {
            System.exit(1);
        }
    }

    private static String types(Class<?>[] parameters) {
        StringBuilder text = new StringBuilder("(");
        for (int i = 0; i < parameters.length; i++) {
            text.append(i == 0 ? "" : ",").append(parameters[i].getName());
        }
        return text.append(")").toString();
    }
}
