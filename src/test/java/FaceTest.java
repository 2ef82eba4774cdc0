import java.lang.reflect.Constructor;
import java.lang.reflect.Field;
import java.lang.reflect.Method;
import java.lang.reflect.Modifier;
import java.util.Set;
import java.util.TreeSet;

/** The public face: what the document names is there, and nothing else can be seen. */
public final class FaceTest {
    private static final Set<String> METHODS = Set.of("boolean set(int, int, int)", "int fill(int, int, int, int)",
        "int pixel(int, int)", "int put()", "int byteAt(int)", "int filter(int)", "int count(int)");

    public static void main(String[] args) {
        Class<?> face = PicturePacker.class;
        Due.is("public and final", Modifier.isPublic(face.getModifiers()) && Modifier.isFinal(face.getModifiers()),
            true);
        Set<String> seen = new TreeSet<>();
        for (Method method : face.getDeclaredMethods()) {
            if (!Modifier.isPrivate(method.getModifiers())) {
                seen.add(written(method));
                Due.is(method + " is public", Modifier.isPublic(method.getModifiers()), true);
                Due.is(method + " is of the object", Modifier.isStatic(method.getModifiers()), false);
            }
        }
        Due.is("methods " + seen, seen.equals(METHODS), true);
        for (Field field : face.getDeclaredFields()) {
            boolean open = !Modifier.isPrivate(field.getModifiers());
            Due.is(field + " is open", open, field.getName().equals("NONE"));
        }
        Constructor<?>[] makers = face.getDeclaredConstructors();
        Due.is("constructors", makers.length, 1);
        Due.is("constructor is public", Modifier.isPublic(makers[0].getModifiers()), true);
        Due.end();
    }

    private static String written(Method method) {
        StringBuilder text = new StringBuilder();
        text.append(method.getReturnType()).append(' ').append(method.getName()).append('(');
        for (Class<?> type : method.getParameterTypes()) {
            text.append(text.charAt(text.length() - 1) == '(' ? "" : ", ").append(type);
        }
        return text.append(')').toString();
    }
}
