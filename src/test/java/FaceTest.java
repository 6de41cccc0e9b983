import java.lang.reflect.Constructor;
import java.lang.reflect.Executable;
import java.lang.reflect.Field;
import java.lang.reflect.Method;
import java.lang.reflect.Modifier;
import java.util.Set;
import java.util.StringJoiner;
import java.util.TreeSet;

// The class has the public face that the document lists, and shows nothing else.
public final class FaceTest extends Checks {
    private static final String PLACE = "The public face";

    private static String parameters(Executable member) {
        StringJoiner types = new StringJoiner(", ", "(", ");");
        for (Class<?> type : member.getParameterTypes()) {
            types.add(type.getSimpleName());
        }
        return types.toString();
    }

    private static Set<String> documented() {
        Set<String> face = new TreeSet<>();
        for (String line : Document.section(PLACE).split("\n")) {
            if (line.endsWith(";")) {
                // A class file doesn't keep the parameters' names.
                face.add(line.trim().replaceAll("(\\w+) \\w+([,)])", "$1$2"));
            }
        }
        return face;
    }

    private static void addIfSeen(Set<String> face, int modifiers, String member) {
        if (!Modifier.isPrivate(modifiers)) {
            String shown = Modifier.toString(modifiers);
            face.add(shown.isEmpty() ? member : shown + " " + member);
        }
    }

    private static Set<String> built() throws IllegalAccessException {
        Set<String> face = new TreeSet<>();
        for (Field field : TokenSuite.class.getDeclaredFields()) {
            if (!Modifier.isPrivate(field.getModifiers())) {
                String value = Modifier.isStatic(field.getModifiers()) ? " = " + field.get(null) : "";
                addIfSeen(face, field.getModifiers(),
                        field.getType().getSimpleName() + " " + field.getName() + value + ";");
            }
        }
        for (Constructor<?> made : TokenSuite.class.getDeclaredConstructors()) {
            addIfSeen(face, made.getModifiers(), "TokenSuite" + parameters(made));
        }
        for (Method method : TokenSuite.class.getDeclaredMethods()) {
            addIfSeen(face, method.getModifiers(),
                    method.getReturnType().getSimpleName() + " " + method.getName() + parameters(method));
        }
        return face;
    }

    public static void main(String[] args) throws IllegalAccessException {
        Set<String> face = built();
        sentence(PLACE, "public final class TokenSuite", () -> {
            due("the class", Modifier.toString(TokenSuite.class.getModifiers()), "public final");
            due("number of members in the document", documented().size(), 28);
            due("members", face.toString(), documented().toString());
        });
        end();
    }
}
