import java.lang.reflect.Field;
import java.lang.reflect.Method;
import java.lang.reflect.Modifier;
import java.util.Set;
import java.util.TreeSet;

/** The public face of the document, and rules 1 and 5 of LANGUAGE.md on the members. */
public final class FaceTest {
    private static final Set<String> FACE = Set.of(
            "int size()", "int times(int,int)", "int over(int,int)", "int encode(int,int)",
            "int put(int,int)", "int symbol(int)", "int disturb(int,int)", "int rank()",
            "int distance(int,int)", "int errors()", "int message(int)", "int correct()",
            "boolean clean()", "int coverings()", "int census(int)");

    public static void main(String[] args) throws Exception {
        Class<RankMetricCode> type = RankMetricCode.class;
        Check.due("the class's modifiers", type.getModifiers(), Modifier.PUBLIC | Modifier.FINAL);
        Check.due("nested classes", type.getDeclaredClasses().length, 0);
        Check.due("constructors", type.getDeclaredConstructors().length, 1);
        Check.due("RankMetricCode(int) is public",
                Modifier.isPublic(type.getDeclaredConstructor(int.class).getModifiers()), true);
        methods(type);
        fields(type);
        Check.end();
    }

    private static void methods(Class<?> type) {
        Set<String> seen = new TreeSet<>();
        Set<String> names = new TreeSet<>();
        for (Method method : type.getDeclaredMethods()) {
            Check.due("one method alone is named " + method.getName(), names.add(method.getName()), true);
            if (Modifier.isPrivate(method.getModifiers())) {
                Check.due(method + " is private, perhaps static, and nothing more",
                        method.getModifiers() & ~Modifier.STATIC, Modifier.PRIVATE);
            } else {
                Check.due(method + " is public and nothing more", method.getModifiers(), Modifier.PUBLIC);
                seen.add(face(method));
            }
        }
        Check.due("the methods are the document's: " + seen, seen.equals(FACE), true);
    }

    private static String face(Method method) {
        StringBuilder text = new StringBuilder(method.getReturnType() + " " + method.getName() + "(");
        for (int i = 0; i < method.getParameterCount(); i++) {
            text.append(i == 0 ? "" : ",").append(method.getParameterTypes()[i]);
        }
        return text + ")";
    }

    private static void fields(Class<?> type) {
        Set<String> open = new TreeSet<>();
        for (Field field : type.getDeclaredFields()) {
            int modifiers = field.getModifiers();
            if (Modifier.isStatic(modifiers)) {
                Check.due(field + " is an int constant",
                        Modifier.isFinal(modifiers) && field.getType() == int.class, true);
            }
            if (!Modifier.isPrivate(modifiers)) {
                Check.due(field + " is public", Modifier.isPublic(modifiers), true);
                open.add(field.getName());
            }
        }
        Check.due("the fields that are not private are BAD_ARG and NONE: " + open,
                open.equals(Set.of("BAD_ARG", "NONE")), true);
    }
}
