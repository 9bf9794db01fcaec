import java.lang.reflect.Constructor;
import java.lang.reflect.Field;
import java.lang.reflect.Method;
import java.lang.reflect.Modifier;
import java.util.Arrays;
import java.util.Set;
import java.util.TreeSet;

/** The public face of the document; LANGUAGE.md's rules 1, 5, 11: no other member can be seen, nothing static moves. */
public final class FaceTest {
    private static final String[] METHODS = {
        "int host(int)", "int talk(int, int, int, int, int)", "boolean must(int, int, int, boolean)",
        "boolean bar(int, int, int, boolean)", "boolean law(int, int, boolean)", "boolean prices(int, int)",
        "int weight(int, int, int, int)", "int needed(int, int, int, int)", "int plan(int)", "int room(int)",
        "int rule(int, int)", "int lets(int, int, int)", "int reach(int)", "int spread(int)", "int shut(int)",
        "int shutting(int)", "int odd(int)", "int oddTalk(int, int)", "int place(int, int)", "int count(int)",
    };

    public static void main(String[] args) {
        Due due = new Due();
        due.yes("the class is public and final",
            Modifier.isPublic(WallPlanner.class.getModifiers()) && Modifier.isFinal(WallPlanner.class.getModifiers()));
        due.is("NONE", WallPlanner.NONE, -1);
        methods(due);
        fields(due, WallPlanner.class);
        Constructor<?>[] constructors = WallPlanner.class.getDeclaredConstructors();
        due.is("constructors", constructors.length, 1);
        due.yes("the constructor is public", Modifier.isPublic(constructors[0].getModifiers()));
        for (Class<?> inside : WallPlanner.class.getDeclaredClasses()) {
            due.yes(inside + " is static", Modifier.isStatic(inside.getModifiers()));
            due.no(inside + " is public", Modifier.isPublic(inside.getModifiers()));
            fields(due, inside);
            namesInside(due, inside);
        }
        due.end();
    }

    private static void methods(Due due) {
        Set<String> seen = new TreeSet<>();
        Set<String> names = new TreeSet<>();
        for (Method method : WallPlanner.class.getDeclaredMethods()) {
            if (!Modifier.isPrivate(method.getModifiers())) {
                seen.add(written(method));
                names.add(method.getName());
            }
        }
        Set<String> want = new TreeSet<>(Arrays.asList(METHODS));
        due.yes("methods that can be seen: " + seen + ", due are " + want, seen.equals(want));
        for (Method method : WallPlanner.class.getDeclaredMethods()) {
            boolean hidden = Modifier.isPrivate(method.getModifiers());
            due.no(method + " bears the name of a public one", hidden && names.contains(method.getName()));
        }
    }

    private static void namesInside(Due due, Class<?> inside) {
        for (Method method : inside.getDeclaredMethods()) {
            for (Method other : WallPlanner.class.getMethods()) {
                boolean own = other.getDeclaringClass() == WallPlanner.class;
                due.no(method + " bears the name of a public one", own && other.getName().equals(method.getName()));
            }
        }
    }

    private static String written(Method method) {
        StringBuilder text = new StringBuilder(method.getReturnType().getName());
        text.append(' ').append(method.getName()).append('(');
        String between = "";
        for (Class<?> type : method.getParameterTypes()) {
            text.append(between).append(type.getName());
            between = ", ";
        }
        return text.append(')').toString();
    }

    private static void fields(Due due, Class<?> owner) {
        int own = 0;
        for (Field field : owner.getDeclaredFields()) {
            int modifiers = field.getModifiers();
            own += Modifier.isStatic(modifiers) ? 0 : 1;
            boolean isNone = field.getName().equals("NONE") && Modifier.isPublic(modifiers);
            due.yes(field + " is private, or NONE", isNone || Modifier.isPrivate(modifiers));
            due.yes(field + " is final if static", !Modifier.isStatic(modifiers) || Modifier.isFinal(modifiers));
        }
        due.yes(owner + " has some twenty fields at most", own <= 20);
    }
}
