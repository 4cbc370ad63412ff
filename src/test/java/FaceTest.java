import java.lang.reflect.Constructor;
import java.lang.reflect.Field;
import java.lang.reflect.Method;
import java.lang.reflect.Modifier;
import java.util.Arrays;
import java.util.Set;
import java.util.TreeSet;

/** The public face: the constant, the constructor and the methods of the document, and no other member that shows. */
public final class FaceTest {
    private static final String[] FACE = {"int key(int, int)", "int vertex(int, int)", "int there(int)",
        "int ceiling(int)", "int terms(int, int)", "int feed(int, int, int, int, int)", "int end(int)", "int row()",
        "int blanks()", "int law()", "int orders()", "int fault()", "int stopped()", "int force(int)", "int add(int)",
        "int take(int)", "int side(int)", "int seed(int)", "int build()", "int undo()", "int core(int)",
        "int peeled(int, int)", "int good(int)", "int leastSide()", "int found(int, int)", "int table(int)",
        "int twin(int)", "int seen(int, int)", "int forget()", "int canBe(int)", "int ask(int)", "long few(int, int)",
        "int compare(int, int)", "int years(int, int)", "int drawn(int)", "int image(int)", "int back(int)",
        "int count(int)", "int status()"};

    public static void main(String[] args) {
        Checks checks = new Checks();
        Set<String> due = new TreeSet<>(Arrays.asList(FACE));
        Set<String> names = new TreeSet<>();
        Arrays.stream(FACE).forEach(one -> names.add(one.substring(one.indexOf(' ') + 1, one.indexOf('('))));
        Set<String> got = new TreeSet<>();
        for (Method method : PeeledHash.class.getDeclaredMethods()) {
            int modifiers = method.getModifiers();
            if (!Modifier.isPrivate(modifiers)) {
                got.add(method.getReturnType() + " " + method.getName() + parameters(method.getParameterTypes()));
                checks.due(method.getName() + " is static", Modifier.isStatic(modifiers) ? 1 : 0, 0);
            } else {
                checks.due("a private " + method.getName(), names.contains(method.getName()) ? 1 : 0, 0);
            }
        }
        checks.due("the methods " + got, got.equals(due) ? 1 : 0, 1);
        for (Field field : PeeledHash.class.getDeclaredFields()) {
            boolean isPrivate = Modifier.isPrivate(field.getModifiers());
            checks.due("field " + field.getName(), isPrivate || field.getName().equals("NONE") ? 1 : 0, 1);
        }
        checks.due("NONE", PeeledHash.NONE, -1);
        Constructor<?>[] constructors = PeeledHash.class.getDeclaredConstructors();
        checks.due("constructors", constructors.length, 1);
        checks.due("public, without parameters",
                Modifier.isPublic(constructors[0].getModifiers()) ? constructors[0].getParameterCount() : -1, 0);
        checks.due("final", Modifier.isFinal(PeeledHash.class.getModifiers()) ? 1 : 0, 1);
        checks.due("classes inside", PeeledHash.class.getDeclaredClasses().length <= 11 ? 1 : 0, 1);
        fields(checks, PeeledHash.class);
        for (Class<?> inner : PeeledHash.class.getDeclaredClasses()) {
            fields(checks, inner);
            checks.due(inner.getName() + " is not public", Modifier.isPublic(inner.getModifiers()) ? 1 : 0, 0);
            checks.due(inner.getName() + " is static", Modifier.isStatic(inner.getModifiers()) ? 1 : 0, 1);
            for (Method method : inner.getDeclaredMethods()) {
                checks.due(inner.getName() + "." + method.getName(), names.contains(method.getName()) ? 1 : 0, 0);
            }
        }
        checks.finish("FaceTest");
    }

    /** Rules 5 and 11 of ../shared/LANGUAGE.md. */
    private static void fields(Checks checks, Class<?> one) {
        int fields = 0;
        for (Field field : one.getDeclaredFields()) {
            if (!Modifier.isStatic(field.getModifiers())) {
                fields++;
            } else {
                checks.due(one.getName() + "." + field.getName() + " is final", Modifier.isFinal(field.getModifiers()) ? 1 : 0, 1);
            }
        }
        checks.due("some twenty fields of " + one.getName() + ": " + fields, fields <= 20 ? 1 : 0, 1);
    }

    private static String parameters(Class<?>[] types) {
        StringBuilder all = new StringBuilder("(");
        for (Class<?> type : types) {
            all.append(all.length() > 1 ? ", " : "").append(type);
        }
        return all.append(")").toString();
    }
}
