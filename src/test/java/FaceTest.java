import java.lang.reflect.Field;
import java.lang.reflect.Method;
import java.lang.reflect.Modifier;
import java.util.Arrays;
import java.util.TreeSet;

/** The public face: what the document tells, and no other member that can be seen from outside. */
public final class FaceTest {
    private static final String FACE = "[boolean begin(int,int), boolean gate(int,int,int,int), boolean open(int), int halves(), "
            + "int reduce(), int rule(int,int), int term(int), int total(int), int wire(int,int), long value(int,int,int)]";

    private static final String VALUE_THROWS = "[java.lang.ArithmeticException, java.util.NoSuchElementException]";

    public static void main(String[] args) {
        Checks checks = new Checks();
        TreeSet<String> methods = new TreeSet<>();
        TreeSet<String> publicNames = new TreeSet<>();
        TreeSet<String> privateNames = new TreeSet<>();
        for (Method m : PathSums.class.getDeclaredMethods()) {
            if (Modifier.isPrivate(m.getModifiers())) {
                privateNames.add(m.getName());
            } else {
                publicNames.add(m.getName());
                String types = String.join(",", Arrays.stream(m.getParameterTypes()).map(Class::getName).toList());
                methods.add(m.getReturnType().getName() + " " + m.getName() + "(" + types + ")");
                checks.due(m.getName() + " is public and not static", m.getModifiers() == Modifier.PUBLIC, true);
            }
        }
        checks.due("methods", methods.toString(), FACE);
        privateNames.retainAll(publicNames);
        checks.due("private methods with public names", privateNames.toString(), "[]");
        for (Field f : PathSums.class.getDeclaredFields()) {
            boolean seen = f.getModifiers() == (Modifier.PUBLIC | Modifier.STATIC | Modifier.FINAL) && f.getName().equals("NONE");
            checks.due("field " + f.getName(), seen || Modifier.isPrivate(f.getModifiers()), true);
        }
        for (Method m : PathSums.class.getMethods()) {
            if (m.getDeclaringClass() == PathSums.class) {
                TreeSet<String> declared = new TreeSet<>();
                for (Class<?> exception : m.getExceptionTypes()) {
                    declared.add(exception.getName());
                }
                checks.due(m.getName() + " throws", declared.toString(), m.getName().equals("value") ? VALUE_THROWS : "[]");
            }
        }
        checks.due("NONE", PathSums.NONE, -1);
        checks.due("the class", PathSums.class.getModifiers() == (Modifier.PUBLIC | Modifier.FINAL), true);
        checks.due("constructors", PathSums.class.getDeclaredConstructors().length, 1);
        checks.end();
    }
}
