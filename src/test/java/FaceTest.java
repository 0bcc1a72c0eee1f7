import java.lang.reflect.Constructor;
import java.lang.reflect.Field;
import java.lang.reflect.Method;
import java.lang.reflect.Modifier;
import java.util.Arrays;
import java.util.Set;
import java.util.TreeSet;

/** The public face is the document's, and nothing else can be seen of the class. */
public final class FaceTest {
    private static final String[] METHODS = {
        "void load(int,int) throws IndexOutOfBoundsException,IllegalStateException",
        "void boot() throws IllegalStateException",
        "int run(int) throws IllegalArgumentException",
        "int feed(int) throws IllegalStateException",
        "boolean shut()",
        "int time()",
        "int state(int) throws IndexOutOfBoundsException",
        "int about(int,int) throws IndexOutOfBoundsException,IllegalArgumentException,IllegalStateException",
        "int stack(int,int) throws IndexOutOfBoundsException",
        "int memory(int,int) throws IndexOutOfBoundsException",
        "int queue(int) throws IndexOutOfBoundsException",
        "int descriptor(int,int) throws IndexOutOfBoundsException",
        "int pipe(int,int) throws IndexOutOfBoundsException,IllegalArgumentException",
        "int outs()",
        "int out(int) throws IndexOutOfBoundsException",
    };

    public static void main(String[] args) {
        constants();
        members();
        Check.done();
    }

    private static void constants() {
        Check.same("NONE", PipeKernel.NONE, -1);
        Check.same("READY", PipeKernel.READY, 1);
        Check.same("READS", PipeKernel.READS, 2);
        Check.same("WRITES", PipeKernel.WRITES, 3);
        Check.same("WAITS", PipeKernel.WAITS, 4);
        Check.same("SLEEPS", PipeKernel.SLEEPS, 5);
        Check.same("ENDED", PipeKernel.ENDED, 6);
    }

    private static void members() {
        Check.isTrue("the class is final", Modifier.isFinal(PipeKernel.class.getModifiers()));
        Set<String> seen = new TreeSet<>();
        for (Method m : PipeKernel.class.getDeclaredMethods()) {
            if (!Modifier.isPrivate(m.getModifiers()) && !m.isSynthetic()) {
                seen.add(told(m));
            }
        }
        Set<String> due = new TreeSet<>(Arrays.asList(METHODS));
        Check.isTrue("the methods that can be seen " + seen, seen.equals(due));
        Set<String> fields = new TreeSet<>();
        for (Field f : PipeKernel.class.getDeclaredFields()) {
            if (!Modifier.isPrivate(f.getModifiers()) && !f.isSynthetic()) {
                fields.add(f.getName());
            }
        }
        Set<String> constants = Set.of("NONE", "READY", "READS", "WRITES", "WAITS", "SLEEPS", "ENDED");
        Check.isTrue("the fields that can be seen " + fields, fields.equals(constants));
        Constructor<?>[] made = PipeKernel.class.getDeclaredConstructors();
        Check.same("constructors", made.length, 1);
        Check.isTrue("the constructor is public", Modifier.isPublic(made[0].getModifiers()));
    }

    private static String told(Method m) {
        StringBuilder s = new StringBuilder();
        s.append(m.getReturnType()).append(' ').append(m.getName()).append('(');
        s.append(names(m.getParameterTypes())).append(')');
        if (m.getExceptionTypes().length > 0) {
            s.append(" throws ").append(names(m.getExceptionTypes()));
        }
        return s.toString();
    }

    private static String names(Class<?>[] types) {
        StringBuilder s = new StringBuilder();
        for (Class<?> type : types) {
            s.append(s.length() == 0 ? "" : ",").append(type.getSimpleName());
        }
        return s.toString();
    }
}
