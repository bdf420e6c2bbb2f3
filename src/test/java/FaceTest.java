import java.lang.reflect.Constructor;
import java.lang.reflect.Field;
import java.lang.reflect.Method;
import java.lang.reflect.Modifier;
import java.util.Arrays;
import java.util.Set;
import java.util.TreeSet;

/** The public face: the document's constants, constructor and methods, and nothing beside them. */
public final class FaceTest extends Check {
    private static final String[] CONSTANTS = {"NONE", "UNKNOWN", "NOT", "OUTSIDE", "INVALID", "ACCESS", "EXISTS", "ABSENT",
        "FULL", "PENDING", "AGAIN", "NOMESSAGE", "TOOBIG", "GONE", "RANGE", "CUTOFF"};
    private static final String[] METHODS = {
        "int process(int,int)", "int exit(int)", "int signal(int)", "int result(int)", "int area(int,int,int)",
        "int areaAt(int,int)", "long taken(int)", "int queue(int,int,int)", "int set(int,int,int,int)",
        "int remove(int,int,int)", "int own(int,int,int,int,int,int)", "int room(int,int,int)",
        "int send(int,int,long,int,boolean)", "int take(int,int,int,long,int)", "int step(int,int,int,int)",
        "int steps(int,int)", "int value(int,int,int,int)", "int queueOf(int,int)", "long message(int,int,int)",
        "int setOf(int,int)", "int counter(int,int,int)", "int undo(int,int,int)", "int count(int)"};

    public static void main(String[] args) throws IllegalAccessException {
        Class<?> face = QueuesAndGates.class;
        due("public final", face.getModifiers() & (Modifier.PUBLIC | Modifier.FINAL), Modifier.PUBLIC | Modifier.FINAL);
        constants(face);
        methods(face);
        Constructor<?>[] constructors = face.getDeclaredConstructors();
        due("constructors", constructors.length, 1);
        due("its parameters", constructors[0].getParameterCount(), 0);
        due("it is public", constructors[0].getModifiers(), Modifier.PUBLIC);
        end();
    }

    private static void constants(Class<?> face) throws IllegalAccessException {
        Set<String> found = new TreeSet<>();
        for (Field field : face.getDeclaredFields()) {
            if (!Modifier.isPrivate(field.getModifiers())) {
                found.add(field.getName());
                due(field + " is public", field.getModifiers(), Modifier.PUBLIC | Modifier.STATIC | Modifier.FINAL);
                due(field.getName(), field.getInt(null), -1 - Arrays.asList(CONSTANTS).indexOf(field.getName()));
            }
        }
        due("all constants: " + found, found.equals(Set.of(CONSTANTS)) ? 1 : 0, 1);
    }

    private static void methods(Class<?> face) {
        Set<String> found = new TreeSet<>();
        Set<String> names = new TreeSet<>();
        for (Method method : face.getDeclaredMethods()) {
            if (!Modifier.isPrivate(method.getModifiers())) {
                String types = Arrays.stream(method.getParameterTypes()).map(Class::getName).reduce((a, b) -> a + "," + b).orElse("");
                found.add(method.getReturnType() + " " + method.getName() + "(" + types + ")");
                names.add(method.getName());
                due(method + " is public", method.getModifiers(), Modifier.PUBLIC);
            }
        }
        due("all methods: " + found, found.equals(Set.of(METHODS)) ? 1 : 0, 1);
        for (Method method : face.getDeclaredMethods()) {
            boolean isHidden = Modifier.isPrivate(method.getModifiers()) && names.contains(method.getName());
            due(method + " has a name of its own", isHidden ? 1 : 0, 0);
        }
    }
}
