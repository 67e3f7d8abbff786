import java.lang.reflect.Constructor;
import java.lang.reflect.Field;
import java.lang.reflect.Method;
import java.lang.reflect.Modifier;
import java.util.Arrays;
import java.util.Set;
import java.util.TreeSet;

// The class shows the document's public face and nothing else (LANGUAGE.md, rules 1, 2 and 5).
public final class FaceTests {
    private static final String[] FACE = {
        "push/1", "pop/1", "draw/3", "set/2", "reverse/0", "turn/1", "moves/0", "moveAt/1",
        "pointX/1", "pointY/1", "straight/2", "reach/1", "reachBack/1", "pieces/0", "pieceEnd/1",
        "fewest/2", "longest/0", "maximal/0"};

    private static int wrong = 0;

    public static void main(String[] args) {
        checkClass();
        checkMethods();
        checkFields();
        System.out.println(wrong == 0 ? "the face is as due" : wrong + " faults in the face");
        if (wrong != 0) {
            System.exit(1);
        }
    }

    private static void due(String what, boolean holds) {
        if (!holds) {
            wrong++;
            System.out.println("does not hold: " + what);
        }
    }

    private static void checkClass() {
        int modifiers = DigitalLine.class.getModifiers();
        due("the class is public and final", Modifier.isPublic(modifiers) && Modifier.isFinal(modifiers));
        due("the class has no nested class", DigitalLine.class.getDeclaredClasses().length == 0);
        due("the class has no package", DigitalLine.class.getPackageName().isEmpty());
        Constructor<?>[] constructors = DigitalLine.class.getDeclaredConstructors();
        due("there is one constructor", constructors.length == 1);
        due("it is public and takes nothing",
            Modifier.isPublic(constructors[0].getModifiers()) && constructors[0].getParameterCount() == 0);
    }

    private static void checkMethods() {
        Set<String> face = new TreeSet<>(Arrays.asList(FACE));
        Set<String> publicNames = new TreeSet<>();
        Set<String> privateNames = new TreeSet<>();
        Set<String> shown = new TreeSet<>();
        for (Method method : DigitalLine.class.getDeclaredMethods()) {
            due(method.getName() + " takes at most seven parameters", method.getParameterCount() <= 7);
            if (Modifier.isPrivate(method.getModifiers())) {
                privateNames.add(method.getName());
                continue;
            }
            due(method.getName() + " is public and not static",
                Modifier.isPublic(method.getModifiers()) && !Modifier.isStatic(method.getModifiers()));
            due(method.getName() + " answers an int", method.getReturnType() == int.class);
            for (Class<?> type : method.getParameterTypes()) {
                due(method.getName() + " takes ints", type == int.class);
            }
            publicNames.add(method.getName());
            shown.add(method.getName() + "/" + method.getParameterCount());
        }
        due("the public methods " + shown + " are those of the document", shown.equals(face));
        privateNames.retainAll(publicNames);
        due("no private method bears the name of a public one: " + privateNames, privateNames.isEmpty());
    }

    private static void checkFields() {
        for (Field field : DigitalLine.class.getDeclaredFields()) {
            due(field.getName() + " is private", Modifier.isPrivate(field.getModifiers()));
            Class<?> type = field.getType();
            due(field.getName() + " is of a number type or an array of one",
                type.isPrimitive() || (type.isArray() && type.getComponentType().isPrimitive()));
            if (Modifier.isStatic(field.getModifiers())) {
                due(field.getName() + " is an int or long constant",
                    Modifier.isFinal(field.getModifiers()) && (type == int.class || type == long.class));
            }
        }
    }
}
