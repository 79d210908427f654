import java.lang.reflect.Constructor;
import java.lang.reflect.Field;
import java.lang.reflect.Method;
import java.lang.reflect.Modifier;
import java.util.HashSet;
import java.util.Set;
import java.util.TreeSet;

/** The public face is the document's, no more and no less. */
public final class FaceTest {
    private static final String[] METHODS = {
        "append 1", "clearText 0", "load 0", "crossingCount 0", "circleCount 0", "arcAt 2", "switchCrossing 1",
        "mirror 0", "removeKink 1", "removeBigon 2", "isKink 1", "bigonPartner 1", "componentCount 0", "partCount 0",
        "faceCount 0", "genus 0", "isAlternating 0", "crossingSign 1", "writhe 0", "stateLoops 1", "coefficient 1",
        "normalizedCoefficient 1", "lowestExponent 0", "highestExponent 0", "determinant 0", "colouringDimension 1",
        "undo 0", "undoDepth 0", "save 1", "restore 1"};

    private FaceTest() {
    }

    public static void main(String[] args) {
        constants();
        members();
        Set<String> publicNames = new HashSet<>();
        for (String method : METHODS) {
            publicNames.add(method.substring(0, method.indexOf(' ')));
        }
        privateNames(publicNames);
        insideClasses(publicNames);
        Check.finish();
    }

    private static void constants() {
        Check.due("INVALID_ARGUMENT", KnotDiagram.INVALID_ARGUMENT, -1000001);
        Check.due("ILLEGAL_STATE", KnotDiagram.ILLEGAL_STATE, -1000002);
        Check.due("CAPACITY_EXCEEDED", KnotDiagram.CAPACITY_EXCEEDED, -1000003);
        Check.due("NONE", KnotDiagram.NONE, -1000009);
    }

    private static void members() {
        Check.due("the class's modifiers", KnotDiagram.class.getModifiers(), Modifier.PUBLIC | Modifier.FINAL);
        Set<String> methods = new TreeSet<>();
        for (Method method : KnotDiagram.class.getDeclaredMethods()) {
            if (Modifier.isPrivate(method.getModifiers())) {
                continue;
            }
            methods.add(method.getName() + " " + method.getParameterCount());
            Check.due("modifiers of " + method, method.getModifiers(), Modifier.PUBLIC);
            Check.holds("type of " + method, method.getReturnType() == int.class);
            for (Class<?> type : method.getParameterTypes()) {
                Check.holds("parameters of " + method, type == int.class);
            }
        }
        Check.holds("methods: " + methods, methods.equals(new TreeSet<>(Set.of(METHODS))));
        Set<String> constants = new TreeSet<>();
        for (Field field : KnotDiagram.class.getDeclaredFields()) {
            if (!Modifier.isPrivate(field.getModifiers())) {
                constants.add(field.getName());
                Check.holds("type of " + field, field.getType() == int.class);
                Check.due("modifiers of " + field, field.getModifiers(),
                        Modifier.PUBLIC | Modifier.STATIC | Modifier.FINAL);
            }
        }
        Check.holds("constants: " + constants, constants.equals(new TreeSet<>(
                Set.of("INVALID_ARGUMENT", "ILLEGAL_STATE", "CAPACITY_EXCEEDED", "NONE"))));
        Constructor<?>[] constructors = KnotDiagram.class.getDeclaredConstructors();
        Check.due("constructors", constructors.length, 1);
        Check.due("constructor's modifiers", constructors[0].getModifiers(), Modifier.PUBLIC);
        Check.due("constructor's parameters", constructors[0].getParameterCount(), 0);
    }

    private static void privateNames(Set<String> publicNames) {
        for (Method method : KnotDiagram.class.getDeclaredMethods()) {
            if (Modifier.isPrivate(method.getModifiers())) {
                Check.holds(method + " bears a public name", !publicNames.contains(method.getName()));
            }
        }
    }

    private static void insideClasses(Set<String> publicNames) {
        Class<?>[] classes = KnotDiagram.class.getDeclaredClasses();
        Check.holds("too many classes", classes.length <= 11);
        for (Class<?> inside : classes) {
            Check.holds(inside + " is not static", Modifier.isStatic(inside.getModifiers()));
            Check.holds(inside + " is seen outside",
                    (inside.getModifiers() & (Modifier.PUBLIC | Modifier.PROTECTED)) == 0);
            for (Method method : inside.getDeclaredMethods()) {
                Check.holds(method + " bears a public name", !publicNames.contains(method.getName()));
                Check.holds(method + " has too many parameters", method.getParameterCount() <= 7);
            }
        }
    }
}
