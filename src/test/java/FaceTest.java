import java.lang.reflect.Constructor;
import java.lang.reflect.Field;
import java.lang.reflect.Method;
import java.lang.reflect.Modifier;
import java.util.Arrays;
import java.util.TreeSet;

/** The class has the document's face, and beside it nothing that is not private. */
public final class FaceTest {
    private static final String[] METHODS = {
        "int addBox(int, int, int, boolean)"
            + " throws IndexOutOfBoundsException, IllegalArgumentException, IllegalStateException",
        "int toggle(int) throws IndexOutOfBoundsException",
        "int cross(int) throws IndexOutOfBoundsException",
        "int replace(int, int, int)"
            + " throws IndexOutOfBoundsException, IllegalArgumentException, IllegalStateException",
        "int buyFuses(int) throws IllegalArgumentException, IllegalStateException",
        "int hang(int, int, boolean)"
            + " throws IndexOutOfBoundsException, IllegalArgumentException, IllegalStateException",
        "int takeDown(int) throws IndexOutOfBoundsException",
        "int fault(int, int, int)"
            + " throws IndexOutOfBoundsException, IllegalArgumentException, IllegalStateException",
        "int mend(int) throws IndexOutOfBoundsException",
        "int burn(int) throws IllegalArgumentException, IllegalStateException",
        "int append(int) throws IllegalArgumentException, IllegalStateException",
        "int clearBuffer()",
        "int firstError()",
        "int load() throws IllegalArgumentException",
        "int undo() throws IllegalStateException",
        "int box(int, int) throws IndexOutOfBoundsException, IllegalArgumentException",
        "int terminal(int, int, int) throws IndexOutOfBoundsException, IllegalArgumentException",
        "int lantern(int, int) throws IndexOutOfBoundsException, IllegalArgumentException",
        "int faultAt(int, int) throws IndexOutOfBoundsException, IllegalArgumentException",
        "int count(int) throws IllegalArgumentException",
        "int lamp(int) throws IndexOutOfBoundsException",
        "int locate(int) throws IndexOutOfBoundsException",
        "int ifFault(int, int, int, int) throws IndexOutOfBoundsException, IllegalArgumentException",
        "int ifToggled(int) throws IndexOutOfBoundsException",
        "int neededRating(int, int) throws IndexOutOfBoundsException",
        "double lossShare()",
        "long digest()"
    };

    public static void main(String[] args) throws ReflectiveOperationException {
        Check check = new Check("FaceTest");
        check.due("the class's modifiers", ShipLanterns.class.getModifiers(), Modifier.PUBLIC | Modifier.FINAL);
        TreeSet<String> wanted = new TreeSet<>(Arrays.asList(METHODS));
        TreeSet<String> names = new TreeSet<>();
        for (Method method : ShipLanterns.class.getDeclaredMethods()) {
            String said = said(method);
            if (Modifier.isPublic(method.getModifiers())) {
                check.due("public " + said + " stands in the document", wanted.remove(said) ? 1 : 0, 1);
                check.due(said + " is no static method", method.getModifiers() & Modifier.STATIC, 0);
                names.add(method.getName());
            }
        }
        check.due("methods that are missing: " + wanted + "; their number", wanted.size(), 0);
        for (Method method : ShipLanterns.class.getDeclaredMethods()) {
            if (!Modifier.isPublic(method.getModifiers()) && !method.isSynthetic()) {
                check.due(method + " is private", method.getModifiers() & Modifier.PRIVATE, Modifier.PRIVATE);
                check.due(method + " bears a public name", names.contains(method.getName()) ? 1 : 0, 0);
            }
        }
        Constructor<?>[] constructors = ShipLanterns.class.getDeclaredConstructors();
        check.due("constructors", constructors.length, 1);
        check.due("parameters of the constructor", constructors[0].getParameterCount(), 0);
        check.due("the constructor's modifiers", constructors[0].getModifiers(), Modifier.PUBLIC);
        for (Field field : ShipLanterns.class.getDeclaredFields()) {
            boolean none = field.getName().equals("NONE");
            check.due(field + " is public", field.getModifiers() & Modifier.PUBLIC, none ? Modifier.PUBLIC : 0);
            check.due(field + " is private", field.getModifiers() & Modifier.PRIVATE, none ? 0 : Modifier.PRIVATE);
        }
        Field none = ShipLanterns.class.getField("NONE");
        check.due("NONE's modifiers", none.getModifiers(), Modifier.PUBLIC | Modifier.STATIC | Modifier.FINAL);
        check.due("NONE", none.getInt(null), -1);
        check.end();
    }

    private static String said(Method method) {
        StringBuilder thrown = new StringBuilder();
        for (Class<?> kind : method.getExceptionTypes()) {
            thrown.append(thrown.length() == 0 ? " throws " : ", ").append(kind.getSimpleName());
        }
        String types = Arrays.toString(method.getParameterTypes());
        return method.getReturnType() + " " + method.getName() + "(" + types.substring(1, types.length() - 1) + ")"
                + thrown;
    }
}
