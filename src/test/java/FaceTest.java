import java.lang.reflect.Constructor;
import java.lang.reflect.Field;
import java.lang.reflect.Method;
import java.lang.reflect.Modifier;
import java.util.Arrays;
import java.util.TreeSet;

/** The public face is the document's, and the class keeps no static state. */
public final class FaceTest {
    private static final String[] METHODS = {
        "add(int) int", "back() int", "block(int,int,int) int", "by(int,int,int) int",
        "carry(int,int,int) int", "count(int) int", "element(int,int) int", "group(int) int",
        "has(int) int", "is(int,int,int) int", "lay(int) int", "made(int,int) int",
        "of(int,int,int) int", "orbit(int,int) int", "place(int) int", "points(int) int",
        "power(int) int", "size(int) int", "steps(int) int", "still(int,int) int", "take(int) int",
        "then(int) int", "to(int) int", "told() long", "turn(long) int", "undo() int"
    };
    private static int wrong = 0;

    private static void due(String what, Object got, Object want) {
        if (!got.equals(want)) {
            wrong++;
            System.out.println(what + " is " + got + ", due is " + want);
        }
    }

    private static String face(Method method) {
        StringBuilder text = new StringBuilder(method.getName()).append('(');
        for (Class<?> type : method.getParameterTypes()) {
            text.append(text.charAt(text.length() - 1) == '(' ? "" : ",").append(type.getName());
        }
        return text.append(") ").append(method.getReturnType().getName()).toString();
    }

    private static void fieldsAreDue(Class<?> owner) {
        for (Field field : owner.getDeclaredFields()) {
            int modifiers = field.getModifiers();
            String name = field.getName();
            boolean constant = Arrays.asList("NONE", "BAD", "FULL").contains(name);
            due(name + " public", Modifier.isPublic(modifiers), constant);
            due(name + " private", Modifier.isPrivate(modifiers), !constant);
            if (Modifier.isStatic(modifiers)) {
                due(name + " final", Modifier.isFinal(modifiers), true);
            }
        }
    }

    public static void main(String[] args) {
        Class<TurnGroups> face = TurnGroups.class;
        due("modifiers", face.getModifiers(), Modifier.PUBLIC | Modifier.FINAL);
        TreeSet<String> shown = new TreeSet<>();
        TreeSet<String> shownNames = new TreeSet<>();
        TreeSet<String> hiddenNames = new TreeSet<>();
        for (Method method : face.getDeclaredMethods()) {
            if (Modifier.isPrivate(method.getModifiers())) {
                hiddenNames.add(method.getName());
            } else {
                shown.add(face(method));
                shownNames.add(method.getName());
            }
        }
        due("methods", shown, new TreeSet<>(Arrays.asList(METHODS)));
        hiddenNames.retainAll(shownNames);
        due("private methods with a public name", hiddenNames, new TreeSet<String>());
        Constructor<?>[] makers = face.getDeclaredConstructors();
        due("constructors", makers.length, 1);
        due("constructor's parameters", makers[0].getParameterCount(), 0);
        due("constructor public", Modifier.isPublic(makers[0].getModifiers()), true);
        fieldsAreDue(face);
        for (Class<?> inside : face.getDeclaredClasses()) {
            fieldsAreDue(inside);
            due(inside + " static", Modifier.isStatic(inside.getModifiers()), true);
        }
        due("NONE", TurnGroups.NONE, -1);
        due("BAD", TurnGroups.BAD, -2);
        due("FULL", TurnGroups.FULL, -3);
        System.out.println(wrong == 0 ? "the face is as due" : wrong + " parts of the face are not as due");
        if (wrong != 0) {
            System.exit(1);
        }
    }
}
