import java.lang.reflect.Constructor;
import java.lang.reflect.Field;
import java.lang.reflect.Method;
import java.lang.reflect.Modifier;
import java.util.ArrayList;
import java.util.Arrays;
import java.util.Collections;
import java.util.List;

/** The public face is the document's, and nothing else of the class is seen from outside. */
public final class FaceTest {
    private static final String[] FACE = {
        "int car(int,int,int)",
        "int cell(int,int,boolean) throws ArrayIndexOutOfBoundsException",
        "int change(int,int,boolean) throws ArrayIndexOutOfBoundsException",
        "double error()",
        "boolean exact()",
        "int follow(int,double)",
        "int heading(int) throws ArrayIndexOutOfBoundsException",
        "int keep(int)",
        "int margin(int)",
        "int move(int,int)",
        "int out()",
        "int release(boolean)",
        "int space(int,int)",
        "int stand(int,int,int)",
        "int way(long)",
    };

    private final Check check = new Check();

    public static void main(String[] args) {
        FaceTest test = new FaceTest();
        test.check.begin("the face");
        test.classItself();
        test.methods();
        test.fields();
        test.classesInside();
        test.check.end("FaceTest");
    }

    private void classItself() {
        int modifiers = ParkWays.class.getModifiers();
        check.due("public and final", Modifier.isPublic(modifiers) && Modifier.isFinal(modifiers), true);
        Constructor<?>[] constructors = ParkWays.class.getDeclaredConstructors();
        check.due("constructors", constructors.length, 1);
        check.due("its arguments", Arrays.equals(constructors[0].getParameterTypes(),
                new Class<?>[] {int.class, int.class, int.class}), true);
        check.due("it is public", Modifier.isPublic(constructors[0].getModifiers()), true);
    }

    private void methods() {
        List<String> seen = new ArrayList<>();
        List<String> names = new ArrayList<>();
        for (Method method : ParkWays.class.getDeclaredMethods()) {
            if (method.isSynthetic()) {
                continue;
            }
            if (Modifier.isPrivate(method.getModifiers())) {
                names.add(method.getName());
            } else {
                seen.add(told(method));
                check.due(method.getName() + " is public", Modifier.isPublic(method.getModifiers()), true);
                check.due(method.getName() + " is static", Modifier.isStatic(method.getModifiers()), false);
            }
        }
        Collections.sort(seen);
        List<String> due = new ArrayList<>(Arrays.asList(FACE));
        Collections.sort(due);
        if (!seen.equals(due)) {
            check.tell("the face is " + seen);
        }
        for (String line : FACE) {
            String name = line.substring(line.indexOf(' ') + 1, line.indexOf('('));
            check.due("a private method is named " + name, names.contains(name), false);
        }
    }

    private static String told(Method method) {
        StringBuilder line = new StringBuilder();
        line.append(method.getReturnType().getSimpleName()).append(' ').append(method.getName()).append('(');
        for (int i = 0; i < method.getParameterCount(); i++) {
            line.append(i > 0 ? "," : "").append(method.getParameterTypes()[i].getSimpleName());
        }
        line.append(')');
        for (Class<?> thrown : method.getExceptionTypes()) {
            line.append(" throws ").append(thrown.getSimpleName());
        }
        return line.toString();
    }

    private void fields() {
        for (Field field : ParkWays.class.getDeclaredFields()) {
            int modifiers = field.getModifiers();
            check.due(field.getName() + " is private", Modifier.isPrivate(modifiers), true);
            check.due(field.getName() + ", if static, is final",
                    !Modifier.isStatic(modifiers) || Modifier.isFinal(modifiers), true);
        }
    }

    private void classesInside() {
        for (Class<?> inside : ParkWays.class.getDeclaredClasses()) {
            int modifiers = inside.getModifiers();
            check.due(inside.getSimpleName() + " is hidden",
                    !Modifier.isPublic(modifiers) && !Modifier.isProtected(modifiers), true);
            check.due(inside.getSimpleName() + " is static", Modifier.isStatic(modifiers), true);
        }
    }
}
