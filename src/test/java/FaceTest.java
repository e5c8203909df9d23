import java.lang.reflect.Constructor;
import java.lang.reflect.Field;
import java.lang.reflect.Method;
import java.lang.reflect.Modifier;
import java.util.Arrays;
import java.util.TreeSet;

/** The public face, and promise 1: a new object. */
public final class FaceTest {
    private static final String[] FACE = {
        "boolean order(int, int, int)", "boolean word(int, int, short)", "boolean card(short)",
        "boolean start(int, int)", "int run(int)", "int look(int)", "short peek(int, int)", "int read(int, int)",
        "short punched(int)", "int statement(int, int, int, int, int)", "void clear()", "int assemble()",
        "int placed(int)", "int variable(int)"};

    public static void main(String[] args) {
        Due due = new Due();
        face(due);
        newObject(due);
        objectsAreApart(due);
        due.end();
    }

    private static void face(Due due) {
        Class<?> type = DelayMachine.class;
        due.is("modifiers of the class", type.getModifiers(), Modifier.PUBLIC | Modifier.FINAL);
        TreeSet<String> methods = new TreeSet<>();
        TreeSet<String> hidden = new TreeSet<>();
        for (Method method : type.getDeclaredMethods()) {
            if (Modifier.isPrivate(method.getModifiers())) {
                hidden.add(method.getName());
            } else {
                methods.add(described(method));
            }
        }
        due.is("the face is " + methods, methods.equals(new TreeSet<>(Arrays.asList(FACE))), true);
        for (Method method : type.getDeclaredMethods()) {
            boolean shown = Modifier.isPublic(method.getModifiers());
            due.is("a private method is named " + method.getName(), shown && hidden.contains(method.getName()), false);
        }
        for (Field field : type.getDeclaredFields()) {
            due.is("private field " + field.getName(), Modifier.isPrivate(field.getModifiers()), true);
        }
        due.is("constructors", type.getDeclaredConstructors().length, 1);
        for (Constructor<?> constructor : type.getDeclaredConstructors()) {
            due.is("public constructor", constructor.getModifiers(), Modifier.PUBLIC);
            due.is("parameters of the constructor", constructor.getParameterCount(), 0);
        }
    }

    private static String described(Method method) {
        StringBuilder text = new StringBuilder(method.getReturnType() + " " + method.getName() + "(");
        for (Class<?> parameter : method.getParameterTypes()) {
            text.append(text.charAt(text.length() - 1) == '(' ? "" : ", ").append(parameter);
        }
        return text.append(')').toString();
    }

    private static void newObject(Due due) {
        DelayMachine x = new DelayMachine();
        int[] looks = {0, 0, 0, -1, -1, 0, 0, 0, 0};
        for (int what = 0; what < looks.length; what++) {
            due.is("new: look(" + what + ")", x.look(what), looks[what]);
        }
        for (int place = 0; place < 32; place++) {
            due.is("new: read(0, " + place + ")", x.read(0, place), 0);
            due.is("new: read(1, " + place + ")", x.read(1, place), 0);
            for (int line = 2; line <= 8; line++) {
                due.is("new: peek(" + line + ", " + place + ")", x.peek(line, place), 0);
            }
        }
        for (int i = -1; i <= 16; i++) {
            due.is("new: punched(" + i + ")", x.punched(i), 0);
            due.is("new: placed(" + i + ")", x.placed(i), -1);
            due.is("new: variable(" + i + ")", x.variable(i), -1);
        }
        due.is("new: run(2000)", x.run(2000), 0);
        due.is("new: assemble()", x.assemble(), -1);
        due.is("new: statement", x.statement(6, 0, 0, 0, 0), 0);
    }

    private static void objectsAreApart(Due due) {
        DelayMachine x = new DelayMachine();
        DelayMachine y = new DelayMachine();
        x.order(0, 0, 5);
        x.word(2, 0, (short) 5);
        x.statement(6, 0, 0, 0, 0);
        x.start(0, 0);
        x.run(3);
        due.is("other: read(0, 0)", y.read(0, 0), 0);
        due.is("other: peek(2, 0)", y.peek(2, 0), 0);
        due.is("other: look(2)", y.look(2), 0);
        due.is("other: assemble()", y.assemble(), -1);
    }
}
