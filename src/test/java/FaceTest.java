import java.lang.reflect.Constructor;
import java.lang.reflect.Field;
import java.lang.reflect.Method;
import java.lang.reflect.Modifier;
import java.util.ArrayList;
import java.util.Arrays;
import java.util.HashSet;
import java.util.List;
import java.util.Set;
import java.util.TreeSet;

/** The document's public face, and the rules of LANGUAGE.md that can be seen from the compiled class. */
public final class FaceTest {
    private static final Class<?> FACE = ChoiceShrink.class;
    private static final String MODIFIERS = "public static final int ";

    public static void main(String[] args) throws IllegalAccessException {
        theClass();
        theConstants();
        theConstructor();
        theMethods();
        theFields();
        Check.end("FaceTest");
    }

    private static void theClass() {
        Check.due("modifiers of the class", "public final", Modifier.toString(FACE.getModifiers()));
        Check.due("superclass", "java.lang.Object", FACE.getSuperclass().getName());
        Check.due("package", "", FACE.getPackageName());
        Check.due("interfaces", 0, FACE.getInterfaces().length);
        Check.due("nested classes", 0, FACE.getDeclaredClasses().length);
    }

    private static void theConstants() throws IllegalAccessException {
        Set<String> due = new TreeSet<>();
        number(due, 0, "PH_IDLE", "PH_FOUND", "PH_DONE");
        number(due, 0, "R_HOLDS", "R_FAILS", "R_INVALID");
        number(due, 1, "G_INT", "G_LIST", "G_PAIR");
        number(due, 0, "OP_PUSH", "OP_VAL", "OP_LEN", "OP_ADD", "OP_SUB", "OP_MUL", "OP_LT", "OP_EQ", "OP_NOT",
            "OP_DUP", "OP_SWAP", "OP_DROP", "OP_OVER", "OP_JZ", "OP_JMP");
        Set<String> got = new TreeSet<>();
        for (Field field : FACE.getDeclaredFields()) {
            if (!Modifier.isPrivate(field.getModifiers())) {
                got.add(Modifier.toString(field.getModifiers()) + " " + field.getType() + " " + field.getName()
                    + " = " + field.getInt(null));
            }
        }
        Check.due("fields that others can see", due.toString(), got.toString());
    }

    private static void number(Set<String> due, int first, String... names) {
        for (int at = 0; at < names.length; at++) {
            due.add(MODIFIERS + names[at] + " = " + (first + at));
        }
    }

    private static void theConstructor() {
        List<String> got = new ArrayList<>();
        for (Constructor<?> constructor : FACE.getDeclaredConstructors()) {
            got.add(constructor.toString());
        }
        Check.due("constructors", "[public ChoiceShrink(int,int)]", got.toString());
    }

    private static void theMethods() {
        Set<String> due = new TreeSet<>(Arrays.asList(
            "int addGen(int,int)", "int addOp(int,int)", "int pushChoice(int)", "int replay()", "int run(int)",
            "int shrink(int)", "void discard()", "int phase()", "int seqLength()", "int choiceAt(int)",
            "int origLength()", "int origChoiceAt(int)", "int valueLength()", "int valueAt(int)", "int stat(int)",
            "int cursor(int)"));
        Set<String> got = new TreeSet<>();
        Set<String> seenNames = new HashSet<>();
        Set<String> privateNames = new HashSet<>();
        for (Method method : FACE.getDeclaredMethods()) {
            boolean hidden = Modifier.isPrivate(method.getModifiers());
            (hidden ? privateNames : seenNames).add(method.getName());
            if (!hidden) {
                got.add(method.toString().replace("ChoiceShrink.", "").replace("public ", ""));
            }
            Check.due("parameters of " + method.getName(), 1, method.getParameterCount() <= 7 ? 1 : 0);
        }
        Check.due("methods that others can see", due.toString(), got.toString());
        privateNames.retainAll(seenNames);
        Check.due("private methods with a public name", "[]", privateNames.toString());
    }

    private static void theFields() {
        int fields = 0;
        for (Field field : FACE.getDeclaredFields()) {
            Class<?> type = field.getType();
            boolean isStatic = Modifier.isStatic(field.getModifiers());
            Class<?> number = type.isArray() && !isStatic ? type.getComponentType() : type;
            boolean whole = number.isPrimitive() && number != float.class && number != double.class;
            Check.due("type of " + field.getName(), 1, whole ? 1 : 0);
            Check.due("a static field is a constant: " + field.getName(), 1,
                !isStatic || Modifier.isFinal(field.getModifiers()) ? 1 : 0);
            Check.due("an array field is final: " + field.getName(), 1,
                !type.isArray() || Modifier.isFinal(field.getModifiers()) ? 1 : 0);
            fields += isStatic ? 0 : 1;
        }
        Check.due("some forty fields at most", 1, fields <= 42 ? 1 : 0);
    }
}
