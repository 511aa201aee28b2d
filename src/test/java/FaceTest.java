import java.io.IOException;
import java.lang.reflect.Constructor;
import java.lang.reflect.Field;
import java.lang.reflect.Member;
import java.lang.reflect.Method;
import java.lang.reflect.Modifier;
import java.util.ArrayList;
import java.util.List;
import java.util.regex.Matcher;
import java.util.regex.Pattern;

/** "The public face" and "Public constants": what others can see of the class is this and nothing beside it. */
public final class FaceTest {
    private static final Class<?> SEEN = ChoiceShrink.class;
    private static final Pattern CONSTANT = Pattern.compile("(\\w+) = (\\d+)");

    public static void main(String[] args) throws IOException, ReflectiveOperationException {
        theFaceIsTheDocuments();
        nothingIsInherited();
        theConstantsHaveTheirValues();
        Check.end("FaceTest");
    }

    /** The class, 24 constants, the constructor and 16 methods. */
    private static void theFaceIsTheDocuments() throws IOException, IllegalAccessException {
        List<String> due = new ArrayList<>();
        for (String line : Document.face()) {
            if (!line.equals("}")) {
                due.add(withoutNames(line));
            }
        }
        Check.due("lines of the document's face", 42, due.size());
        List<String> got = seen();
        Check.due("what the class lacks", "[]", without(due, got));
        Check.due("what the class has beside it", "[]", without(got, due));
    }

    private static String without(List<String> lines, List<String> others) {
        List<String> left = new ArrayList<>(lines);
        others.forEach(left::remove);
        return left.toString();
    }

    /** Without the names of parameters, which the compiled class does not tell. */
    private static String withoutNames(String line) {
        return line.replaceAll("[;{]$", "").strip().replaceAll("(int|long|boolean) \\w+(?=[,)])", "$1")
            .replace(", ", ",");
    }

    private static List<String> seen() throws IllegalAccessException {
        List<String> lines = new ArrayList<>();
        lines.add(Modifier.toString(SEEN.getModifiers()) + " class " + SEEN.getName());
        for (Field field : SEEN.getDeclaredFields()) {
            if (isSeen(field)) {
                String value = Modifier.isStatic(field.getModifiers()) ? " = " + field.get(null) : "";
                lines.add(withoutClass(field) + value);
            }
        }
        for (Constructor<?> constructor : SEEN.getDeclaredConstructors()) {
            if (isSeen(constructor)) {
                lines.add(constructor.toString());
            }
        }
        for (Method method : SEEN.getDeclaredMethods()) {
            if (isSeen(method)) {
                lines.add(withoutClass(method));
            }
        }
        return lines;
    }

    private static boolean isSeen(Member member) {
        return !Modifier.isPrivate(member.getModifiers());
    }

    private static String withoutClass(Member member) {
        return member.toString().replace(SEEN.getName() + ".", "");
    }

    private static void nothingIsInherited() {
        Check.due("superclass", "java.lang.Object", SEEN.getSuperclass().getName());
        Check.due("interfaces", 0, SEEN.getInterfaces().length);
        Check.due("nested classes", 0, SEEN.getDeclaredClasses().length);
        Check.due("package", "", SEEN.getPackageName());
        Check.due("type parameters", 0, SEEN.getTypeParameters().length);
    }

    private static void theConstantsHaveTheirValues() throws ReflectiveOperationException {
        constants(3, Check.says("Public constants: Phases: PH_IDLE = 0, PH_FOUND = 1, PH_DONE = 2."));
        constants(3, Check.says("Outcomes: R_HOLDS = 0, R_FAILS = 1, R_INVALID = 2."));
        constants(3, Check.says("Generator node kinds: G_INT = 1, G_LIST = 2, G_PAIR = 3."));
        constants(15, Check.says("Instructions: OP_PUSH = 0, OP_VAL = 1, OP_LEN = 2, OP_ADD = 3, OP_SUB = 4, OP_MUL = "
            + "5, OP_LT = 6, OP_EQ = 7, OP_NOT = 8, OP_DUP = 9, OP_SWAP = 10, OP_DROP = 11, OP_OVER = 12, OP_JZ = 13, "
            + "OP_JMP = 14."));
    }

    private static void constants(int count, String words) throws ReflectiveOperationException {
        Matcher constant = CONSTANT.matcher(words);
        int found = 0;
        while (constant.find()) {
            String name = constant.group(1);
            Check.due(name, constant.group(2), String.valueOf(SEEN.getField(name).get(null)));
            found++;
        }
        Check.due("constants told there", count, found);
    }
}
