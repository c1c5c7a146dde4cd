import java.lang.reflect.Constructor;
import java.lang.reflect.Field;
import java.lang.reflect.Member;
import java.lang.reflect.Method;
import java.lang.reflect.Modifier;
import java.util.ArrayList;
import java.util.Arrays;
import java.util.List;
import java.util.Set;
import java.util.TreeSet;

// The class has the face of the document, and no other member that can be seen from outside.
public final class FaceTest {
    private static final String[] METHODS = {
        "int set(int)", "int mark()", "int product(int,int)", "int power(int,int)", "int trick()", "int drop(int)",
        "int play(int)", "int cut(int)", "int riffle(int)", "int turn()", "int restart()", "int at(int)", "int where(int)",
        "int of(int,int)", "int image(int,int,int)", "long commuting(int)", "int commute(int,int)", "int count(int)",
        "long spread()", "int share()", "int byCut(int,int,int)", "int becomes(int,int)", "int ordersIn(int)",
        "int fewestSteps()", "int firstStep()", "int put(long)", "int wipe()", "int fault()", "int undo()", "int save(int)",
        "int restore(int)"};
    private static final String[] CONSTANTS = {
        "NO_SUCH=-1", "BAD_VALUE=-2", "BAD_TEXT=-3", "TOO_MANY=-4", "NOT_POSSIBLE=-5", "NONE=-6", "SIZE=0"};
    private static int wrong = 0;

    private static void due(String what, Object got, Object want) {
        if (!got.equals(want)) {
            wrong++;
            System.out.println(what + ": " + got + ", due is " + want);
        }
    }

    private static boolean isSeen(Member member) {
        return !Modifier.isPrivate(member.getModifiers());
    }

    private static String told(Method method) {
        List<String> types = new ArrayList<>();
        for (Class<?> type : method.getParameterTypes()) {
            types.add(type.getName());
        }
        return method.getReturnType().getName() + " " + method.getName() + "(" + String.join(",", types) + ")";
    }

    private static void checkMethods() {
        Set<String> seen = new TreeSet<>();
        Set<String> names = new TreeSet<>();
        for (Method method : CutMarks.class.getDeclaredMethods()) {
            if (isSeen(method)) {
                seen.add(told(method));
                names.add(method.getName());
                due(told(method) + " is", Modifier.toString(method.getModifiers()), "public");
            }
        }
        due("the methods", seen, new TreeSet<>(Arrays.asList(METHODS)));
        for (Method method : CutMarks.class.getDeclaredMethods()) {
            if (!isSeen(method)) {
                due(method.getName() + " is private and bears a public name", names.contains(method.getName()), false);
            }
        }
    }

    private static void checkFields() throws IllegalAccessException {
        Set<String> seen = new TreeSet<>();
        for (Field field : CutMarks.class.getDeclaredFields()) {
            if (isSeen(field)) {
                seen.add(field.getName() + "=" + field.get(null));
                due(field.getName() + " is", Modifier.toString(field.getModifiers()), "public static final");
            } else if (Modifier.isStatic(field.getModifiers())) {
                due(field.getName() + " is final", Modifier.isFinal(field.getModifiers()), true);
            }
        }
        due("the constants", seen, new TreeSet<>(Arrays.asList(CONSTANTS)));
    }

    private static void checkClasses() {
        due("the class is", Modifier.toString(CutMarks.class.getModifiers()), "public final");
        Constructor<?>[] constructors = CutMarks.class.getDeclaredConstructors();
        due("constructors", constructors.length, 1);
        due("its arguments", constructors[0].getParameterCount(), 0);
        due("it is", Modifier.toString(constructors[0].getModifiers()), "public");
        for (Class<?> inside : CutMarks.class.getDeclaredClasses()) {
            int modifiers = inside.getModifiers();
            due(inside.getName() + " is static", Modifier.isStatic(modifiers), true);
            due(inside.getName() + " is public", Modifier.isPublic(modifiers) || Modifier.isProtected(modifiers), false);
        }
    }

    public static void main(String[] args) throws IllegalAccessException {
        checkMethods();
        checkFields();
        checkClasses();
        System.out.println(wrong == 0 ? "the face is as due" : wrong + " things are not as due");
        if (wrong != 0) {
            System.exit(1);
        }
    }
}
