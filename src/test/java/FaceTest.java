import java.lang.reflect.Field;
import java.lang.reflect.Member;
import java.lang.reflect.Method;
import java.lang.reflect.Modifier;
import java.util.Set;
import java.util.TreeSet;

/** The public face: the document's members and no other one that can be seen from outside. */
public final class FaceTest {
    private static final String STATE = " IllegalStateException";
    private static final String ARGUMENT = " IllegalArgumentException";

    public static void main(String[] args) {
        Set<String> due = new TreeSet<>(Set.of(
            "void feed(int,int,int,int,int)", "int end(int)", "int load(int)" + ARGUMENT, "int fault(int)",
            "int many(int,int)", "int symbol(int,int,int,int)", "void reset()", "int state(int)",
            "int value(int,int,int)", "int step(int)", "int gates()" + STATE, "int judge()" + STATE,
            "int witness(int)", "int blame()", "int differs(int)" + STATE + ARGUMENT,
            "boolean inductive(int)" + STATE + ARGUMENT, "int pairs(int)" + STATE + ARGUMENT,
            "int depth(int,int)" + STATE + ARGUMENT, "boolean same(int,int,int,int)" + STATE + ARGUMENT,
            "int twin(int,int)" + STATE + ARGUMENT, "int doubts()"));
        Set<String> got = new TreeSet<>();
        Set<String> names = new TreeSet<>();
        for (Method method : TwinJudge.class.getDeclaredMethods()) {
            if (isSeen(method)) {
                Check.due(method.getName() + " is public and not static",
                    method.getModifiers() == Modifier.PUBLIC, true);
                got.add(shown(method));
                names.add(method.getName());
            }
        }
        Check.due("the methods " + got + " are " + due, got.equals(due), true);
        for (Class<?> inside : TwinJudge.class.getDeclaredClasses()) {
            Check.due(inside + " is static", Modifier.isStatic(inside.getModifiers()), true);
            Check.due(inside + " is not public", Modifier.isPublic(inside.getModifiers()), false);
            for (Method method : inside.getDeclaredMethods()) {
                Check.due(method + " bears no public name", names.contains(method.getName()), false);
            }
        }
        for (Method method : TwinJudge.class.getDeclaredMethods()) {
            Check.due(method + " bears no public name", !isSeen(method) && names.contains(method.getName()), false);
        }
        for (Field field : TwinJudge.class.getDeclaredFields()) {
            Check.due(field + " is seen", isSeen(field), field.getName().equals("NONE"));
        }
        Check.due("the class is public and final", TwinJudge.class.getModifiers(), Modifier.PUBLIC | Modifier.FINAL);
        Check.due("constructors", TwinJudge.class.getDeclaredConstructors().length, 1);
        Check.due("public constructors", TwinJudge.class.getConstructors().length, 1);
        Check.due("NONE", TwinJudge.NONE, -1);
        Check.finish();
    }

    private static boolean isSeen(Member member) {
        return !Modifier.isPrivate(member.getModifiers());
    }

    private static String shown(Method method) {
        StringBuilder text = new StringBuilder();
        text.append(method.getReturnType().getSimpleName()).append(' ').append(method.getName()).append('(');
        String between = "";
        for (Class<?> type : method.getParameterTypes()) {
            text.append(between).append(type.getSimpleName());
            between = ",";
        }
        text.append(')');
        for (Class<?> type : method.getExceptionTypes()) {
            text.append(' ').append(type.getSimpleName());
        }
        return text.toString();
    }
}
