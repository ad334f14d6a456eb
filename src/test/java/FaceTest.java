import java.lang.reflect.Constructor;
import java.lang.reflect.Field;
import java.lang.reflect.Method;
import java.lang.reflect.Modifier;
import java.util.Arrays;
import java.util.TreeSet;
import java.util.stream.Collectors;

/** The public face is the document's, and nothing else can be seen from outside (LANGUAGE.md, rules 1 and 5). */
public final class FaceTest {

    private static final String[] METHODS = {
        "int append(int)", "int clearText()", "int errorPosition()", "int load()", "int about(int)",
        "int node(int,int)", "int version(int,int,boolean)", "int rule(int,int)", "int approvals(int,int)",
        "int quorum(int)", "int wish(int,int,int)", "int wishRing(int,int,int)", "int drift(int,int,int)",
        "int approve(int,int,int)", "int dismiss(int)", "int setQuorum(int,int)", "int setFaults(int,int)",
        "int pardon(int)", "int tick(int)", "int undo()", "int state(int,int)", "int next(int)",
        "int breaks(int,int,int)", "int holdsUp(int)", "int missing(int)", "int ahead(int,int,int)",
        "int calmAfter()", "int fewest(int)", "int step(int,int)", "int needed(int,int,int)",
        "boolean isPossible(int,int)", "int explains(int,int)", "int ranked(int)", "int runScript(int,long)",
        "int simulate(long,int)", "int save(int)", "int restore(int)"};

    public static void main(String[] args) {
        Class<?> face = DesiredStateKeeper.class;
        Checks.due("public final", face.getModifiers(), Modifier.PUBLIC | Modifier.FINAL);
        TreeSet<String> open = new TreeSet<>();
        TreeSet<String> names = new TreeSet<>();
        for (Method method : face.getDeclaredMethods()) {
            if (!Modifier.isPrivate(method.getModifiers())) {
                open.add(told(method));
                names.add(method.getName());
                Checks.due("public, not static: " + method.getName(), method.getModifiers(), Modifier.PUBLIC);
            }
        }
        Checks.due("the methods", open, new TreeSet<>(Arrays.asList(METHODS)));
        for (Method method : face.getDeclaredMethods()) {
            if (Modifier.isPrivate(method.getModifiers())) {
                Checks.due("a private method bears the name " + method.getName(), names.contains(method.getName()),
                        false);
            }
        }
        constructors(face);
        fields(face);
        for (Class<?> inside : face.getDeclaredClasses()) {
            Checks.due("static: " + inside, Modifier.isStatic(inside.getModifiers()), true);
            Checks.due("public: " + inside, Modifier.isPublic(inside.getModifiers()), false);
            fields(inside);
        }
        Checks.due("some twelve classes at most", face.getDeclaredClasses().length < 12, true);
        Checks.end("FaceTest");
    }

    private static String told(Method method) {
        return method.getReturnType() + " " + method.getName() + Arrays.stream(method.getParameterTypes())
                .map(Class::toString).collect(Collectors.joining(",", "(", ")"));
    }

    private static void constructors(Class<?> face) {
        Constructor<?>[] all = face.getDeclaredConstructors();
        Checks.due("one constructor", all.length, 1);
        Checks.due("without parameters", all[0].getParameterCount(), 0);
        Checks.due("public", all[0].getModifiers(), Modifier.PUBLIC);
    }

    private static void fields(Class<?> owner) {
        int held = 0;
        for (Field field : owner.getDeclaredFields()) {
            int is = field.getModifiers();
            if (Modifier.isStatic(is)) {
                Checks.due("final: " + field, Modifier.isFinal(is), true);
            } else {
                held++;
            }
            boolean open = field.getName().equals("NONE");
            if (owner == DesiredStateKeeper.class) {
                Checks.due("private: " + field, Modifier.isPrivate(is), !open);
            }
        }
        Checks.due("some twenty fields at most in " + owner, held <= 20, true);
    }
}
