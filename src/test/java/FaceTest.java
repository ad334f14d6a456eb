import java.lang.reflect.Constructor;
import java.lang.reflect.Field;
import java.lang.reflect.Method;
import java.lang.reflect.Modifier;
import java.util.ArrayList;
import java.util.Arrays;
import java.util.List;
import java.util.TreeSet;
import java.util.stream.Collectors;

/** The public face is the document's, and nothing else can be seen from outside (LANGUAGE.md, rules 1 and 5). */
public final class FaceTest {

    private static final String INDEX = " throws IndexOutOfBoundsException";
    private static final String ARGUMENT = " throws IllegalArgumentException";
    private static final String STATE = " throws IllegalStateException";
    private static final String INDEX_ARGUMENT = INDEX + ", IllegalArgumentException";
    private static final String INDEX_STATE = INDEX + ", IllegalStateException";

    private static final String[] METHODS = {
        "int append(int)" + ARGUMENT + ", IllegalStateException", "int clearText()", "int errorPosition()",
        "int load()" + STATE, "int about(int)" + ARGUMENT, "int node(int,int)" + INDEX_ARGUMENT,
        "int version(int,int,boolean)" + INDEX, "int rule(int,int)" + INDEX_ARGUMENT,
        "int approvals(int,int)" + INDEX_ARGUMENT, "int quorum(int)" + INDEX,
        "int wish(int,int,int)" + INDEX_ARGUMENT, "int wishRing(int,int,int)" + INDEX_ARGUMENT,
        "int drift(int,int,int)" + INDEX_ARGUMENT,
        "int approve(int,int,int)" + INDEX_ARGUMENT + ", IllegalStateException", "int dismiss(int)" + INDEX,
        "int setQuorum(int,int)" + INDEX_ARGUMENT, "int setFaults(int,int)" + INDEX_ARGUMENT,
        "int pardon(int)" + INDEX_STATE, "int tick(int)" + ARGUMENT, "int undo()" + STATE,
        "int state(int,int)" + INDEX, "int next(int)" + INDEX, "int breaks(int,int,int)" + INDEX_ARGUMENT,
        "int holdsUp(int)" + INDEX, "int missing(int)" + INDEX, "int ahead(int,int,int)" + INDEX_ARGUMENT,
        "int calmAfter()", "int fewest(int)" + INDEX, "int step(int,int)" + INDEX_ARGUMENT,
        "int needed(int,int,int)" + INDEX_ARGUMENT, "boolean isPossible(int,int)" + INDEX_ARGUMENT,
        "int explains(int,int)" + INDEX_ARGUMENT, "int ranked(int)" + INDEX, "int runScript(int,long)" + ARGUMENT,
        "int simulate(long,int)" + ARGUMENT, "int save(int)" + INDEX, "int restore(int)" + INDEX_STATE};

    public static void main(String[] args) throws Exception {
        Class<?> face = DesiredStateKeeper.class;
        Checks.due("public final", face.getModifiers(), Modifier.PUBLIC | Modifier.FINAL);
        TreeSet<String> open = new TreeSet<>();
        TreeSet<String> names = new TreeSet<>();
        for (Method method : face.getDeclaredMethods()) {
            if (!Modifier.isPrivate(method.getModifiers())) {
                open.add(told(method));
                names.add(method.getName());
                Checks.due("public, not static: " + method.getName(), method.getModifiers(), Modifier.PUBLIC);
            }
        }
        Checks.due("the methods", open, new TreeSet<>(Arrays.asList(METHODS)));
        hiddenMethods(face, names);
        constructors(face);
        fields(face);
        for (Class<?> inside : face.getDeclaredClasses()) {
            Checks.due("static: " + inside, Modifier.isStatic(inside.getModifiers()), true);
            Checks.due("public: " + inside, Modifier.isPublic(inside.getModifiers()), false);
            hiddenMethods(inside, names);
            fields(inside);
        }
        Checks.due("some twelve classes at most", face.getDeclaredClasses().length < 12, true);
        document(Document.read());
        Checks.end("FaceTest");
    }

    /** The document's face has these methods, in this order, and each has a promise with the same head. */
    private static void document(Document document) {
        if (document == null) {
            return;
        }
        List<String> titles = new ArrayList<>(List.of("# DesiredStateKeeper", "What it is", "The public face",
                "Terms", "Promise 1: A new object"));
        List<String> heads = new ArrayList<>(List.of("DesiredStateKeeper()"));
        List<String> methods = new ArrayList<>();
        for (String line : document.face.subList(2, document.face.size())) {
            String head = line.replaceAll("^public |;$", "");
            heads.add(head);
            methods.add(head.replaceAll("(int|long|boolean) \\w+(, (?=int|long|boolean)|(?=\\)))", "$1$2")
                    .replaceAll(", (?=int|long|boolean)", ","));
            titles.add("Promise " + heads.size() + ": " + head.replaceAll("^\\w+ |\\(.*", ""));
        }
        titles.add("Not promised");
        Checks.due("the constant and the constructor", document.face.subList(0, 2),
                List.of("public static final int NONE = -9;", "public DesiredStateKeeper();"));
        Checks.due("the methods of the document", methods, Arrays.asList(METHODS));
        Checks.due("heads of promises", document.heads, heads);
        Checks.due("sections of the document", document.titles, titles);
    }

    private static String told(Method method) {
        String head = method.getReturnType() + " " + method.getName() + Arrays.stream(method.getParameterTypes())
                .map(Class::toString).collect(Collectors.joining(",", "(", ")"));
        Class<?>[] thrown = method.getExceptionTypes();
        return thrown.length == 0 ? head : head + Arrays.stream(thrown)
                .map(Class::getSimpleName).collect(Collectors.joining(", ", " throws ", ""));
    }

    /** Methods that are not of the face bear none of its names, and no method has more than seven parameters. */
    private static void hiddenMethods(Class<?> owner, TreeSet<String> faceNames) {
        for (Method method : owner.getDeclaredMethods()) {
            if (!Modifier.isPublic(method.getModifiers())) {
                Checks.due("the name of a public method: " + method, faceNames.contains(method.getName()), false);
            }
            Checks.due("seven parameters at most: " + method, method.getParameterCount() <= 7, true);
        }
    }

    private static void constructors(Class<?> face) {
        Constructor<?>[] all = face.getDeclaredConstructors();
        Checks.due("one constructor", all.length, 1);
        Checks.due("without parameters", all[0].getParameterCount(), 0);
        Checks.due("public", all[0].getModifiers(), Modifier.PUBLIC);
    }

    private static void fields(Class<?> owner) {
        int held = 0;
        for (Field field : owner.getDeclaredFields()) {
            int is = field.getModifiers();
            if (Modifier.isStatic(is)) {
                Checks.due("final: " + field, Modifier.isFinal(is), true);
                Checks.due("a constant: " + field, List.of("int", "long", "boolean", "char", "class java.lang.String",
                        "class [I", "class [J", "class [C", "class [B").contains(field.getType().toString()), true);
            } else {
                held++;
            }
            if (owner == DesiredStateKeeper.class) {
                boolean open = field.toString().equals("public static final int DesiredStateKeeper.NONE");
                Checks.due("private, but for NONE: " + field, open || Modifier.isPrivate(is), true);
            }
        }
        Checks.due("some twenty fields at most in " + owner, held <= 20, true);
    }
}
