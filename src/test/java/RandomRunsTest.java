import java.lang.reflect.InvocationTargetException;
import java.lang.reflect.Method;
import java.util.ArrayList;
import java.util.Comparator;
import java.util.List;
import java.util.Random;

/** Random runs of 512 calls, the same on every machine, whose answers the plain model must give, too. */
public final class RandomRunsTest {

    private static final int RUNS = Integer.getInteger("runs", 400);
    private static final int CALLS = 512;
    private static final int[] ODD = {-1, -2, 4, 5, 6, 7, 8, 10, 49, 50, 51, 60, 61, 63, 64, 99, 100, 255, 256,
        Integer.MIN_VALUE, Integer.MAX_VALUE, Integer.MIN_VALUE + 1, 1 << 16};

    public static void main(String[] args) throws Exception {
        List<Method> face = new ArrayList<>();
        for (Method method : DesiredStateKeeper.class.getDeclaredMethods()) {
            if (java.lang.reflect.Modifier.isPublic(method.getModifiers())) {
                face.add(method);
            }
        }
        face.sort(Comparator.comparing(Method::getName));
        for (int run = 0; run < RUNS; run++) {
            new RandomRunsTest(run).play(face);
        }
        Checks.end("RandomRunsTest");
    }

    private final int run;
    private final Random random;
    private final DesiredStateKeeper keeper = new DesiredStateKeeper();
    private final PlainModel model = new PlainModel();
    private final StringBuilder told = new StringBuilder();
    private int calls;
    private boolean wrong;

    private RandomRunsTest(int run) {
        this.run = run;
        this.random = new Random(run);
    }

    private void play(List<Method> face) throws Exception {
        while (calls < CALLS && !wrong) {
            if (random.nextInt(calls < 5 ? 2 : 120) == 0) {
                write(face);
            }
            Method method = face.get(random.nextInt(face.size()));
            // a text that is written anew would take too many calls if these came as often as the others
            boolean rare = method.getName().equals("clearText") || method.getName().equals("load")
                    || method.getName().equals("append");
            if (!rare || random.nextInt(10) == 0) {
                call(method, arguments(method));
            }
        }
        Checks.due("run " + run + told, wrong, false);
    }

    private void write(List<Method> face) throws Exception {
        call(named(face, "clearText"));
        String text = text();
        for (int i = 0; i < text.length(); i++) {
            call(named(face, "append"), (int) text.charAt(i));
        }
        call(named(face, "errorPosition"));
        call(named(face, "load"));
    }

    private static Method named(List<Method> face, String name) {
        return face.stream().filter(m -> m.getName().equals(name)).findFirst().orElseThrow();
    }

    private String text() {
        int nodes = 1 + random.nextInt(5);
        int components = 1 + random.nextInt(random.nextInt(4) == 0 ? 6 : 4);
        StringBuilder text = new StringBuilder("D").append(nodes).append(components).append(1 + random.nextInt(4));
        int length = random.nextInt(3) == 0 ? 1 + random.nextInt(50) : 1 + random.nextInt(6);
        text.append(length / 10).append(length % 10);
        for (int n = 0; n < nodes; n++) {
            text.append(random.nextInt(3));
        }
        for (int c = 0; c < components; c++) {
            text.append(random.nextInt(3) == 0 ? random.nextInt(6) : random.nextInt(2));
        }
        int rules = random.nextInt(random.nextInt(20) == 0 ? 13 : 6);
        for (int r = 0; r < rules && components > 1; r++) {
            int a = random.nextInt(components);
            int b = (a + 1 + random.nextInt(components - 1)) % components;
            text.append(random.nextBoolean() ? 'n' : 'x').append(a).append(1 + random.nextInt(3)).append(b)
                    .append(1 + random.nextInt(3));
        }
        int versions = random.nextInt(16);
        for (int i = 0; i < versions; i++) {
            text.append(random.nextBoolean() ? 'w' : 'v').append(random.nextInt(nodes))
                    .append(random.nextInt(components)).append(random.nextInt(4));
        }
        if (random.nextInt(6) == 0) {
            text.setCharAt(random.nextInt(text.length()), "Dnxwv0123456789:/ ".charAt(random.nextInt(18)));
        }
        if (random.nextInt(12) == 0) {
            text.setLength(random.nextInt(text.length()));
        }
        return text.substring(0, Math.min(160, text.length()));
    }

    private Object[] arguments(Method method) {
        Class<?>[] types = method.getParameterTypes();
        Object[] arguments = new Object[types.length];
        for (int i = 0; i < types.length; i++) {
            if (types[i] == boolean.class) {
                arguments[i] = random.nextBoolean();
            } else if (types[i] == long.class) {
                arguments[i] = method.getName().equals("runScript") ? script() : random.nextLong();
            } else {
                arguments[i] = number(method.getName(), i);
            }
        }
        return arguments;
    }

    private int number(String name, int i) {
        if (random.nextInt(15) == 0) {
            return ODD[random.nextInt(ODD.length)];
        }
        if (name.equals("append")) {
            return random.nextInt(256);
        }
        if (name.equals("tick")) {
            return 1 + random.nextInt(random.nextInt(6) == 0 ? 50 : 4);
        }
        if (name.equals("simulate")) {
            return 1 + random.nextInt(60);
        }
        if (name.equals("ahead") && i == 0) {
            return random.nextInt(100);
        }
        if (name.equals("explains") && i == 1) {
            return random.nextInt(random.nextBoolean() ? 64 : 12);
        }
        if (name.equals("setFaults") && i == 1) {
            return random.nextInt(10);
        }
        if (name.equals("setQuorum") && i == 1) {
            return random.nextInt(3);
        }
        if (name.equals("runScript")) {
            return 1 + random.nextInt(4);
        }
        if (name.equals("about") || name.equals("node") && i == 1 || name.equals("ahead") && i == 2) {
            return random.nextInt(8);
        }
        int span = Math.max(model.about(0), model.about(1));
        return random.nextInt(random.nextInt(4) == 0 ? 6 : Math.min(4, span));
    }

    private long script() {
        long script = 0;
        int commands = 1 + random.nextInt(4);
        for (int i = 0; i < commands; i++) {
            int[] tops = {10, model.about(0), model.about(1), 4};
            long command = 1 + random.nextInt(9);
            for (int d = 1; d < 4; d++) {
                boolean zero = (command == 4 || command == 8) && d == 1 || command > 49 && command < 60 && d == 2;
                int digit = zero ? 0 : random.nextInt(random.nextInt(12) == 0 ? 10 : tops[d]);
                command = command * 10 + digit;
            }
            script = script * 10000 + command;
        }
        return random.nextInt(40) == 0 ? random.nextLong() : script;
    }

    private void call(Method method, Object... arguments) throws Exception {
        if (wrong || calls >= CALLS) {
            return;
        }
        calls++;
        Method twin = PlainModel.class.getDeclaredMethod(method.getName(), method.getParameterTypes());
        Object got = answer(method, keeper, arguments);
        Object want = answer(twin, model, arguments);
        told.append('\n').append(method.getName()).append(List.of(arguments)).append(" -> ").append(got);
        if (!got.equals(want)) {
            told.append(", due is ").append(want);
            wrong = true;
        }
    }

    private static Object answer(Method method, Object on, Object[] arguments) throws Exception {
        try {
            return method.invoke(on, arguments);
        } catch (InvocationTargetException e) {
            return e.getCause().getClass().getName();
        }
    }
}
