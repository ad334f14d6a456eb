import java.lang.reflect.InvocationTargetException;
import java.lang.reflect.Method;
import java.util.ArrayList;
import java.util.Arrays;
import java.util.HashSet;
import java.util.List;
import java.util.Set;
import java.util.TreeSet;

/**
 * The arguments of each call: the last value that is allowed and the first that is not, on both sides of each range, on
 * keepers of the smallest, a middle and the greatest size; and which exception comes first if several apply.
 */
final class ArgumentEdges {

    private static final int CALLS_FOR_A_GRID = 300;

    /** What the arguments that are no numbers, or that any number is allowed for, are in these tests. */
    private static final Object[] BOTH = {false, true};
    private static final Object[] SEEDS = {0L, Long.MIN_VALUE, Long.MAX_VALUE};
    private static final Object[] SHORT_SCRIPTS = {0L, 9999L};

    /** A parameter: the document's line for it, and its range, which may depend on the size of the keeper. */
    private static final class Parameter {
        final String line;
        private final int low;
        private final int high;
        private final Object[] free;

        Parameter(String line, int low, int high, Object... free) {
            this.line = line;
            this.low = low;
            this.high = high;
            this.free = free;
        }

        int high(Recipes size) {
            switch (high) {
                case NODES:
                    return size.nodes - 1;
                case COMPONENTS:
                    return size.components - 1;
                case RULES:
                    return size.rules - 1;
                default:
                    return high;
            }
        }

        boolean allows(Recipes size, Object value) {
            return free.length > 0 || (int) value >= low && (int) value <= high(size);
        }

        /** The first and the last allowed value; nothing if none is allowed. */
        List<Object> lastAllowed(Recipes size) {
            if (free.length > 0) {
                return List.of(free);
            }
            return low > high(size) ? List.of() : List.of(low, high(size));
        }

        /** The first values on both sides that are not allowed, and the farthest ones. */
        List<Object> firstRefused(Recipes size) {
            TreeSet<Integer> values = new TreeSet<>();
            if (free.length == 0) {
                values.add(Integer.MIN_VALUE);
                values.add(low - 1);
                if (high(size) < Integer.MAX_VALUE) {
                    values.add(Integer.MAX_VALUE);
                    values.add(high(size) + 1);
                }
            }
            return new ArrayList<>(values);
        }

        /** All these, and values that would be allowed if an argument were cut to fewer bits. */
        List<Object> all(Recipes size) {
            List<Object> values = new ArrayList<>(lastAllowed(size));
            values.addAll(firstRefused(size));
            if (free.length == 0 && high(size) < Integer.MAX_VALUE) {
                values.addAll(List.of(low + 32, low + 256, low + (1 << 16), low - 256));
            }
            return values;
        }
    }

    private static final int NODES = -1001;
    private static final int COMPONENTS = -1002;
    private static final int RULES = -1003;

    private static final class Refusal {
        final Class<?> thrown;
        final String line;
        final int[] parameters;

        Refusal(Class<?> thrown, String line, int... parameters) {
            this.thrown = thrown;
            this.line = "Throws `" + thrown.getSimpleName() + "` " + line;
            this.parameters = parameters;
        }
    }

    private static Parameter range(String line, int low, int high) {
        return new Parameter("- " + line, low, high);
    }

    private static Parameter any(String line, Object... values) {
        return new Parameter("- " + line, 0, 0, values);
    }

    private static Parameter node() {
        return range("`n`: node", 0, NODES);
    }

    private static Parameter component(String name) {
        return range("`" + name + "`: component", 0, COMPONENTS);
    }

    private static Parameter version() {
        return range("`v`: version, 0 to 3", 0, 3);
    }

    private static Refusal noIndex(String line, int... parameters) {
        return new Refusal(Checks.NO_INDEX, line, parameters);
    }

    private static Refusal badArgument(String line, int... parameters) {
        return new Refusal(Checks.BAD_ARGUMENT, line, parameters);
    }

    private final int promise;
    private final Method method;
    private final Parameter[] parameters;
    private Refusal[] refusals = {};

    /** What the state of a keeper may refuse although the arguments are right. */
    private boolean stateMayRefuse;

    private ArgumentEdges(int promise, String name, Parameter... parameters) {
        this.promise = promise;
        this.parameters = parameters;
        this.method = Arrays.stream(DesiredStateKeeper.class.getMethods())
                .filter(m -> m.getName().equals(name)).findFirst().orElseThrow();
    }

    private ArgumentEdges refuses(Refusal... inThisOrder) {
        refusals = inThisOrder;
        return this;
    }

    private ArgumentEdges orByState() {
        stateMayRefuse = true;
        return this;
    }

    private static List<ArgumentEdges> calls() {
        List<ArgumentEdges> calls = new ArrayList<>();
        String noNode = "if there is no such node";
        String noComponent = "if there is no such component";
        String noNodeOrComponent = "if there is no such node or component";
        String badVersion = "if v is out of range";
        calls.add(new ArgumentEdges(2, "append", range("`c`: character code, 0 to 255", 0, 255))
                .refuses(badArgument("if c is out of range", 0)).orByState());
        calls.add(new ArgumentEdges(6, "about", range("`what`: ", 0, 7))
                .refuses(badArgument("if what is not 0 to 7", 0)));
        calls.add(new ArgumentEdges(7, "node", node(), range("`what`: ", 0, 6))
                .refuses(noIndex(noNode, 0), badArgument("if what is not 0 to 6", 1)));
        calls.add(new ArgumentEdges(8, "version", node(), component("c"),
                any("`wished`: true for the wished version, false for the present one", BOTH))
                .refuses(noIndex(noNodeOrComponent, 0, 1)));
        calls.add(new ArgumentEdges(9, "rule", range("`r`: rule", 0, RULES),
                range("`what`: 0: its kind; 1: a; 2: x; 3: b; 4: y", 0, 4))
                .refuses(noIndex("if there is no such rule", 0), badArgument("if what is not 0 to 4", 1)));
        calls.add(new ArgumentEdges(10, "approvals", component("c"), version())
                .refuses(noIndex(noComponent, 0), badArgument(badVersion, 1)));
        calls.add(new ArgumentEdges(11, "quorum", component("c")).refuses(noIndex(noComponent, 0)));
        calls.add(new ArgumentEdges(12, "wish", node(), component("c"), version())
                .refuses(noIndex(noNodeOrComponent, 0, 1), badArgument(badVersion, 2)));
        calls.add(new ArgumentEdges(13, "wishRing", range("`ring`: ring, 0 to 2", 0, 2), component("c"), version())
                .refuses(noIndex(noComponent, 1), badArgument("if ring or v is out of range", 0, 2)));
        calls.add(new ArgumentEdges(14, "drift", node(), component("c"), version())
                .refuses(noIndex(noNodeOrComponent, 0, 1), badArgument(badVersion, 2)));
        calls.add(new ArgumentEdges(15, "approve", component("c"), version(), range("`who`: approver, 0 to 4", 0, 4))
                .refuses(noIndex("if there is no such component or approver", 0, 2), badArgument(badVersion, 1))
                .orByState());
        calls.add(new ArgumentEdges(16, "dismiss", range("`who`: approver, 0 to 4", 0, 4))
                .refuses(noIndex("if there is no such approver", 0)));
        calls.add(new ArgumentEdges(17, "setQuorum", component("c"), range("`v`: new quorum, 0 to 5", 0, 5))
                .refuses(noIndex(noComponent, 0), badArgument(badVersion, 1)));
        calls.add(new ArgumentEdges(18, "setFaults", node(), range("`v`: new number of faults, 0 to 9", 0, 9))
                .refuses(noIndex(noNode, 0), badArgument(badVersion, 1)));
        calls.add(new ArgumentEdges(19, "pardon", node()).refuses(noIndex(noNode, 0)).orByState());
        calls.add(new ArgumentEdges(20, "tick", range("`n`: number of ticks, 1 to 50", 1, 50))
                .refuses(badArgument("if n is out of range", 0)));
        addCallsThatChangeNothing(calls, noNode, noComponent, noNodeOrComponent, badVersion);
        calls.add(new ArgumentEdges(37, "save", range("`slot`: 0 or 1", 0, 1))
                .refuses(noIndex("if there is no such slot", 0)));
        calls.add(new ArgumentEdges(38, "restore", range("`slot`: 0 or 1", 0, 1))
                .refuses(noIndex("if there is no such slot", 0)).orByState());
        return calls;
    }

    private static void addCallsThatChangeNothing(List<ArgumentEdges> calls, String noNode, String noComponent,
            String noNodeOrComponent, String badVersion) {
        calls.add(new ArgumentEdges(22, "state", node(), component("c")).refuses(noIndex(noNodeOrComponent, 0, 1)));
        calls.add(new ArgumentEdges(23, "next", node()).refuses(noIndex(noNode, 0)));
        calls.add(new ArgumentEdges(24, "breaks", node(), component("c"), version())
                .refuses(noIndex(noNodeOrComponent, 0, 1), badArgument(badVersion, 2)));
        calls.add(new ArgumentEdges(25, "holdsUp", range("`r`: rule", 0, RULES))
                .refuses(noIndex("if there is no such rule", 0)));
        calls.add(new ArgumentEdges(26, "missing", component("c")).refuses(noIndex(noComponent, 0)));
        calls.add(new ArgumentEdges(27, "ahead", range("`t`: number of ticks, 0 to 99", 0, 99), node(),
                range("`what`: 0 to 6, as for node", 0, 6))
                .refuses(noIndex(noNode, 1), badArgument("if t or what is out of range", 0, 2)));
        calls.add(new ArgumentEdges(28, "calmAfter"));
        calls.add(new ArgumentEdges(29, "fewest", node()).refuses(noIndex(noNode, 0)));
        calls.add(new ArgumentEdges(30, "step", node(),
                range("`i`: index, from 0, of the change", 0, Integer.MAX_VALUE))
                .refuses(noIndex(noNode, 0), badArgument("if i is negative", 1)));
        calls.add(new ArgumentEdges(31, "needed", component("c"), version(), component("b"))
                .refuses(noIndex(noComponent, 0, 2), badArgument(badVersion, 1)));
        calls.add(new ArgumentEdges(32, "isPossible", component("c"), version())
                .refuses(noIndex(noComponent, 0), badArgument(badVersion, 1)));
        calls.add(new ArgumentEdges(33, "explains", node(),
                range("`digest`: the digest that the node would have, 0 to 63", 0, 63))
                .refuses(noIndex(noNode, 0), badArgument("if digest is out of range", 1)));
        calls.add(new ArgumentEdges(34, "ranked", range("`i`: rank, 0 for the farthest", 0, NODES))
                .refuses(noIndex("if there are not so many nodes, or i is negative", 0)));
        calls.add(new ArgumentEdges(35, "runScript", range("`n`: number of commands, 1 to 4", 1, 4),
                any("`script`: the commands, a number of at most 4 * n digits (0 or more)", SHORT_SCRIPTS))
                .refuses(badArgument("if n is out of range, or if script is negative or has more than 4 * n digits",
                        0)));
        calls.add(new ArgumentEdges(36, "simulate", any("`seed`: any long", SEEDS),
                range("`m`: number of rounds, 1 to 60", 1, 60))
                .refuses(badArgument("if m is out of range", 1)));
    }

    static void run() {
        List<ArgumentEdges> calls = calls();
        for (ArgumentEdges call : calls) {
            call.parametersAllowTheirRanges();
            call.refusalsChangeNothing();
        }
        Sentences.term("IndexOutOfBoundsException means that a node, a component, a rule, an approver or a rank does "
                + "not exist, or that a slot is not 0 or 1.");
        grids(calls, Set.of(Checks.NO_INDEX));
        Sentences.term("IllegalArgumentException means that another argument, a version for instance, is out of its "
                + "range.");
        grids(calls, Set.of(Checks.BAD_ARGUMENT));
        Sentences.term("If several exceptions apply to a call, the one that its description names first is thrown.");
        grids(calls, Set.of(Checks.NO_INDEX, Checks.BAD_ARGUMENT));
        changeNothing(calls, "what there is", "about", "node", "version", "rule", "approvals", "quorum");
        changeNothing(calls, "why changes do not happen; these and all following methods up to the save slots change "
                + "nothing", "state", "next", "breaks", "holdsUp", "missing");
        changeNothing(calls, "the time to come, if there are ticks and no other actions", "ahead", "calmAfter");
        changeNothing(calls, "ways to the wish", "fewest", "step", "needed", "isPossible");
        changeNothing(calls, "digests, ranks", "explains", "ranked");
        changeNothing(calls, "scripts, simulations", "runScript", "simulate");
    }

    /** The calls of a section of the face leave everything as it was. */
    private static void changeNothing(List<ArgumentEdges> calls, String section, String... names) {
        Sentences.term(Sentences.ahead(section, names));
        for (String name : names) {
            calls.stream().filter(call -> call.method.getName().equals(name)).findFirst().orElseThrow()
                    .changesNothing();
        }
    }

    private Class<?> thrownBy(DesiredStateKeeper k, Object[] arguments) {
        try {
            method.invoke(k, arguments);
            return null;
        } catch (InvocationTargetException e) {
            return e.getCause().getClass();
        } catch (IllegalAccessException e) {
            return e.getClass();
        }
    }

    private void callOn(DesiredStateKeeper k, Object[] arguments) {
        try {
            method.invoke(k, arguments);
        } catch (InvocationTargetException e) {
            if (e.getCause() instanceof RuntimeException) {
                throw (RuntimeException) e.getCause();
            }
            throw new AssertionError(e);
        } catch (IllegalAccessException e) {
            throw new AssertionError(e);
        }
    }

    private String told(Object[] arguments) {
        return method.getName() + Arrays.toString(arguments);
    }

    /** All exceptions that apply, the one that is named first first. */
    private List<Class<?>> applying(Recipes size, Object[] arguments) {
        List<Class<?>> all = new ArrayList<>();
        for (Refusal refusal : refusals) {
            if (Arrays.stream(refusal.parameters).anyMatch(i -> !parameters[i].allows(size, arguments[i]))) {
                all.add(refusal.thrown);
            }
        }
        return all;
    }

    private Class<?> due(Recipes size, Object[] arguments) {
        List<Class<?>> all = applying(size, arguments);
        return all.isEmpty() ? null : all.get(0);
    }

    /** Right arguments, each the first or each the last of its range; null if there are none. */
    private Object[] right(Recipes size, boolean last) {
        Object[] arguments = new Object[parameters.length];
        for (int i = 0; i < arguments.length; i++) {
            List<Object> values = parameters[i].lastAllowed(size);
            if (values.isEmpty()) {
                return null;
            }
            arguments[i] = values.get(last ? values.size() - 1 : 0);
        }
        return arguments;
    }

    private void parametersAllowTheirRanges() {
        for (int i = 0; i < parameters.length; i++) {
            Sentences.promise(promise, parameters[i].line);
            for (Recipes size : Recipes.values()) {
                for (Object value : parameters[i].lastAllowed(size)) {
                    allowed(size, i, value, right(size, false));
                    allowed(size, i, value, right(size, true));
                }
            }
        }
    }

    private void allowed(Recipes size, int i, Object value, Object[] arguments) {
        if (arguments != null) {
            arguments[i] = value;
            Class<?> got = thrownBy(size.make(), arguments);
            boolean byState = stateMayRefuse && got == Checks.BAD_STATE;
            Checks.due(size + ": " + told(arguments) + " throws", byState ? null : got, null);
        }
    }

    private void refusalsChangeNothing() {
        for (Refusal refusal : refusals) {
            Sentences.promise(promise, refusal.line);
            for (Recipes size : Recipes.values()) {
                for (int i : refusal.parameters) {
                    for (Object value : parameters[i].firstRefused(size)) {
                        refused(refusal, size, i, value);
                    }
                }
            }
        }
    }

    private void refused(Refusal refusal, Recipes size, int i, Object value) {
        for (boolean last : new boolean[] {false, true}) {
            Object[] arguments = right(size, last);
            // where no rule exists, none of the arguments is right together with the others
            Object[] all = arguments != null ? arguments : right(Recipes.FULL, last);
            all[i] = value;
            if (due(size, all) == refusal.thrown) {
                Unchanged.refused(size, told(all), refusal.thrown, k -> callOn(k, all));
            }
        }
    }

    private static void grids(List<ArgumentEdges> calls, Set<Class<?>> applying) {
        for (ArgumentEdges call : calls) {
            for (Recipes size : Recipes.values()) {
                call.grid(size, applying);
            }
        }
    }

    /** All combinations of edges to which just these exceptions apply. */
    private void grid(Recipes size, Set<Class<?>> applying) {
        DesiredStateKeeper k = null;
        int calls = 0;
        for (Object[] row : combinations(size)) {
            if (new HashSet<>(applying(size, row)).equals(applying)) {
                if (calls % CALLS_FOR_A_GRID == 0) {
                    k = size.make();
                }
                calls++;
                Checks.due(size + ": " + told(row) + " throws", thrownBy(k, row), due(size, row));
            }
        }
    }

    private List<Object[]> combinations(Recipes size) {
        List<Object[]> rows = new ArrayList<>();
        rows.add(new Object[0]);
        for (Parameter parameter : parameters) {
            List<Object[]> longer = new ArrayList<>();
            for (Object[] row : rows) {
                for (Object value : parameter.all(size)) {
                    Object[] with = Arrays.copyOf(row, row.length + 1);
                    with[row.length] = value;
                    longer.add(with);
                }
            }
            rows = longer;
        }
        return rows;
    }

    private void changesNothing() {
        for (Recipes size : Recipes.values()) {
            for (boolean last : new boolean[] {false, true}) {
                Object[] arguments = right(size, last);
                if (arguments != null) {
                    Unchanged.quiet(size, told(arguments), k -> callOn(k, arguments));
                }
            }
        }
    }
}
