import java.util.ArrayDeque;
import java.util.ArrayList;
import java.util.Arrays;
import java.util.Comparator;
import java.util.Deque;
import java.util.HashMap;
import java.util.List;
import java.util.Map;
import java.util.TreeSet;
import java.util.function.Predicate;
import java.util.regex.Matcher;
import java.util.regex.Pattern;
import java.util.stream.Collectors;
import java.util.stream.IntStream;

/**
 * The document once more, as plainly as the Java library allows and in other ways than the class goes: texts by regular
 * expressions, ways by all best sequences, needs by the least of all versions with which they hold. Random runs compare
 * the two.
 */
final class PlainModel {

    private static final int NONE = -9;

    private static final class World implements Cloneable {
        int[][] present = new int[1][1];
        int[][] wished = new int[1][1];
        List<List<TreeSet<Integer>>> approvers = noApprovals(1);
        int[] quorums = new int[1];
        int[] faults = new int[1];
        int[] strikes = new int[1];
        int[] ends = new int[1];
        int time;
        int changes;

        World twin() {
            World w = new World();
            w.present = deep(present);
            w.wished = deep(wished);
            w.approvers = new ArrayList<>();
            for (List<TreeSet<Integer>> versions : approvers) {
                w.approvers.add(versions.stream().map(TreeSet::new).collect(Collectors.toList()));
            }
            w.quorums = quorums.clone();
            w.faults = faults.clone();
            w.strikes = strikes.clone();
            w.ends = ends.clone();
            w.time = time;
            w.changes = changes;
            return w;
        }

        private static int[][] deep(int[][] rows) {
            return Arrays.stream(rows).map(int[]::clone).toArray(int[][]::new);
        }

        private static List<List<TreeSet<Integer>>> noApprovals(int components) {
            List<List<TreeSet<Integer>>> all = new ArrayList<>();
            for (int c = 0; c < components; c++) {
                List<TreeSet<Integer>> versions = new ArrayList<>();
                for (int v = 0; v < 4; v++) {
                    versions.add(new TreeSet<>());
                }
                all.add(versions);
            }
            return all;
        }
    }

    private static final class Rule {
        boolean need;
        int a;
        int x;
        int b;
        int y;

        boolean holds(int[] versions) {
            if (need) {
                return !(versions[a] >= x) || versions[b] >= y;
            }
            return !(versions[a] >= x) || versions[b] < y;
        }
    }

    private String text = "";
    private int nodes = 1;
    private int components = 1;
    private int limit = 3;
    private int length = 5;
    private int[] rings = new int[1];
    private List<Rule> rules = new ArrayList<>();
    private World world = new World();
    private final Deque<World> past = new ArrayDeque<>();
    private final World[] slots = new World[2];

    // ---- text

    int append(int c) {
        argument(c >= 0 && c <= 255);
        state(text.length() < 160);
        text += (char) c;
        return text.length();
    }

    int clearText() {
        int before = text.length();
        text = "";
        return before;
    }

    private static Pattern pattern(int nodes, int components) {
        String component = "[0-" + (components - 1) + "]";
        String pairs = IntStream.range(0, components)
                .mapToObj(a -> a + "[1-3](?:" + others(a, components) + ")[1-3]")
                .collect(Collectors.joining("|"));
        String version = "(?:[wv][0-" + (nodes - 1) + "]" + component + "[0-3])*";
        String rule = components == 1 ? "" : "(?:[nx](?:" + pairs + ")" + version + "){0,10}";
        return Pattern.compile("D[1-5][1-6][1-9](?:0[1-9]|[1-4][0-9]|50)[0-2]{" + nodes + "}[0-5]{" + components + "}"
                + version + rule, Pattern.DOTALL);
    }

    private static String others(int a, int components) {
        return IntStream.range(0, components).filter(b -> b != a).mapToObj(Integer::toString)
                .collect(Collectors.joining("|"));
    }

    private Pattern patternOfText() {
        int n = text.length() > 1 && "12345".indexOf(text.charAt(1)) >= 0 ? text.charAt(1) - '0' : 1;
        int c = text.length() > 2 && "123456".indexOf(text.charAt(2)) >= 0 ? text.charAt(2) - '0' : 1;
        return pattern(n, c);
    }

    int errorPosition() {
        Pattern pattern = patternOfText();
        if (pattern.matcher(text).matches()) {
            return NONE;
        }
        for (int i = 0; i < text.length(); i++) {
            Matcher m = pattern.matcher(text.substring(0, i + 1));
            if (!m.matches() && !m.hitEnd()) {
                return i;
            }
        }
        return text.length();
    }

    int load() {
        state(patternOfText().matcher(text).matches());
        nodes = digit(1);
        components = digit(2);
        limit = digit(3);
        length = Integer.parseInt(text.substring(4, 6));
        rings = IntStream.range(0, nodes).map(n -> digit(6 + n)).toArray();
        world = new World();
        world.present = new int[nodes][components];
        world.wished = new int[nodes][components];
        world.approvers = World.noApprovals(components);
        world.quorums = IntStream.range(0, components).map(c -> digit(6 + nodes + c)).toArray();
        world.faults = new int[nodes];
        world.strikes = new int[nodes];
        world.ends = new int[nodes];
        rules = new ArrayList<>();
        Matcher m = Pattern.compile("[nx]\\d{4}|[wv]\\d{3}").matcher(text.substring(6 + nodes + components));
        while (m.find()) {
            item(m.group());
        }
        past.clear();
        slots[0] = null;
        slots[1] = null;
        return rules.size();
    }

    private int digit(int at) {
        return text.charAt(at) - '0';
    }

    private void item(String item) {
        int[] d = item.substring(1).chars().map(c -> c - '0').toArray();
        if (d.length == 3) {
            (item.charAt(0) == 'w' ? world.wished : world.present)[d[0]][d[1]] = d[2];
            return;
        }
        Rule rule = new Rule();
        rule.need = item.charAt(0) == 'n';
        rule.a = d[0];
        rule.x = d[1];
        rule.b = d[2];
        rule.y = d[3];
        rules.add(rule);
    }

    // ---- what there is

    int about(int what) {
        argument(what >= 0 && what <= 7);
        int[] answers = {nodes, components, rules.size(), limit, length, world.time, world.changes,
            set(nodes, n -> Arrays.equals(world.present[n], world.wished[n]))};
        return answers[what];
    }

    private static int set(int size, Predicate<Integer> has) {
        return IntStream.range(0, size).filter(has::test).map(i -> 1 << i).sum();
    }

    int node(int n, int what) {
        index(n, nodes);
        argument(what >= 0 && what <= 6);
        return number(world, n, what);
    }

    private int number(World w, int n, int what) {
        int[] answers = {rings[n], w.faults[n], w.strikes[n], quarantined(w, n) ? w.ends[n] : NONE,
            set(components, c -> w.present[n][c] != w.wished[n][c]),
            broken(rules, w.present[n]), digest(w.present[n])};
        return answers[what];
    }

    private static boolean quarantined(World w, int n) {
        return w.ends[n] > w.time;
    }

    private static int broken(List<Rule> rules, int[] versions) {
        return set(rules.size(), r -> !rules.get(r).holds(versions));
    }

    private static int digest(int[] versions) {
        return IntStream.range(0, versions.length).map(c -> (c + 1) * versions[c]).sum();
    }

    int version(int n, int c, boolean wished) {
        index(n, nodes);
        index(c, components);
        return (wished ? world.wished : world.present)[n][c];
    }

    int rule(int r, int what) {
        index(r, rules.size());
        argument(what >= 0 && what <= 4);
        Rule rule = rules.get(r);
        return new int[] {rule.need ? 0 : 1, rule.a, rule.x, rule.b, rule.y}[what];
    }

    int approvals(int c, int v) {
        index(c, components);
        argument(v >= 0 && v <= 3);
        return world.approvers.get(c).get(v).stream().mapToInt(who -> 1 << who).sum();
    }

    int quorum(int c) {
        index(c, components);
        return world.quorums[c];
    }

    // ---- actions

    private void remember() {
        past.addLast(world.twin());
        if (past.size() > 14) {
            past.removeFirst();
        }
    }

    int wish(int n, int c, int v) {
        index(n, nodes);
        index(c, components);
        argument(v >= 0 && v <= 3);
        remember();
        int before = world.wished[n][c];
        world.wished[n][c] = v;
        return before;
    }

    int wishRing(int ring, int c, int v) {
        index(c, components);
        argument(ring >= 0 && ring <= 2 && v >= 0 && v <= 3);
        remember();
        int[] found = IntStream.range(0, nodes).filter(n -> rings[n] == ring).toArray();
        for (int n : found) {
            world.wished[n][c] = v;
        }
        return found.length;
    }

    int drift(int n, int c, int v) {
        index(n, nodes);
        index(c, components);
        argument(v >= 0 && v <= 3);
        remember();
        int before = world.present[n][c];
        world.present[n][c] = v;
        return before;
    }

    int approve(int c, int v, int who) {
        index(c, components);
        index(who, 5);
        argument(v >= 0 && v <= 3);
        TreeSet<Integer> approvers = world.approvers.get(c).get(v);
        state(!approvers.contains(who));
        remember();
        approvers.add(who);
        return approvers.size();
    }

    int dismiss(int who) {
        index(who, 5);
        remember();
        int removed = 0;
        for (List<TreeSet<Integer>> versions : world.approvers) {
            for (TreeSet<Integer> approvers : versions) {
                removed += approvers.remove(who) ? 1 : 0;
            }
        }
        return removed;
    }

    int setQuorum(int c, int v) {
        index(c, components);
        argument(v >= 0 && v <= 5);
        remember();
        int before = world.quorums[c];
        world.quorums[c] = v;
        return before;
    }

    int setFaults(int n, int v) {
        index(n, nodes);
        argument(v >= 0 && v <= 9);
        remember();
        int before = world.faults[n];
        world.faults[n] = v;
        return before;
    }

    int pardon(int n) {
        index(n, nodes);
        state(quarantined(world, n));
        remember();
        int earlier = world.ends[n] - world.time;
        world.ends[n] = world.time;
        world.strikes[n] = 0;
        return earlier;
    }

    int tick(int n) {
        argument(n >= 1 && n <= 50);
        remember();
        int before = world.changes;
        for (int i = 0; i < n; i++) {
            pass(world);
        }
        return world.changes - before;
    }

    private void pass(World w) {
        w.time++;
        for (int n = 0; n < nodes; n++) {
            int c = first(w, n);
            if (c == NONE) {
                continue;
            }
            if (w.faults[n] > 0) {
                w.faults[n]--;
                w.strikes[n]++;
                if (w.strikes[n] == limit) {
                    w.strikes[n] = 0;
                    w.ends[n] = w.time + length;
                }
            } else {
                w.present[n][c] = w.wished[n][c];
                w.strikes[n] = 0;
                w.changes++;
            }
        }
    }

    private int first(World w, int n) {
        return IntStream.range(0, components).filter(c -> stateIn(w, rules, n, c) == 0).findFirst().orElse(NONE);
    }

    private int stateIn(World w, List<Rule> under, int n, int c) {
        if (w.present[n][c] == w.wished[n][c]) {
            return 1;
        }
        if (quarantined(w, n)) {
            return 2;
        }
        if (w.approvers.get(c).get(w.wished[n][c]).size() < w.quorums[c]) {
            return 3;
        }
        if (IntStream.range(0, nodes).anyMatch(m -> rings[m] < rings[n] && !quarantined(w, m)
                && w.present[m][c] != w.wished[m][c])) {
            return 4;
        }
        return safe(under, w.present[n], with(w.present[n], c, w.wished[n][c])) ? 0 : 5;
    }

    private static int[] with(int[] versions, int c, int v) {
        int[] changed = versions.clone();
        changed[c] = v;
        return changed;
    }

    private static boolean safe(List<Rule> under, int[] before, int[] after) {
        return under.stream().allMatch(rule -> rule.holds(after) || !rule.holds(before));
    }

    int undo() {
        state(!past.isEmpty());
        world = past.removeLast();
        return past.size();
    }

    // ---- why changes do not happen

    int state(int n, int c) {
        index(n, nodes);
        index(c, components);
        return stateIn(world, rules, n, c);
    }

    int next(int n) {
        index(n, nodes);
        return first(world, n);
    }

    int breaks(int n, int c, int v) {
        index(n, nodes);
        index(c, components);
        argument(v >= 0 && v <= 3);
        int[] now = world.present[n];
        return set(rules.size(), r -> rules.get(r).holds(now) && !rules.get(r).holds(with(now, c, v)));
    }

    int holdsUp(int r) {
        index(r, rules.size());
        List<Rule> others = new ArrayList<>(rules);
        others.remove(r);
        int pairs = 0;
        for (int n = 0; n < nodes; n++) {
            for (int c = 0; c < components; c++) {
                if (stateIn(world, rules, n, c) == 5 && stateIn(world, others, n, c) != 5) {
                    pairs++;
                }
            }
        }
        return pairs;
    }

    int missing(int c) {
        index(c, components);
        return IntStream.range(0, nodes).filter(n -> world.present[n][c] != world.wished[n][c])
                .map(n -> world.wished[n][c]).distinct()
                .map(v -> Math.max(0, world.quorums[c] - world.approvers.get(c).get(v).size())).sum();
    }

    // ---- the time to come

    int ahead(int t, int n, int what) {
        index(n, nodes);
        argument(t >= 0 && t <= 99 && what >= 0 && what <= 6);
        World w = world.twin();
        for (int i = 0; i < t; i++) {
            pass(w);
        }
        return number(w, n, what);
    }

    int calmAfter() {
        World w = world.twin();
        for (int t = 0; t <= 99; t++) {
            if (Arrays.deepEquals(w.present, w.wished)) {
                return t;
            }
            pass(w);
        }
        return NONE;
    }

    // ---- ways to the wish

    int fewest(int n) {
        index(n, nodes);
        List<Integer> way = way(n);
        return way == null ? NONE : way.size();
    }

    int step(int n, int i) {
        index(n, nodes);
        argument(i >= 0);
        List<Integer> way = way(n);
        return way == null || i >= way.size() ? NONE : way.get(i);
    }

    /** Goes forward level by level, and keeps for all versions that are reached the smallest sequence to them. */
    private List<Integer> way(int n) {
        Map<String, List<Integer>> seen = new HashMap<>();
        Map<String, int[]> level = new HashMap<>();
        String goal = Arrays.toString(world.wished[n]);
        seen.put(Arrays.toString(world.present[n]), new ArrayList<>());
        level.put(Arrays.toString(world.present[n]), world.present[n]);
        while (!level.isEmpty() && !seen.containsKey(goal)) {
            Map<String, List<Integer>> found = new HashMap<>();
            Map<String, int[]> nextLevel = new HashMap<>();
            for (Map.Entry<String, int[]> at : level.entrySet()) {
                for (int change = 0; change < 4 * components; change++) {
                    int[] after = with(at.getValue(), change / 4, change % 4);
                    String name = Arrays.toString(after);
                    if (!seen.containsKey(name) && safe(rules, at.getValue(), after)) {
                        List<Integer> way = new ArrayList<>(seen.get(at.getKey()));
                        way.add(change);
                        found.merge(name, way, PlainModel::smaller);
                        nextLevel.put(name, after);
                    }
                }
            }
            seen.putAll(found);
            level = nextLevel;
        }
        return seen.get(goal);
    }

    private static List<Integer> smaller(List<Integer> a, List<Integer> b) {
        for (int i = 0; i < a.size(); i++) {
            int order = Integer.compare(a.get(i), b.get(i));
            if (order != 0) {
                return order < 0 ? a : b;
            }
        }
        return a;
    }

    private List<int[]> allVersions() {
        List<int[]> all = new ArrayList<>();
        for (int code = 0; code < Math.pow(4, components); code++) {
            int[] versions = new int[components];
            int rest = code;
            for (int c = 0; c < components; c++) {
                versions[c] = rest % 4;
                rest /= 4;
            }
            all.add(versions);
        }
        return all;
    }

    int needed(int c, int v, int b) {
        index(c, components);
        index(b, components);
        argument(v >= 0 && v <= 3);
        return allVersions().stream().filter(versions -> versions[c] >= v)
                .filter(versions -> rules.stream().allMatch(rule -> !rule.need || rule.holds(versions)))
                .mapToInt(versions -> versions[b]).min().getAsInt();
    }

    boolean isPossible(int c, int v) {
        index(c, components);
        argument(v >= 0 && v <= 3);
        return allVersions().stream().anyMatch(versions -> versions[c] >= v && broken(rules, versions) == 0);
    }

    // ---- digests, ranks

    int explains(int n, int digest) {
        index(n, nodes);
        argument(digest >= 0 && digest <= 63);
        int[] now = world.present[n];
        return set(4 * components, i -> now[i / 4] != i % 4 && digest(with(now, i / 4, i % 4)) == digest);
    }

    int ranked(int i) {
        index(i, nodes);
        Comparator<Integer> byDrift = Comparator.comparing(n -> -Integer.bitCount(number(world, n, 4)));
        return IntStream.range(0, nodes).boxed()
                .sorted(byDrift.thenComparing(n -> -Integer.bitCount(number(world, n, 5))).thenComparing(n -> n))
                .collect(Collectors.toList()).get(i);
    }

    // ---- scripts, simulations

    int runScript(int n, long script) {
        argument(n >= 1 && n <= 4);
        argument(script >= 0 && Long.toString(script).length() <= 4 * n);
        StringBuilder digits = new StringBuilder(Long.toString(script));
        while (digits.length() < 4 * n) {
            digits.insert(0, '0');
        }
        World w = world.twin();
        for (int i = 0; i < n; i++) {
            if (!succeeds(w, digits.substring(4 * i, 4 * i + 4))) {
                return i;
            }
        }
        return NONE;
    }

    private boolean succeeds(World w, String command) {
        int p = command.charAt(1) - '0';
        int q = command.charAt(2) - '0';
        int r = command.charAt(3) - '0';
        boolean place = p < nodes && q < components;
        if (command.matches("[12]..[0-3]") && place) {
            (command.charAt(0) == '1' ? w.wished : w.present)[p][q] = r;
            return true;
        }
        if (command.matches("3.[0-3][0-4]") && p < components) {
            w.approvers.get(p).get(q).add(r);
            return true;
        }
        if (command.matches("40(0[1-9]|[1-4].|50)")) {
            for (int i = 0; i < 10 * q + r; i++) {
                pass(w);
            }
            return true;
        }
        if (command.matches("5.0.") && p < nodes) {
            w.faults[p] = r;
            return true;
        }
        if (command.matches("6..[0-3]") && place) {
            return w.present[p][q] == r;
        }
        if (command.matches("7...") && place) {
            return stateIn(w, rules, p, q) == r;
        }
        return command.matches("80..") && w.changes >= 10 * q + r;
    }

    int simulate(long seed, int m) {
        argument(m >= 1 && m <= 60);
        World w = world.twin();
        long x = seed;
        for (int i = 0; i < m; i++) {
            x = x * 6364136223846793005L + 1442695040888963407L;
            int r = (int) (x >>> 33);
            if (r % 3 == 0) {
                w.present[r / 64 % nodes][r / 4 % components] = r / 1024 % 4;
            }
            if (r % 3 == 1) {
                w.faults[r / 64 % nodes] = r / 4096 % 4;
            }
            pass(w);
        }
        int drifted = 0;
        for (int n = 0; n < nodes; n++) {
            drifted += Arrays.equals(w.present[n], w.wished[n]) ? 0 : 1;
        }
        return w.changes - world.changes + 1000 * drifted;
    }

    // ---- save slots

    int save(int slot) {
        index(slot, 2);
        slots[slot] = world.twin();
        return world.time;
    }

    int restore(int slot) {
        index(slot, 2);
        state(slots[slot] != null);
        world = slots[slot].twin();
        past.clear();
        return world.time;
    }

    // ---- exceptions

    private static void index(int i, int size) {
        if (i < 0 || i >= size) {
            throw new IndexOutOfBoundsException();
        }
    }

    private static void argument(boolean right) {
        if (!right) {
            throw new IllegalArgumentException();
        }
    }

    private static void state(boolean right) {
        if (!right) {
            throw new IllegalStateException();
        }
    }
}
