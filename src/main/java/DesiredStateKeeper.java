import java.util.Arrays;

/**
 * A keeper of desired states: nodes have components in versions, which drift away from the versions that are wished;
 * changes are made node by node if they are approved by a quorum, if lower rings are done, and if they break no rule;
 * nodes on which changes fail again and again are quarantined.
 */
public final class DesiredStateKeeper {

    /** There is no such result. */
    public static final int NONE = -9;

    private static final int MAX_NODES = 5;
    private static final int MAX_COMPONENTS = 6;
    private static final int MAX_RULES = 10;
    private static final int MAX_TEXT = 160;
    private static final int MAX_REMEMBERED = 14;
    private static final int MAX_VERSION = 3;
    private static final int MAX_RING = 2;
    private static final int MAX_QUORUM = 5;
    private static final int MAX_FAULTS = 9;
    private static final int MAX_TICKS = 50;
    private static final int MAX_TICKS_AHEAD = 99;
    private static final int MAX_COMMANDS = 4;
    private static final int MAX_ROUNDS = 60;
    private static final int MAX_DIGEST = 63;
    private static final int APPROVERS = 5;
    private static final int VERSIONS = 4;
    private static final int SLOTS = 2;
    private static final int NEED = 0;
    private static final int BAR = 1;

    /** How many ways there are to give all components a version. */
    private static final int MAX_CODES = 1 << 2 * MAX_COMPONENTS;

    private static final int READY = 0;
    private static final int NOT_DRIFTED = 1;
    private static final int QUARANTINED = 2;
    private static final int NOT_APPROVED = 3;
    private static final int LOWER_RING_DRIFTED = 4;
    private static final int NOT_SAFE = 5;

    private final char[] text = new char[MAX_TEXT];
    private int textLength;
    private final TextReader reader = new TextReader(text);
    private final Plan plan = new Plan();
    private final Ways ways = new Ways(plan);
    private final State current = new State(plan);

    /** The copy on which ticks to come, scripts and simulations run. */
    private final State trial = new State(plan);
    private final Memory memory = new Memory(plan);
    private final State[] slots = new State[SLOTS];
    private final boolean[] slotFilled = new boolean[SLOTS];

    public DesiredStateKeeper() {
        for (int i = 0; i < SLOTS; i++) {
            slots[i] = new State(plan);
        }
    }

    // ---- text

    public int append(int c) throws IllegalArgumentException, IllegalStateException {
        requireRange(c, 0, 255);
        if (textLength >= MAX_TEXT) {
            throw new IllegalStateException("the text is full");
        }
        text[textLength] = (char) c;
        textLength++;
        return textLength;
    }

    public int clearText() {
        int before = textLength;
        textLength = 0;
        return before;
    }

    public int errorPosition() {
        return reader.read(textLength);
    }

    public int load() throws IllegalStateException {
        if (reader.read(textLength) != NONE) {
            throw new IllegalStateException("the text is not a keeper text");
        }
        plan.take(reader);
        current.take(reader);
        ways.forget();
        memory.forget();
        for (int i = 0; i < SLOTS; i++) {
            slotFilled[i] = false;
        }
        return plan.rules.count;
    }

    // ---- what there is

    public int about(int what) throws IllegalArgumentException {
        switch (what) {
            case 0:
                return plan.nodes;
            case 1:
                return plan.components;
            case 2:
                return plan.rules.count;
            case 3:
                return plan.limit;
            case 4:
                return plan.length;
            case 5:
                return current.time;
            case 6:
                return current.changes;
            case 7:
                return current.calmNodes();
            default:
                throw new IllegalArgumentException("there is no such number");
        }
    }

    public int node(int n, int what) throws IndexOutOfBoundsException, IllegalArgumentException {
        requireNode(n);
        requireRange(what, 0, 6);
        return current.numberOf(n, what);
    }

    public int version(int n, int c, boolean wished) throws IndexOutOfBoundsException {
        requireNode(n);
        requireComponent(c);
        return Code.versionIn(wished ? current.wished[n] : current.present[n], c);
    }

    public int rule(int r, int what) throws IndexOutOfBoundsException, IllegalArgumentException {
        requireRule(r);
        requireRange(what, 0, 4);
        return plan.rules.part(r, what);
    }

    public int approvals(int c, int v) throws IndexOutOfBoundsException, IllegalArgumentException {
        requireComponent(c);
        requireRange(v, 0, MAX_VERSION);
        return current.approvers[Code.change(c, v)];
    }

    public int quorum(int c) throws IndexOutOfBoundsException {
        requireComponent(c);
        return current.quorums[c];
    }

    // ---- actions

    public int wish(int n, int c, int v) throws IndexOutOfBoundsException, IllegalArgumentException {
        requireNode(n);
        requireComponent(c);
        requireRange(v, 0, MAX_VERSION);
        memory.remember(current);
        int before = Code.versionIn(current.wished[n], c);
        current.wished[n] = Code.with(current.wished[n], c, v);
        return before;
    }

    public int wishRing(int ring, int c, int v) throws IndexOutOfBoundsException, IllegalArgumentException {
        requireComponent(c);
        requireRange(ring, 0, MAX_RING);
        requireRange(v, 0, MAX_VERSION);
        memory.remember(current);
        int found = 0;
        for (int n = 0; n < plan.nodes; n++) {
            if (plan.rings[n] == ring) {
                current.wished[n] = Code.with(current.wished[n], c, v);
                found++;
            }
        }
        return found;
    }

    public int drift(int n, int c, int v) throws IndexOutOfBoundsException, IllegalArgumentException {
        requireNode(n);
        requireComponent(c);
        requireRange(v, 0, MAX_VERSION);
        memory.remember(current);
        int before = Code.versionIn(current.present[n], c);
        current.present[n] = Code.with(current.present[n], c, v);
        return before;
    }

    public int approve(int c, int v, int who)
            throws IndexOutOfBoundsException, IllegalArgumentException, IllegalStateException {
        requireComponent(c);
        requireApprover(who);
        requireRange(v, 0, MAX_VERSION);
        int i = Code.change(c, v);
        if ((current.approvers[i] & 1 << who) != 0) {
            throw new IllegalStateException("the approver approves of it already");
        }
        memory.remember(current);
        current.approvers[i] |= 1 << who;
        return Integer.bitCount(current.approvers[i]);
    }

    public int dismiss(int who) throws IndexOutOfBoundsException {
        requireApprover(who);
        memory.remember(current);
        int removed = 0;
        for (int i = 0; i < current.approvers.length; i++) {
            if ((current.approvers[i] & 1 << who) != 0) {
                current.approvers[i] &= ~(1 << who);
                removed++;
            }
        }
        return removed;
    }

    public int setQuorum(int c, int v) throws IndexOutOfBoundsException, IllegalArgumentException {
        requireComponent(c);
        requireRange(v, 0, MAX_QUORUM);
        memory.remember(current);
        int before = current.quorums[c];
        current.quorums[c] = v;
        return before;
    }

    public int setFaults(int n, int v) throws IndexOutOfBoundsException, IllegalArgumentException {
        requireNode(n);
        requireRange(v, 0, MAX_FAULTS);
        memory.remember(current);
        int before = current.faults[n];
        current.faults[n] = v;
        return before;
    }

    public int pardon(int n) throws IndexOutOfBoundsException, IllegalStateException {
        requireNode(n);
        if (!current.isQuarantined(n)) {
            throw new IllegalStateException("the node is not quarantined");
        }
        memory.remember(current);
        int earlier = current.quarantineEnds[n] - current.time;
        current.quarantineEnds[n] = current.time;
        current.strikes[n] = 0;
        return earlier;
    }

    public int tick(int n) throws IllegalArgumentException {
        requireRange(n, 1, MAX_TICKS);
        memory.remember(current);
        int before = current.changes;
        current.passTicks(n);
        return current.changes - before;
    }

    public int undo() throws IllegalStateException {
        if (memory.count == 0) {
            throw new IllegalStateException("no state is remembered");
        }
        memory.takeBack(current);
        return memory.count;
    }

    // ---- why changes do not happen

    public int state(int n, int c) throws IndexOutOfBoundsException {
        requireNode(n);
        requireComponent(c);
        return current.stateOf(n, c);
    }

    public int next(int n) throws IndexOutOfBoundsException {
        requireNode(n);
        return current.readyOn(n);
    }

    public int breaks(int n, int c, int v) throws IndexOutOfBoundsException, IllegalArgumentException {
        requireNode(n);
        requireComponent(c);
        requireRange(v, 0, MAX_VERSION);
        return plan.rules.newlyBroken(current.present[n], Code.with(current.present[n], c, v));
    }

    public int holdsUp(int r) throws IndexOutOfBoundsException {
        requireRule(r);
        return current.pairsHeldUpBy(r);
    }

    public int missing(int c) throws IndexOutOfBoundsException {
        requireComponent(c);
        return current.missingApprovals(c);
    }

    // ---- the time to come

    public int ahead(int t, int n, int what) throws IndexOutOfBoundsException, IllegalArgumentException {
        requireNode(n);
        requireRange(t, 0, MAX_TICKS_AHEAD);
        requireRange(what, 0, 6);
        trial.copy(current);
        trial.passTicks(t);
        return trial.numberOf(n, what);
    }

    public int calmAfter() {
        trial.copy(current);
        for (int t = 0; t <= MAX_TICKS_AHEAD; t++) {
            if (trial.driftedNodes() == 0) {
                return t;
            }
            trial.passTicks(1);
        }
        return NONE;
    }

    // ---- ways to the wish

    public int fewest(int n) throws IndexOutOfBoundsException {
        requireNode(n);
        return ways.distance(current.present[n], current.wished[n]);
    }

    public int step(int n, int i) throws IndexOutOfBoundsException, IllegalArgumentException {
        requireNode(n);
        if (i < 0) {
            throw new IllegalArgumentException("the index is negative");
        }
        return ways.changeOfBest(current.present[n], current.wished[n], i);
    }

    public int needed(int c, int v, int b) throws IndexOutOfBoundsException, IllegalArgumentException {
        requireComponent(c);
        requireComponent(b);
        requireRange(v, 0, MAX_VERSION);
        return Code.versionIn(plan.rules.leastWithNeeds(Code.with(0, c, v)), b);
    }

    public boolean isPossible(int c, int v) throws IndexOutOfBoundsException, IllegalArgumentException {
        requireComponent(c);
        requireRange(v, 0, MAX_VERSION);
        return plan.rules.allow(c, v);
    }

    // ---- digests, ranks

    public int explains(int n, int digest) throws IndexOutOfBoundsException, IllegalArgumentException {
        requireNode(n);
        requireRange(digest, 0, MAX_DIGEST);
        return current.changesTo(n, digest);
    }

    public int ranked(int i) throws IndexOutOfBoundsException {
        requireNode(i);
        for (int n = 0; n < plan.nodes; n++) {
            if (current.rankOf(n) == i) {
                return n;
            }
        }
        return NONE;
    }

    // ---- scripts, simulations

    public int runScript(int n, long script) throws IllegalArgumentException {
        requireRange(n, 1, MAX_COMMANDS);
        long unit = 1;
        for (int i = 0; i < n; i++) {
            unit *= 10000;
        }
        if (script < 0 || script >= unit) {
            throw new IllegalArgumentException("the script is negative or too long");
        }
        trial.copy(current);
        for (int i = 0; i < n; i++) {
            unit /= 10000;
            int group = unit > 0 ? (int) (script / unit % 10000) : 0;
            if (!Command.succeeds(trial, group)) {
                return i;
            }
        }
        return NONE;
    }

    public int simulate(long seed, int m) throws IllegalArgumentException {
        requireRange(m, 1, MAX_ROUNDS);
        trial.copy(current);
        long x = seed;
        for (int i = 0; i < m; i++) {
            x = x * 6364136223846793005L + 1442695040888963407L;
            trial.disturb((int) (x >>> 33));
            trial.passTicks(1);
        }
        return trial.changes - current.changes + 1000 * Integer.bitCount(trial.driftedNodes());
    }

    // ---- save slots

    public int save(int slot) throws IndexOutOfBoundsException {
        requireSlot(slot);
        slots[slot].copy(current);
        slotFilled[slot] = true;
        return current.time;
    }

    public int restore(int slot) throws IndexOutOfBoundsException, IllegalStateException {
        requireSlot(slot);
        if (!slotFilled[slot]) {
            throw new IllegalStateException("the slot is empty");
        }
        current.copy(slots[slot]);
        memory.forget();
        return current.time;
    }

    // ---- tests of arguments

    private void requireNode(int n) {
        if (n < 0 || n >= plan.nodes) {
            throw new IndexOutOfBoundsException("there is no such node");
        }
    }

    private void requireComponent(int c) {
        if (c < 0 || c >= plan.components) {
            throw new IndexOutOfBoundsException("there is no such component");
        }
    }

    private void requireRule(int r) {
        if (r < 0 || r >= plan.rules.count) {
            throw new IndexOutOfBoundsException("there is no such rule");
        }
    }

    private static void requireApprover(int who) {
        if (who < 0 || who >= APPROVERS) {
            throw new IndexOutOfBoundsException("there is no such approver");
        }
    }

    private static void requireSlot(int slot) {
        if (slot < 0 || slot >= SLOTS) {
            throw new IndexOutOfBoundsException("there is no such slot");
        }
    }

    private static void requireRange(int value, int low, int high) {
        if (value < low || value > high) {
            throw new IllegalArgumentException("an argument is out of its range");
        }
    }

    /**
     * The versions of all components of a node as one number, a code, with two bits for each component: so a state is
     * copied in few steps, and what rules a code breaks can stand in a table.
     */
    private static final class Code {

        private Code() {
        }

        static int versionIn(int code, int c) {
            return code >> 2 * c & MAX_VERSION;
        }

        static int with(int code, int c, int v) {
            return code & ~(MAX_VERSION << 2 * c) | v << 2 * c;
        }

        /** The number of a change of a component to a version, which is also the index of its approvers. */
        static int change(int c, int v) {
            return VERSIONS * c + v;
        }
    }

    /** The rules, and which of them each code breaks. */
    private static final class RuleBook {

        private static final int PARTS = 5;

        private final int[] parts = new int[MAX_RULES * PARTS];
        private final int[] brokenBy = new int[MAX_CODES];
        private int codes = VERSIONS;
        int count;

        void clear(int components) {
            count = 0;
            codes = Math.min(1 << 2 * components, MAX_CODES);
            Arrays.fill(brokenBy, 0);
        }

        /** Takes a rule of the five numbers kind, a, x, b and y that begin at an index of a row. */
        void add(int[] row, int from) {
            if (count >= MAX_RULES || from < 0 || from + PARTS > row.length) {
                return;
            }
            System.arraycopy(row, from, parts, count * PARTS, PARTS);
            int r = count;
            count++;
            for (int code = 0; code < codes; code++) {
                if (isBroken(r, code)) {
                    brokenBy[code] |= 1 << r;
                }
            }
        }

        int part(int r, int what) {
            return parts[r * PARTS + what];
        }

        private boolean isBroken(int r, int code) {
            int at = r * PARTS;
            if (Code.versionIn(code, parts[at + 1]) < parts[at + 2]) {
                return false;
            }
            boolean reached = Code.versionIn(code, parts[at + 3]) >= parts[at + 4];
            return reached == (parts[at] == BAR);
        }

        int brokenOn(int code) {
            return brokenBy[code & MAX_CODES - 1];
        }

        int newlyBroken(int before, int after) {
            return brokenBy[after & MAX_CODES - 1] & ~brokenBy[before & MAX_CODES - 1];
        }

        /** The smallest versions that are at least those of the code and with which all needs hold. */
        int leastWithNeeds(int code) {
            int least = code;
            // each pass but the last raises a version, and no version rises more than three times
            for (int pass = 0; pass <= MAX_COMPONENTS * MAX_VERSION; pass++) {
                int raised = raisedByNeeds(least);
                if (raised == least) {
                    return least;
                }
                least = raised;
            }
            return least;
        }

        private int raisedByNeeds(int code) {
            int raised = code;
            for (int r = 0; r < count; r++) {
                if (part(r, 0) == NEED && isBroken(r, raised)) {
                    raised = Code.with(raised, part(r, 3), part(r, 4));
                }
            }
            return raised;
        }

        boolean allow(int c, int atLeast) {
            for (int code = 0; code < codes; code++) {
                if (brokenBy[code] == 0 && Code.versionIn(code, c) >= atLeast) {
                    return true;
                }
            }
            return false;
        }
    }

    /** What a text sets and only a text changes. */
    private static final class Plan {

        int nodes = 1;
        int components = 1;
        int limit = 3;
        int length = 5;
        final int[] rings = new int[MAX_NODES];
        final RuleBook rules = new RuleBook();

        void take(TextReader from) {
            nodes = from.nodes;
            components = from.components;
            limit = from.limit;
            length = from.length;
            System.arraycopy(from.rings, 0, rings, 0, MAX_NODES);
            rules.clear(components);
            for (int r = 0; r < from.ruleCount; r++) {
                rules.add(from.rules, r * RuleBook.PARTS);
            }
        }

        boolean has(int n, int c) {
            return n >= 0 && n < nodes && c >= 0 && c < components;
        }
    }

    /** What actions change. */
    private static final class State {

        private final Plan plan;
        final int[] present = new int[MAX_NODES];
        final int[] wished = new int[MAX_NODES];
        final int[] faults = new int[MAX_NODES];
        final int[] strikes = new int[MAX_NODES];
        final int[] quarantineEnds = new int[MAX_NODES];
        final int[] quorums = new int[MAX_COMPONENTS];
        final int[] approvers = new int[MAX_COMPONENTS * VERSIONS];
        int time;
        int changes;

        State(Plan plan) {
            this.plan = plan;
        }

        void copy(State from) {
            System.arraycopy(from.present, 0, present, 0, MAX_NODES);
            System.arraycopy(from.wished, 0, wished, 0, MAX_NODES);
            System.arraycopy(from.faults, 0, faults, 0, MAX_NODES);
            System.arraycopy(from.strikes, 0, strikes, 0, MAX_NODES);
            System.arraycopy(from.quarantineEnds, 0, quarantineEnds, 0, MAX_NODES);
            System.arraycopy(from.quorums, 0, quorums, 0, MAX_COMPONENTS);
            System.arraycopy(from.approvers, 0, approvers, 0, MAX_COMPONENTS * VERSIONS);
            time = from.time;
            changes = from.changes;
        }

        void take(TextReader from) {
            System.arraycopy(from.present, 0, present, 0, MAX_NODES);
            System.arraycopy(from.wished, 0, wished, 0, MAX_NODES);
            System.arraycopy(from.quorums, 0, quorums, 0, MAX_COMPONENTS);
            Arrays.fill(faults, 0);
            Arrays.fill(strikes, 0);
            Arrays.fill(quarantineEnds, 0);
            Arrays.fill(approvers, 0);
            time = 0;
            changes = 0;
        }

        boolean isQuarantined(int n) {
            return quarantineEnds[n] > time;
        }

        private boolean isDrifted(int n, int c) {
            return ((present[n] ^ wished[n]) >> 2 * c & MAX_VERSION) != 0;
        }

        private int driftedOn(int n) {
            int set = 0;
            for (int c = 0; c < plan.components; c++) {
                if (isDrifted(n, c)) {
                    set |= 1 << c;
                }
            }
            return set;
        }

        int driftedNodes() {
            int set = 0;
            for (int n = 0; n < plan.nodes; n++) {
                if (present[n] != wished[n]) {
                    set |= 1 << n;
                }
            }
            return set;
        }

        int calmNodes() {
            return (1 << plan.nodes) - 1 & ~driftedNodes();
        }

        private int digestOf(int n) {
            int sum = 0;
            for (int c = 0; c < plan.components; c++) {
                sum += (c + 1) * Code.versionIn(present[n], c);
            }
            return sum;
        }

        int numberOf(int n, int what) {
            switch (what) {
                case 0:
                    return plan.rings[n];
                case 1:
                    return faults[n];
                case 2:
                    return strikes[n];
                case 3:
                    return isQuarantined(n) ? quarantineEnds[n] : NONE;
                case 4:
                    return driftedOn(n);
                case 5:
                    return plan.rules.brokenOn(present[n]);
                default:
                    return digestOf(n);
            }
        }

        int stateOf(int n, int c) {
            if (!isDrifted(n, c)) {
                return NOT_DRIFTED;
            }
            if (isQuarantined(n)) {
                return QUARANTINED;
            }
            if (missingTo(c, Code.versionIn(wished[n], c)) > 0) {
                return NOT_APPROVED;
            }
            if (isDriftedBelow(plan.rings[n], c)) {
                return LOWER_RING_DRIFTED;
            }
            return brokenByWish(n, c) != 0 ? NOT_SAFE : READY;
        }

        private int missingTo(int c, int v) {
            return Math.max(0, quorums[c] - Integer.bitCount(approvers[Code.change(c, v)]));
        }

        private boolean isDriftedBelow(int ring, int c) {
            for (int n = 0; n < plan.nodes; n++) {
                if (plan.rings[n] < ring && !isQuarantined(n) && isDrifted(n, c)) {
                    return true;
                }
            }
            return false;
        }

        private int brokenByWish(int n, int c) {
            return plan.rules.newlyBroken(present[n], Code.with(present[n], c, Code.versionIn(wished[n], c)));
        }

        /** The component that the node attempts to change if it comes now; NONE if there is none. */
        int readyOn(int n) {
            for (int c = 0; c < plan.components; c++) {
                if (stateOf(n, c) == READY) {
                    return c;
                }
            }
            return NONE;
        }

        void passTicks(int ticks) {
            for (int i = 0; i < ticks; i++) {
                time++;
                for (int n = 0; n < plan.nodes; n++) {
                    int c = readyOn(n);
                    if (c != NONE) {
                        attempt(n, c);
                    }
                }
            }
        }

        private void attempt(int n, int c) {
            if (faults[n] == 0) {
                present[n] = Code.with(present[n], c, Code.versionIn(wished[n], c));
                strikes[n] = 0;
                changes++;
                return;
            }
            faults[n]--;
            strikes[n]++;
            if (strikes[n] == plan.limit) {
                strikes[n] = 0;
                quarantineEnds[n] = time + plan.length;
            }
        }

        int pairsHeldUpBy(int r) {
            int pairs = 0;
            for (int n = 0; n < plan.nodes; n++) {
                for (int c = 0; c < plan.components; c++) {
                    if (stateOf(n, c) == NOT_SAFE && brokenByWish(n, c) == 1 << r) {
                        pairs++;
                    }
                }
            }
            return pairs;
        }

        int missingApprovals(int c) {
            int sum = 0;
            for (int v = 0; v < VERSIONS; v++) {
                if (isAwaited(c, v)) {
                    sum += missingTo(c, v);
                }
            }
            return sum;
        }

        private boolean isAwaited(int c, int v) {
            for (int n = 0; n < plan.nodes; n++) {
                if (isDrifted(n, c) && Code.versionIn(wished[n], c) == v) {
                    return true;
                }
            }
            return false;
        }

        int changesTo(int n, int digest) {
            int gap = digest - digestOf(n);
            int set = 0;
            for (int c = 0; c < plan.components; c++) {
                int now = Code.versionIn(present[n], c);
                for (int v = 0; v < VERSIONS; v++) {
                    if (v != now && (c + 1) * (v - now) == gap) {
                        set |= 1 << Code.change(c, v);
                    }
                }
            }
            return set;
        }

        int rankOf(int n) {
            int before = 0;
            for (int other = 0; other < plan.nodes; other++) {
                if (isFarther(other, n)) {
                    before++;
                }
            }
            return before;
        }

        private boolean isFarther(int n, int than) {
            int byDrift = Integer.bitCount(driftedOn(n)) - Integer.bitCount(driftedOn(than));
            if (byDrift != 0) {
                return byDrift > 0;
            }
            int byRules = Integer.bitCount(plan.rules.brokenOn(present[n]))
                    - Integer.bitCount(plan.rules.brokenOn(present[than]));
            return byRules != 0 ? byRules > 0 : n < than;
        }

        /** What a round of a simulation does before its tick. */
        void disturb(int r) {
            if (plan.nodes <= 0 || plan.components <= 0) {
                return;
            }
            int n = r / 64 % plan.nodes;
            int c = r / 4 % plan.components;
            if (r % 3 == 0) {
                present[n] = Code.with(present[n], c, r / 1024 % 4);
            } else if (r % 3 == 1) {
                faults[n] = r / 4096 % 4;
            }
        }
    }

    /** The commands of scripts. */
    private static final class Command {

        private Command() {
        }

        /** Runs a group of four digits on a state, and tells whether it succeeds. */
        static boolean succeeds(State on, int group) {
            int p = group / 100 % 10;
            int q = group / 10 % 10;
            int last = group % 10;
            switch (group / 1000) {
                case 1:
                    return setVersion(on.plan, on.wished, p, q, last);
                case 2:
                    return setVersion(on.plan, on.present, p, q, last);
                case 3:
                    return addApproval(on, p, q, last);
                case 4:
                    if (p != 0 || 10 * q + last < 1 || 10 * q + last > MAX_TICKS) {
                        return false;
                    }
                    on.passTicks(10 * q + last);
                    return true;
                case 5:
                    return q == 0 && giveFaults(on, p, last);
                case 6:
                    return on.plan.has(p, q) && Code.versionIn(on.present[p], q) == last;
                case 7:
                    return on.plan.has(p, q) && on.stateOf(p, q) == last;
                case 8:
                    return p == 0 && on.changes >= 10 * q + last;
                default:
                    return false;
            }
        }

        private static boolean setVersion(Plan plan, int[] codes, int n, int c, int v) {
            if (!plan.has(n, c) || v > MAX_VERSION) {
                return false;
            }
            codes[n] = Code.with(codes[n], c, v);
            return true;
        }

        private static boolean addApproval(State on, int c, int v, int who) {
            if (c >= on.plan.components || v > MAX_VERSION || who >= APPROVERS) {
                return false;
            }
            on.approvers[Code.change(c, v)] |= 1 << who;
            return true;
        }

        private static boolean giveFaults(State on, int n, int faults) {
            if (n >= on.plan.nodes) {
                return false;
            }
            on.faults[n] = faults;
            return true;
        }
    }

    /** The last states before actions, in rows that are used again and again. */
    private static final class Memory {

        private final State[] states = new State[MAX_REMEMBERED];
        private int newest;
        int count;

        Memory(Plan plan) {
            for (int i = 0; i < MAX_REMEMBERED; i++) {
                states[i] = new State(plan);
            }
        }

        void forget() {
            count = 0;
        }

        void remember(State state) {
            newest = newest + 1 < MAX_REMEMBERED ? newest + 1 : 0;
            states[newest].copy(state);
            count = Math.min(count + 1, MAX_REMEMBERED);
        }

        void takeBack(State into) {
            if (count == 0) {
                return;
            }
            into.copy(states[newest]);
            newest = newest > 0 ? newest - 1 : MAX_REMEMBERED - 1;
            count--;
        }
    }

    /**
     * Shortest ways of safe changes. They are searched from the goal backwards, so that what was found for one start
     * serves every other start, and every change of the way, as long as the goal stays the same.
     */
    private static final class Ways {

        private static final int NO_GOAL = -1;

        private final Plan plan;
        private final int[] distances = new int[MAX_CODES];
        private final int[] queue = new int[MAX_CODES];
        private int goal = NO_GOAL;
        private int head;
        private int tail;

        Ways(Plan plan) {
            this.plan = plan;
        }

        /** Must be called when the rules change. */
        void forget() {
            goal = NO_GOAL;
        }

        int distance(int start, int to) {
            if (goal != to) {
                aimAt(to);
            }
            for (int i = 0; i < MAX_CODES && head < tail && distanceOf(start) == NONE; i++) {
                reachFrom(queue[head]);
                head++;
            }
            return distanceOf(start);
        }

        private void aimAt(int to) {
            goal = to;
            Arrays.fill(distances, NONE);
            head = 0;
            tail = 0;
            enqueue(to, 0);
        }

        private int distanceOf(int code) {
            return distances[code & MAX_CODES - 1];
        }

        private void enqueue(int code, int distance) {
            if (tail < MAX_CODES) {
                distances[code & MAX_CODES - 1] = distance;
                queue[tail] = code;
                tail++;
            }
        }

        private void reachFrom(int after) {
            int distance = distanceOf(after) + 1;
            for (int c = 0; c < plan.components; c++) {
                for (int difference = 1; difference < VERSIONS; difference++) {
                    int before = after ^ difference << 2 * c;
                    if (distanceOf(before) == NONE && plan.rules.newlyBroken(before, after) == 0) {
                        enqueue(before, distance);
                    }
                }
            }
        }

        /** The change with this index of the best way from the start to the goal; NONE if there is none. */
        int changeOfBest(int start, int to, int index) {
            if (index >= distance(start, to)) {
                return NONE;
            }
            int code = start;
            for (int i = 0; i < index; i++) {
                code = afterChange(code, bestChange(code));
            }
            return bestChange(code);
        }

        private static int afterChange(int code, int change) {
            return Code.with(code, change >> 2, change & MAX_VERSION);
        }

        /** The change with the smallest number that leads one nearer to the goal. */
        private int bestChange(int code) {
            int wanted = distanceOf(code) - 1;
            for (int change = 0; change < VERSIONS * plan.components; change++) {
                int after = afterChange(code, change);
                if (distanceOf(after) == wanted && plan.rules.newlyBroken(code, after) == 0) {
                    return change;
                }
            }
            // not reached: a code that is not the goal got its distance from a change that is safe
            return 0;
        }
    }

    /** Reads a text from left to right, and holds what it describes until it is taken over. */
    private static final class TextReader {

        int nodes;
        int components;
        int limit;
        int length;
        int ruleCount;
        final int[] rings = new int[MAX_NODES];
        final int[] quorums = new int[MAX_COMPONENTS];
        final int[] rules = new int[MAX_RULES * RuleBook.PARTS];
        final int[] present = new int[MAX_NODES];
        final int[] wished = new int[MAX_NODES];

        private final char[] text;
        private int end;
        private int position;
        private boolean failed;

        TextReader(char[] text) {
            this.text = text;
        }

        /** Reads the first characters of the text. Answers the error position; NONE if they are a keeper text. */
        int read(int textLength) {
            end = Math.min(textLength, text.length);
            position = 0;
            failed = false;
            readHead();
            readItems();
            return failed ? position : NONE;
        }

        private void readHead() {
            readLetter('D');
            nodes = readDigit(1, MAX_NODES);
            components = readDigit(1, MAX_COMPONENTS);
            limit = readDigit(1, 9);
            int tens = readDigit(0, 5);
            length = 10 * tens + readDigit(tens == 0 ? 1 : 0, tens == 5 ? 0 : 9);
            for (int n = 0; n < nodes; n++) {
                rings[n] = readDigit(0, MAX_RING);
            }
            for (int c = 0; c < components; c++) {
                quorums[c] = readDigit(0, MAX_QUORUM);
            }
        }

        private void readItems() {
            ruleCount = 0;
            Arrays.fill(present, 0);
            Arrays.fill(wished, 0);
            for (int i = 0; i < MAX_TEXT && !failed && position < end; i++) {
                readItem(text[position]);
            }
        }

        private void readItem(char letter) {
            boolean ruleFits = components > 1 && ruleCount < MAX_RULES;
            if (letter == 'n' && ruleFits) {
                position++;
                readRule(NEED);
            } else if (letter == 'x' && ruleFits) {
                position++;
                readRule(BAR);
            } else if (letter == 'w') {
                position++;
                readVersion(wished);
            } else if (letter == 'v') {
                position++;
                readVersion(present);
            } else {
                failed = true;
            }
        }

        private void readRule(int kind) {
            int at = ruleCount * RuleBook.PARTS;
            rules[at] = kind;
            rules[at + 1] = readDigit(0, components - 1);
            rules[at + 2] = readDigit(1, MAX_VERSION);
            rules[at + 3] = readDigitBut(rules[at + 1], components - 1);
            rules[at + 4] = readDigit(1, MAX_VERSION);
            ruleCount++;
        }

        private void readVersion(int[] codes) {
            int n = readDigit(0, nodes - 1);
            int c = readDigit(0, components - 1);
            int v = readDigit(0, MAX_VERSION);
            codes[n] = Code.with(codes[n], c, v);
        }

        private void readLetter(char letter) {
            if (position < end && text[position] == letter) {
                position++;
            } else {
                failed = true;
            }
        }

        /** Reads a digit, unless the reading has failed; answers the lowest digit if it fails. */
        private int readDigit(int low, int high) {
            if (!failed && position < end) {
                int digit = text[position] - '0';
                if (digit >= low && digit <= high) {
                    position++;
                    return digit;
                }
            }
            failed = true;
            return low;
        }

        private int readDigitBut(int barred, int high) {
            if (position < end && text[position] - '0' == barred) {
                failed = true;
            }
            return readDigit(0, high);
        }
    }
}
