import java.math.BigInteger;

/** The edges of scripts and simulations. */
final class ScriptEdges {

    private static final int NONE = DesiredStateKeeper.NONE;
    private static final int GROUPS_FOR_A_KEEPER = 150;

    private ScriptEdges() {
    }

    static void run() {
        numberOfCommands();
        order();
        result();
        copy();
        everyGroup();
        wishes();
        presentVersions();
        approvals();
        ticks();
        faults();
        versionsAsked();
        statesAsked();
        changesAsked();
        runScript();
        scriptsRefused();
        rounds();
        remainders();
        overflow();
        simulateReturns();
    }

    private static void script(DesiredStateKeeper k, int n, long script, int want) {
        Checks.due("runScript(" + n + ", " + script + ")", k.runScript(n, script), want);
    }

    // ---- commands one after the other

    private static void numberOfCommands() {
        Sentences.term("A script has 1 to 4 commands.");
        DesiredStateKeeper k = new DesiredStateKeeper();
        script(k, 1, 8000L, NONE);
        script(k, 2, 8000_8000L, NONE);
        script(k, 3, 8000_8000_8000L, NONE);
        script(k, 4, 8000_8000_8000_8000L, NONE);
        for (int n : new int[] {0, 5, -1, 6}) {
            Unchanged.refused("runScript(" + n + ", 8000)", Checks.BAD_ARGUMENT, some -> some.runScript(n, 8000L));
        }
    }

    private static void order() {
        Sentences.term("Each command is a group of four decimal digits d1 d2 d3 d4; the first command is the highest "
                + "group of the number.");
        DesiredStateKeeper k = new DesiredStateKeeper();
        script(k, 2, 2003_6003L, NONE);
        script(k, 2, 6003_2003L, 0);
        script(k, 2, 6000_2003L, NONE);
        script(k, 4, 2001_6001_2002_6002L, NONE);
        script(k, 4, 2001_6001_2002_6001L, 3);
        // a number of fewer digits has zeros in front, and a group of zeros is no command
        script(k, 2, 6000L, 0);
        script(k, 3, 6000_6000L, 0);
        script(k, 4, 6000_6000_6000L, 0);
        script(k, 4, 0L, 0);
        script(k, 1, 0L, 0);
        script(k, 1, 6L, 0);
        script(k, 1, 60L, 0);
        script(k, 1, 600L, 0);
        script(k, 1, 6000L, NONE);
    }

    private static void result() {
        Sentences.term("The result of a script is the index, from 0, of the first command that fails, or NONE if all "
                + "succeed.");
        long good = 8000L;
        long bad = 9000L;
        DesiredStateKeeper k = new DesiredStateKeeper();
        for (int n = 1; n <= 4; n++) {
            for (int set = 0; set < 1 << n; set++) {
                long script = 0;
                for (int i = 0; i < n; i++) {
                    script = script * 10000 + ((set >> i & 1) == 1 ? bad : good);
                }
                script(k, n, script, set == 0 ? NONE : Integer.numberOfTrailingZeros(set));
            }
        }
    }

    private static void copy() {
        Sentences.term("The commands run on a copy of the state.");
        long[] scripts = {1003_2003_3034_4050L, 5009_4050_8001_6000L, 1003_2002_3000_4001L, 9000L, 2003_9000L};
        for (Recipes size : Recipes.values()) {
            for (long script : scripts) {
                Unchanged.quiet(size, "runScript(4, " + script + ")", k -> k.runScript(4, script));
            }
        }
        DesiredStateKeeper k = new DesiredStateKeeper();
        script(k, 2, 2003_6003L, NONE);
        script(k, 1, 6003L, 0);
        script(k, 1, 6000L, NONE);
        k.simulate(7, 60);
        k.ahead(99, 0, 0);
        script(k, 2, 6000_8000L, NONE);
        script(k, 1, 8001L, 0);
        k.drift(0, 0, 2);
        script(k, 1, 6002L, NONE);
        script(k, 3, 4001_6000_8001L, NONE);
        script(k, 1, 6002L, NONE);
    }

    // ---- every command

    private static void everyGroup() {
        Sentences.term("Commands with a node, a component, a version or an approver that does not exist fail, and so "
                + "does any other group.");
        for (Recipes size : Recipes.values()) {
            DesiredStateKeeper k = null;
            for (int group = 0; group <= 9999; group++) {
                if (group % GROUPS_FOR_A_KEEPER == 0) {
                    k = size.make();
                }
                Checks.due(size + ": runScript(1, " + group + ")", k.runScript(1, group),
                        succeeds(size, k, group) ? NONE : 0);
            }
        }
    }

    private static boolean succeeds(Recipes size, DesiredStateKeeper k, int group) {
        int p = group / 100 % 10;
        int q = group / 10 % 10;
        int last = group % 10;
        boolean pair = p < size.nodes && q < size.components;
        switch (group / 1000) {
            case 1:
            case 2:
                return pair && last <= 3;
            case 3:
                return p < size.components && q <= 3 && last <= 4;
            case 4:
                return group >= 4001 && group <= 4050;
            case 5:
                return p < size.nodes && q == 0;
            case 6:
                return pair && k.version(p, q, false) == last;
            case 7:
                return pair && k.state(p, q) == last;
            case 8:
                return group <= 8099 && group - 8000 <= k.about(6);
            default:
                return false;
        }
    }

    private static void wishes() {
        Sentences.term("1 n c v: the wished version of component c of node n becomes v.");
        DesiredStateKeeper k = Checks.keeper("D56101" + "00000" + "000000" + "w003");
        script(k, 3, 1453_4001_6453L, NONE);
        script(k, 2, 1453_6450L, NONE);
        script(k, 2, 1453_7450L, NONE);
        script(k, 2, 1450_7451L, NONE);
        script(k, 3, 1000_4001_6000L, NONE);
        script(k, 3, 1002_4001_6002L, NONE);
        script(k, 4, 1003_4001_1000_6003L, NONE);
        script(k, 2, 1452_6001L, 1);
        script(k, 1, 1454L, 0);
        script(k, 1, 1463L, 0);
        script(k, 1, 1553L, 0);
    }

    private static void presentVersions() {
        Sentences.term("2 n c v: its present version becomes v.");
        DesiredStateKeeper k = Checks.keeper("D56101" + "00000" + "000000" + "v003");
        script(k, 2, 2453_6453L, NONE);
        script(k, 2, 2000_6000L, NONE);
        script(k, 2, 2003_6003L, NONE);
        script(k, 3, 2453_7450_8000L, NONE);
        script(k, 2, 2453_8001L, 1);
        script(k, 2, 2453_6443L, 1);
        script(k, 2, 2453_6353L, 1);
        script(k, 1, 2454L, 0);
        script(k, 1, 2463L, 0);
        script(k, 1, 2553L, 0);
    }

    private static void approvals() {
        Sentences.term("3 c v a: approver a approves of version v of component c (also if it does already; nothing "
                + "changes then).");
        DesiredStateKeeper k = Checks.keeper("D16101" + "0" + "000002" + "w053");
        k.approve(5, 3, 0);
        script(k, 1, 7053L, NONE);
        script(k, 2, 3530_7053L, NONE);
        script(k, 3, 3530_3530_7053L, NONE);
        script(k, 2, 3534_7050L, NONE);
        script(k, 3, 3534_3534_7050L, NONE);
        script(k, 2, 3524_7050L, 1);
        script(k, 2, 3434_7050L, 1);
        script(k, 1, 3535L, 0);
        script(k, 1, 3544L, 0);
        script(k, 1, 3634L, 0);
        DesiredStateKeeper five = Checks.keeper("D11101" + "0" + "5" + "w003");
        five.approve(0, 3, 2);
        script(five, 4, 3030_3031_3033_3034L, NONE);
        script(five, 4, 3030_3031_3033_7003L, NONE);
        five.approve(0, 3, 0);
        script(five, 4, 3031_3033_3034_7000L, NONE);
        script(five, 4, 3031_3033_3033_7003L, NONE);
    }

    private static void ticks() {
        Sentences.term("4 0 x y: xy ticks (01 to 50).");
        DesiredStateKeeper k = Checks.keeper("D11150" + "0" + "0" + "w001");
        k.setFaults(0, 1);
        // the attempt of tick 1 fails, and the quarantine ends with tick 51
        script(k, 2, 4001_7002L, NONE);
        script(k, 2, 4050_7002L, NONE);
        script(k, 3, 4050_4001_6001L, NONE);
        script(k, 3, 4049_4001_6001L, 2);
        script(k, 3, 4049_4002_6001L, NONE);
        script(k, 4, 4041_4009_4001_6001L, NONE);
        script(k, 4, 4040_4009_4001_6001L, 3);
        script(k, 1, 4000L, 0);
        script(k, 1, 4051L, 0);
        script(k, 1, 4100L, 0);
        script(k, 1, 4101L, 0);
        script(k, 1, 4150L, 0);
    }

    private static void faults() {
        Sentences.term("5 n 0 f: the faults of node n become f.");
        DesiredStateKeeper k = Checks.keeper("D51901" + "00000" + "0" + "w401");
        for (int f = 0; f <= 9; f++) {
            long given = (5400L + f) * 10000 + 4000;
            // the attempts 1 to f fail, and with nine strikes the quarantine lasts one tick
            script(k, 3, (given + f + 1) * 10000 + 6401, NONE);
            if (f > 0) {
                script(k, 3, (given + f) * 10000 + 6400, NONE);
            }
        }
        script(k, 3, 5309_4001_6401L, NONE);
        script(k, 1, 5509L, 0);
        script(k, 1, 5410L, 0);
        script(k, 1, 5419L, 0);
        k.setFaults(4, 9);
        script(k, 3, 5400_4001_6401L, NONE);
        script(k, 2, 4001_6401L, 1);
    }

    private static void versionsAsked() {
        Sentences.term("6 n c v: succeeds if the present version of component c of node n is v.");
        DesiredStateKeeper k = Checks.keeper("D56101" + "00000" + "000000" + "v453w001v021");
        for (int v = 0; v <= 9; v++) {
            script(k, 1, 6450 + v, v == 3 ? NONE : 0);
            script(k, 1, 6000 + v, v == 0 ? NONE : 0);
            script(k, 1, 6020 + v, v == 1 ? NONE : 0);
        }
        script(k, 1, 6460L, 0);
        script(k, 1, 6550L, 0);
    }

    private static void statesAsked() {
        Sentences.term("7 n c s: succeeds if the state of component c is s if node n comes now.");
        DesiredStateKeeper k = Recipes.FULL.make();
        for (int n = 0; n < 5; n++) {
            for (int c = 0; c < 6; c++) {
                int state = k.state(n, c);
                script(k, 1, 7000 + 100 * n + 10 * c + state, NONE);
                script(k, 1, 7000 + 100 * n + 10 * c + (state + 1) % 6, 0);
                script(k, 1, 7000 + 100 * n + 10 * c + 9, 0);
            }
        }
        // now, and not in the tick that comes: the quarantine still lasts
        DesiredStateKeeper now = Checks.keeper("D11101" + "0" + "0" + "w001");
        script(now, 3, 5001_4001_7002L, NONE);
        script(now, 4, 5001_4001_4001_7001L, NONE);
        script(now, 1, 7006L, 0);
    }

    private static void changesAsked() {
        Sentences.term("8 0 x y: succeeds if the number of changes is at least xy.");
        DesiredStateKeeper k = new DesiredStateKeeper();
        script(k, 1, 8000L, NONE);
        script(k, 1, 8001L, 0);
        for (int changes = 1; changes <= 100; changes++) {
            k.drift(0, 0, 1);
            k.tick(1);
            if (changes == 1 || changes == 10 || changes >= 98) {
                script(k, 1, 8000 + Math.min(changes, 99), NONE);
                script(k, 1, 8000 + Math.min(changes + 1, 99), changes >= 99 ? NONE : 0);
            }
        }
        script(k, 1, 8100L, 0);
        script(k, 1, 8199L, 0);
        DesiredStateKeeper more = Checks.keeper("D12101" + "0" + "00" + "w001w011");
        script(more, 3, 8000_4001_8001L, NONE);
        script(more, 3, 8000_4001_8002L, 2);
        script(more, 4, 4001_8001_4001_8002L, NONE);
        script(more, 2, 2003_8001L, 1);
        more.tick(1);
        script(more, 3, 8001_4001_8002L, NONE);
    }

    // ---- the call

    private static void runScript() {
        Sentences.promise(35, "Runs a script on a copy of the state.", "Returns the result of the script.");
        DesiredStateKeeper k = Recipes.MIDDLE.make();
        String before = Checks.sight(k);
        script(k, 4, 1013_4050_2121_6121L, NONE);
        script(k, 4, 1013_4050_2121_6120L, 3);
        Checks.due("the state", Checks.sight(k), before);
        Checks.due("it is no action", k.undo(), 2);
    }

    private static void scriptsRefused() {
        Sentences.promise(35, "- `script`: the commands, a number of at most 4 * n digits (0 or more)");
        DesiredStateKeeper k = new DesiredStateKeeper();
        long[] longest = {9999L, 9999_9999L, 9999_9999_9999L, 9999_9999_9999_9999L};
        long[] lastDigitCounts = {8000L, 8000_8000L, 8000_8000_8000L, 8000_8000_8000_8000L};
        for (int n = 1; n <= 4; n++) {
            script(k, n, 0L, 0);
            script(k, n, longest[n - 1], 0);
            script(k, n, lastDigitCounts[n - 1], NONE);
            script(k, n, lastDigitCounts[n - 1] + 1, n - 1);
        }
        Sentences.promise(35, "Throws `IllegalArgumentException` if n is out of range, or if script is negative or has "
                + "more than 4 * n digits");
        for (int n = 1; n <= 4; n++) {
            int commands = n;
            for (long script : new long[] {longest[n - 1] + 1, -1, -8000, Long.MIN_VALUE, Long.MIN_VALUE + 8000,
                Long.MAX_VALUE, (longest[n - 1] + 1) * 10}) {
                Unchanged.refused("runScript(" + n + ", " + script + ")", Checks.BAD_ARGUMENT,
                        some -> some.runScript(commands, script));
            }
            if (n < 4) {
                Unchanged.refused("the longest script of more commands than " + n, Checks.BAD_ARGUMENT,
                        some -> some.runScript(commands, longest[commands]));
            }
        }
        // numbers whose lower 32 bits would be right
        Unchanged.refused("runScript(1, 2^32 + 8000)", Checks.BAD_ARGUMENT,
                some -> some.runScript(1, (1L << 32) + 8000));
        Unchanged.refused("runScript(2, 2^32 + 8000)", Checks.BAD_ARGUMENT,
                some -> some.runScript(2, (1L << 32) + 8000));
        Unchanged.refused("both are wrong", Checks.BAD_ARGUMENT, some -> some.runScript(5, -1L));
        Unchanged.refused("both are wrong", Checks.BAD_ARGUMENT, some -> some.runScript(0, Long.MAX_VALUE));
    }

    // ---- simulations

    private static final BigInteger FACTOR = new BigInteger("6364136223846793005");
    private static final BigInteger ADDEND = new BigInteger("1442695040888963407");
    private static final BigInteger WORD = BigInteger.ONE.shiftLeft(64);

    /** The seed from which the first round makes this r. */
    private static long seedFor(int r) {
        BigInteger x = BigInteger.valueOf(r).shiftLeft(33).add(BigInteger.valueOf(12345));
        return x.subtract(ADDEND).multiply(FACTOR.modInverse(WORD)).mod(WORD).longValue();
    }

    /** What the rounds answer if they are played by calls, with numbers that do not overflow. */
    private static int played(DesiredStateKeeper k, long seed, int m) {
        int before = k.about(6);
        int nodes = k.about(0);
        int components = k.about(1);
        BigInteger x = BigInteger.valueOf(seed).mod(WORD);
        for (int i = 0; i < m; i++) {
            x = x.multiply(FACTOR).add(ADDEND).mod(WORD);
            int r = x.shiftRight(33).intValueExact();
            if (r % 3 == 0) {
                k.drift(r / 64 % nodes, r / 4 % components, r / 1024 % 4);
            } else if (r % 3 == 1) {
                k.setFaults(r / 64 % nodes, r / 4096 % 4);
            }
            k.tick(1);
        }
        return k.about(6) - before + 1000 * (nodes - Integer.bitCount(k.about(7)));
    }

    private static void simulated(Recipes size, long seed, int m) {
        Checks.due(size + ": simulate(" + seed + ", " + m + ")", size.make().simulate(seed, m),
                played(size.make(), seed, m));
    }

    private static void rounds() {
        Sentences.promise(36, "Simulates m rounds on a copy of the state.", "A long x starts as the seed.",
                "Then there is a tick.");
        for (Recipes size : Recipes.values()) {
            for (int m : new int[] {1, 2, 59, 60}) {
                for (long seed : new long[] {0, 1, -1, 42, Long.MIN_VALUE, Long.MAX_VALUE}) {
                    simulated(size, seed, m);
                }
                Unchanged.quiet(size, "simulate(3, " + m + ")", k -> k.simulate(3, m));
            }
        }
        DesiredStateKeeper k = Recipes.FULL.make();
        int once = k.simulate(11, 60);
        Checks.due("the same again", k.simulate(11, 60), once);
        // r = 2 does nothing but the tick
        DesiredStateKeeper tick = Checks.keeper("D11101" + "0" + "0" + "w001");
        Checks.due("a tick", tick.simulate(seedFor(2), 1), 1);
        // the drift comes before the tick, and the tick mends it
        Checks.due("a drift and a tick", new DesiredStateKeeper().simulate(seedFor(3 * 1024), 1), 1);
        // so do faults: the attempt of the same round fails
        Checks.due("faults and a tick", tick.simulate(seedFor(4096 * 3 + 1), 1), 1000);
    }

    private static void remainders() {
        Sentences.promise(36, "If r % 3 is 0, the present version of component r / 4 % (number of components) of node "
                + "r / 64 % (number of nodes) becomes r / 1024 % 4; if it is 1, the faults of this node become "
                + "r / 4096 % 4.");
        int[] edges = {0, 1, 2, 3, 4, 5, 63, 64, 65, 66, 255, 256, 1023, 1024, 1025, 1026, 3072, 4095, 4096, 4097, 4098,
            12288, 12289, 16383, 16384, 1 << 30, Integer.MAX_VALUE - 2, Integer.MAX_VALUE - 1, Integer.MAX_VALUE};
        for (int r : edges) {
            for (Recipes size : Recipes.values()) {
                simulated(size, seedFor(r), 1);
                simulated(size, seedFor(r), 3);
            }
        }
        // each component of each node: without approvals a drift stays, and is counted where it was none before
        for (int c = 0; c < 6; c++) {
            for (int n = 0; n < 5; n++) {
                int r = numberFor(0, c, n, 3);
                DesiredStateKeeper k = Checks.keeper("D56101" + "00000" + "555555");
                Checks.due("component " + c + " of node " + n, k.simulate(seedFor(r), 1), 1000);
                k.drift(n, c, 3);
                k.wish(n, c, 3);
                Checks.due("where it is there already", k.simulate(seedFor(r), 1), 0);
                k.drift(n, c, 0);
                Checks.due("where it is wished", k.simulate(seedFor(r), 1), 0);
            }
        }
        for (int n = 0; n < 5; n++) {
            int r = numberFor(1, 0, n, 1);
            DesiredStateKeeper k = Checks.keeper("D51901" + "00000" + "0" + "w001w101w201w301w401");
            Checks.due("the faults of node " + n, k.simulate(seedFor(r), 1), 1004);
        }
    }

    /** The first number with this remainder by 3 that chooses this component, node and version (or these faults). */
    private static int numberFor(int remainder, int c, int n, int value) {
        int unit = remainder == 0 ? 1024 : 4096;
        for (int r = 0; r < 1_000_000; r++) {
            if (r % 3 == remainder && r / 4 % 6 == c && r / 64 % 5 == n && r / unit % 4 == value) {
                return r;
            }
        }
        throw new AssertionError("there is no such number");
    }

    private static void overflow() {
        Sentences.promise(36, "Each round first replaces x by x * 6364136223846793005L + 1442695040888963407L (with "
                + "long overflow), and r = (int) (x >>> 33) is computed.");
        long[] seeds = {Long.MAX_VALUE, Long.MIN_VALUE, -1, 1, 2, 1L << 32, (1L << 32) - 1, 1L << 62, -(1L << 62),
            Long.MAX_VALUE / 3, seedFor(0), seedFor(Integer.MAX_VALUE), seedFor(1 << 30), seedFor((1 << 30) - 1)};
        for (long seed : seeds) {
            for (int m : new int[] {1, 2, 60}) {
                simulated(Recipes.MIDDLE, seed, m);
                simulated(Recipes.FULL, seed, m);
            }
        }
        // the greatest r: x is negative, and r is not; it gives three faults to the only node
        DesiredStateKeeper k = Checks.keeper("D11901" + "0" + "0" + "w001");
        Checks.due("the greatest r", k.simulate(seedFor(Integer.MAX_VALUE), 1), 1000);
        // the smallest r: version 0 for component 0 of node 0
        DesiredStateKeeper least = Checks.keeper("D11101" + "0" + "5" + "v003");
        Checks.due("the smallest r", least.simulate(seedFor(0), 1), 0);
        Checks.due("another r", least.simulate(seedFor(2), 1), 1000);
        // x starts as the seed, and the first round replaces it before r is computed
        DesiredStateKeeper first = Checks.keeper("D11101" + "0" + "5");
        Checks.due("the seed itself makes no r", first.simulate((3072L << 33), 1), played(twin(), 3072L << 33, 1));
    }

    private static DesiredStateKeeper twin() {
        return Checks.keeper("D11101" + "0" + "5");
    }

    private static void simulateReturns() {
        Sentences.promise(36, "Returns the number of changes that are made in these rounds, plus 1000 times the number "
                + "of nodes with drifted components at the end.");
        Checks.due("nothing", new DesiredStateKeeper().simulate(seedFor(2), 1), 0);
        DesiredStateKeeper all = Checks.keeper("D52101" + "00000" + "05" + "w001w101w201w301w401"
                + "w013w113w213w313w413");
        Checks.due("a change and a drift on each node", all.simulate(seedFor(2), 1), 5005);
        all.setQuorum(1, 0);
        Checks.due("before the last change of each", all.simulate(seedFor(2), 1), 5005);
        all.tick(1);
        Checks.due("changes from before do not count", all.simulate(seedFor(2), 1), 5);
        all.setQuorum(1, 5);
        Checks.due("drifts that stay", all.simulate(seedFor(2), 1), 5000);
        DesiredStateKeeper two = Checks.keeper("D52101" + "00000" + "55" + "w001w013w413");
        Checks.due("a node counts once", two.simulate(seedFor(2), 1), 2000);
    }
}
