/** Promises 35 and 36: scripts and simulations. */
public final class ScriptTest {

    public static void main(String[] args) {
        commands();
        approvalsAddUp();
        wrongCommands();
        order();
        scriptArguments();
        simulate();
        simulateArguments();
        Checks.end("ScriptTest");
    }

    private static DesiredStateKeeper some() {
        return Checks.keeper("D23105" + "01" + "010" + "n0222" + "w001v023");
    }

    private static void run(int n, long script, int want) {
        DesiredStateKeeper k = some();
        k.tick(1);
        String before = Checks.sight(k);
        Checks.due("runScript(" + n + ", " + script + ")", k.runScript(n, script), want);
        Checks.due("a script changes nothing", Checks.sight(k), before);
        Checks.due("a script is no action", k.undo(), 0);
    }

    private static void commands() {
        // after one tick node 0 has the versions 1 0 3 and wishes 1 0 0; there was one change
        run(1, 6001, -9);
        run(1, 6000, 0);
        run(1, 6023, -9);
        run(1, 6103, 0);
        run(1, 8001, -9);
        run(1, 8000, -9);
        run(1, 8002, 0);
        run(1, 7020, -9);
        run(1, 7001, -9);
        run(2, 1002_7000L, -9);
        run(2, 2002_6002L, -9);
        run(3, 2020_1002_7005L, -9);
        run(2, 1011_7013L, -9);
        run(3, 1011_3114_7010L, -9);
        run(4, 1011_3114_3114_7010L, -9);
        run(3, 1102_1002_7104L, -9);
        run(2, 4001_8002L, -9);
        run(2, 4001_8003L, 1);
        run(2, 4050_6020L, -9);
        run(4, 5001_1002_4001_7002L, -9);
        run(4, 5001_1002_4007_6002L, -9);
        run(4, 5001_1002_4005_6002L, 3);
        run(3, 5009_5000_4001L, -9);
    }

    private static void approvalsAddUp() {
        DesiredStateKeeper k = Checks.keeper("D11105" + "0" + "2" + "w001");
        k.approve(0, 1, 0);
        Checks.due("the same approver again", k.runScript(2, 3010_7003L), -9);
        Checks.due("another approver", k.runScript(2, 3011_7000L), -9);
        Checks.due("two other approvers", k.runScript(3, 3014_3013_7000L), -9);
        Checks.due("of another version", k.runScript(2, 3021_7003L), -9);
        Checks.due("approvals are as before", k.approvals(0, 1), 1);
    }

    private static void wrongCommands() {
        int[] wrong = {0, 1, 999, 1200, 1030, 1004, 1009, 2200, 2030, 2004, 3300, 3040, 3005, 4000, 4051, 4099, 4101,
            4110, 5200, 5010, 5990, 6200, 6030, 6004, 7200, 7030, 7006, 7009, 8100, 8101, 9000, 9999};
        for (int command : wrong) {
            run(1, command, 0);
            run(2, 8000_0000L + command, 1);
        }
        int[] right = {1000, 1123, 2000, 2123, 3000, 3234, 4001, 4050, 5000, 5109, 8000};
        for (int command : right) {
            run(1, command, -9);
        }
    }

    private static void order() {
        run(4, 0L, 0);
        run(4, 8000L, 0);
        run(2, 8000L, 0);
        run(4, 8000_8000_8000_0000L, 3);
        run(4, 8000_8000_0000_8000L, 2);
        run(4, 8000_0000_8000_8000L, 1);
        run(4, 9999_9999_9999_9999L, 0);
        run(2, 6002_2002L, 0);
        run(2, 2002_6002L, -9);
    }

    private static void scriptArguments() {
        DesiredStateKeeper k = some();
        Checks.refuses("n = 0", Checks.BAD_ARGUMENT, () -> k.runScript(0, 0));
        Checks.refuses("n = -1", Checks.BAD_ARGUMENT, () -> k.runScript(-1, 8000));
        Checks.refuses("n = 5", Checks.BAD_ARGUMENT, () -> k.runScript(5, 8000));
        Checks.refuses("script = -1", Checks.BAD_ARGUMENT, () -> k.runScript(1, -1));
        Checks.refuses("the least script", Checks.BAD_ARGUMENT, () -> k.runScript(4, Long.MIN_VALUE));
        Checks.refuses("five digits", Checks.BAD_ARGUMENT, () -> k.runScript(1, 10000));
        Checks.refuses("nine digits", Checks.BAD_ARGUMENT, () -> k.runScript(2, 1_0000_0000L));
        Checks.refuses("thirteen digits", Checks.BAD_ARGUMENT, () -> k.runScript(3, 1_0000_0000_0000L));
        Checks.refuses("seventeen digits", Checks.BAD_ARGUMENT, () -> k.runScript(4, 1_0000_0000_0000_0000L));
        Checks.refuses("the greatest script", Checks.BAD_ARGUMENT, () -> k.runScript(4, Long.MAX_VALUE));
    }

    /** Plays the rounds by calls of the face. */
    private static int played(DesiredStateKeeper k, long seed, int m) {
        int before = k.about(6);
        int nodes = k.about(0);
        int components = k.about(1);
        long x = seed;
        for (int i = 0; i < m; i++) {
            x = x * 6364136223846793005L + 1442695040888963407L;
            int r = (int) (x >>> 33);
            int n = r / 64 % nodes;
            if (r % 3 == 0) {
                k.drift(n, r / 4 % components, r / 1024 % 4);
            } else if (r % 3 == 1) {
                k.setFaults(n, r / 4096 % 4);
            }
            k.tick(1);
        }
        return k.about(6) - before + 1000 * (nodes - Integer.bitCount(k.about(7)));
    }

    private static void simulate() {
        long[] seeds = {0, 1, -1, 77, Long.MIN_VALUE, Long.MAX_VALUE, 123456789012345678L};
        simulate(seeds, "D23105" + "01" + "010" + "n0222" + "w001v023");
        simulate(seeds, "D11105" + "0" + "0");
        simulate(seeds, "D56203" + "01012" + "000010" + "n0112x2132n5111" + "w001w011w201v313w423");
    }

    private static void simulate(long[] seeds, String text) {
        for (long seed : seeds) {
            for (int m : new int[] {1, 2, 3, 10, 59, 60}) {
                DesiredStateKeeper k = Checks.keeper(text);
                k.tick(2);
                String before = Checks.sight(k);
                int got = k.simulate(seed, m);
                Checks.due("simulate changes nothing", Checks.sight(k), before);
                Checks.due("simulate is no action", k.undo(), 0);
                k.tick(2);
                Checks.due("simulate(" + seed + ", " + m + ")", got, played(k, seed, m));
            }
        }
    }

    private static void simulateArguments() {
        DesiredStateKeeper k = some();
        Checks.refuses("m = 0", Checks.BAD_ARGUMENT, () -> k.simulate(0, 0));
        Checks.refuses("m = -1", Checks.BAD_ARGUMENT, () -> k.simulate(0, -1));
        Checks.refuses("m = 61", Checks.BAD_ARGUMENT, () -> k.simulate(0, 61));
    }
}
