/** Promises 27 and 28: the time to come. */
public final class TimeToComeTest {

    public static void main(String[] args) {
        ahead();
        calmAfter();
        calmAfterEdges();
        Checks.end("TimeToComeTest");
    }

    private static DesiredStateKeeper some() {
        DesiredStateKeeper k = Checks.keeper("D2220501" + "00" + "n0112w002w012w101");
        k.setFaults(0, 5);
        k.approve(0, 1, 2);
        return k;
    }

    private static void ahead() {
        for (int t = 0; t <= 99; t++) {
            DesiredStateKeeper now = some();
            DesiredStateKeeper then = some();
            for (int i = 0; i < t; i++) {
                then.tick(1);
            }
            for (int n = 0; n < 2; n++) {
                for (int what = 0; what <= 6; what++) {
                    Checks.due("ahead(" + t + ", " + n + ", " + what + ")", now.ahead(t, n, what), then.node(n, what));
                }
            }
        }
        DesiredStateKeeper k = some();
        String before = Checks.sight(k);
        Checks.due("ahead(2, 0, 3)", k.ahead(2, 0, 3), 7);
        Checks.due("ahead(7, 0, 3)", k.ahead(7, 0, 3), -9);
        Checks.due("ahead(99, 0, 6)", k.ahead(99, 0, 6), 6);
        Checks.due("ahead changes nothing", Checks.sight(k), before);
        Checks.due("ahead is no action", k.undo(), 1);
        Checks.refuses("ahead(0, 2, 0)", Checks.NO_INDEX, () -> k.ahead(0, 2, 0));
        Checks.refuses("ahead(100, -1, 7)", Checks.NO_INDEX, () -> k.ahead(100, -1, 7));
        Checks.refuses("ahead(100, 0, 0)", Checks.BAD_ARGUMENT, () -> k.ahead(100, 0, 0));
        Checks.refuses("ahead(-1, 0, 0)", Checks.BAD_ARGUMENT, () -> k.ahead(-1, 0, 0));
        Checks.refuses("ahead(0, 0, 7)", Checks.BAD_ARGUMENT, () -> k.ahead(0, 0, 7));
        Checks.refuses("ahead(0, 0, -1)", Checks.BAD_ARGUMENT, () -> k.ahead(0, 0, -1));
    }

    private static void calmAfter() {
        Checks.due("calmAfter of a new object", new DesiredStateKeeper().calmAfter(), 0);
        DesiredStateKeeper k = Checks.keeper("D2220501" + "01" + "w001w011w101w111");
        Checks.due("never without approvals", k.calmAfter(), -9);
        k.approve(1, 1, 0);
        String before = Checks.sight(k);
        Checks.due("two ticks", k.calmAfter(), 2);
        Checks.due("calmAfter changes nothing", Checks.sight(k), before);
        k.tick(1);
        Checks.due("one tick", k.calmAfter(), 1);
        k.tick(1);
        Checks.due("now", k.calmAfter(), 0);
        Checks.due("calmAfter is no action", k.undo(), 2);
    }

    private static void calmAfterEdges() {
        // with the limit 1 and the length 50, a fault costs 50 ticks: the attempts are in the ticks 1, 51 and 101
        DesiredStateKeeper k = Checks.keeper("D1115000" + "w001");
        k.setFaults(0, 1);
        Checks.due("after one fault", k.calmAfter(), 51);
        k.setFaults(0, 2);
        Checks.due("after two faults", k.calmAfter(), -9);
        k.tick(1);
        Checks.due("from tick 1", k.calmAfter(), -9);
        k.tick(1);
        Checks.due("from tick 2", k.calmAfter(), 99);
    }
}
