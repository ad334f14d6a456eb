/** Promises 1 and 6 to 11: a new object, and what there is. */
public final class FactsTest {

    public static void main(String[] args) {
        newObject();
        about();
        node();
        version();
        rule();
        approvals();
        quorum();
        Checks.end("FactsTest");
    }

    private static void newObject() {
        DesiredStateKeeper k = new DesiredStateKeeper();
        int[] want = {1, 1, 0, 3, 5, 0, 0, 1};
        for (int what = 0; what < want.length; what++) {
            Checks.due("new about(" + what + ")", k.about(what), want[what]);
        }
        int[] node = {0, 0, 0, -9, 0, 0, 0};
        for (int what = 0; what < node.length; what++) {
            Checks.due("new node(0, " + what + ")", k.node(0, what), node[what]);
        }
        Checks.due("new version present", k.version(0, 0, false), 0);
        Checks.due("new version wished", k.version(0, 0, true), 0);
        Checks.due("new quorum", k.quorum(0), 0);
        for (int v = 0; v <= 3; v++) {
            Checks.due("new approvals", k.approvals(0, v), 0);
        }
        Checks.due("new text", k.clearText(), 0);
        Checks.refuses("new undo()", Checks.BAD_STATE, k::undo);
        Checks.refuses("new restore(0)", Checks.BAD_STATE, () -> k.restore(0));
        Checks.refuses("new restore(1)", Checks.BAD_STATE, () -> k.restore(1));
        Checks.due("NONE", DesiredStateKeeper.NONE, -9);
    }

    private static void about() {
        DesiredStateKeeper k = Checks.keeper("D33742012123n0312w001v102x1223");
        int[] want = {3, 3, 2, 7, 42, 0, 0, 4};
        for (int what = 0; what < want.length; what++) {
            Checks.due("about(" + what + ")", k.about(what), want[what]);
        }
        k.setQuorum(0, 0);
        k.tick(3);
        Checks.due("about(5) after ticks", k.about(5), 3);
        Checks.due("about(6) after ticks", k.about(6), 2);
        Checks.due("about(7) after ticks", k.about(7), 7);
        Checks.refuses("about(-1)", Checks.BAD_ARGUMENT, () -> k.about(-1));
        Checks.refuses("about(8)", Checks.BAD_ARGUMENT, () -> k.about(8));
    }

    private static void node() {
        // the needs 0 and 2 are broken on node 0, the bar 1 is not
        DesiredStateKeeper k = Checks.keeper("D26110" + "21" + "000000" + "n0112" + "x0211" + "n5311"
                + "v001v053v031w002w031w142");
        int[] first = {2, 0, 0, -9, 0b100001, 0b101, 1 + 4 + 18};
        int[] second = {1, 0, 0, -9, 0b010000, 0, 0};
        for (int what = 0; what <= 6; what++) {
            Checks.due("node(0, " + what + ")", k.node(0, what), first[what]);
            Checks.due("node(1, " + what + ")", k.node(1, what), second[what]);
        }
        k.setFaults(1, 9);
        Checks.due("node(1, 1)", k.node(1, 1), 9);
        k.tick(1);
        Checks.due("node(1, 1) after a fault", k.node(1, 1), 8);
        Checks.due("node(1, 2) at the limit 1", k.node(1, 2), 0);
        Checks.due("node(1, 3) quarantined", k.node(1, 3), 11);
        k.tick(9);
        Checks.due("node(1, 3) one tick before the end", k.node(1, 3), 11);
        k.setFaults(1, 0);
        k.wish(1, 4, 0);
        k.tick(1);
        Checks.due("node(1, 3) at the end", k.node(1, 3), -9);
        Checks.refuses("node(2, 0)", Checks.NO_INDEX, () -> k.node(2, 0));
        Checks.refuses("node(-1, 0)", Checks.NO_INDEX, () -> k.node(-1, 0));
        Checks.refuses("node(0, 7)", Checks.BAD_ARGUMENT, () -> k.node(0, 7));
        Checks.refuses("node(0, -1)", Checks.BAD_ARGUMENT, () -> k.node(0, -1));
        Checks.refuses("node(2, 7)", Checks.NO_INDEX, () -> k.node(2, 7));
        DesiredStateKeeper most = Checks.keeper("D16101" + "0" + "000000" + "v003v013v023v033v043v053");
        Checks.due("the greatest digest", most.node(0, 6), 63);
    }

    private static void version() {
        DesiredStateKeeper k = Checks.keeper("D2210100" + "00" + "v011w013w102");
        Checks.due("version(0, 1, false)", k.version(0, 1, false), 1);
        Checks.due("version(0, 1, true)", k.version(0, 1, true), 3);
        Checks.due("version(1, 0, false)", k.version(1, 0, false), 0);
        Checks.due("version(1, 0, true)", k.version(1, 0, true), 2);
        Checks.due("version(0, 0, true)", k.version(0, 0, true), 0);
        Checks.refuses("version(2, 0)", Checks.NO_INDEX, () -> k.version(2, 0, true));
        Checks.refuses("version(-1, 0)", Checks.NO_INDEX, () -> k.version(-1, 0, false));
        Checks.refuses("version(0, 2)", Checks.NO_INDEX, () -> k.version(0, 2, false));
        Checks.refuses("version(0, -1)", Checks.NO_INDEX, () -> k.version(0, -1, true));
    }

    private static void rule() {
        DesiredStateKeeper k = Checks.keeper("D14101" + "0" + "0000" + "n0132x3211");
        int[][] want = {{0, 0, 1, 3, 2}, {1, 3, 2, 1, 1}};
        for (int r = 0; r < 2; r++) {
            for (int what = 0; what <= 4; what++) {
                Checks.due("rule(" + r + ", " + what + ")", k.rule(r, what), want[r][what]);
            }
        }
        Checks.refuses("rule(2, 0)", Checks.NO_INDEX, () -> k.rule(2, 0));
        Checks.refuses("rule(-1, 0)", Checks.NO_INDEX, () -> k.rule(-1, 0));
        Checks.refuses("rule(0, 5)", Checks.BAD_ARGUMENT, () -> k.rule(0, 5));
        Checks.refuses("rule(0, -1)", Checks.BAD_ARGUMENT, () -> k.rule(0, -1));
        Checks.refuses("rule(2, 5)", Checks.NO_INDEX, () -> k.rule(2, 5));
    }

    private static void approvals() {
        DesiredStateKeeper k = Checks.keeper("D12101" + "0" + "00");
        k.approve(1, 3, 4);
        k.approve(1, 3, 0);
        k.approve(0, 0, 2);
        Checks.due("approvals(1, 3)", k.approvals(1, 3), 0b10001);
        Checks.due("approvals(0, 0)", k.approvals(0, 0), 0b100);
        Checks.due("approvals(1, 2)", k.approvals(1, 2), 0);
        Checks.due("approvals(0, 3)", k.approvals(0, 3), 0);
        Checks.refuses("approvals(2, 0)", Checks.NO_INDEX, () -> k.approvals(2, 0));
        Checks.refuses("approvals(-1, 9)", Checks.NO_INDEX, () -> k.approvals(-1, 9));
        Checks.refuses("approvals(0, 4)", Checks.BAD_ARGUMENT, () -> k.approvals(0, 4));
        Checks.refuses("approvals(0, -1)", Checks.BAD_ARGUMENT, () -> k.approvals(0, -1));
    }

    private static void quorum() {
        DesiredStateKeeper k = Checks.keeper("D13101" + "0" + "205");
        Checks.due("quorum(0)", k.quorum(0), 2);
        Checks.due("quorum(1)", k.quorum(1), 0);
        Checks.due("quorum(2)", k.quorum(2), 5);
        Checks.refuses("quorum(3)", Checks.NO_INDEX, () -> k.quorum(3));
        Checks.refuses("quorum(-1)", Checks.NO_INDEX, () -> k.quorum(-1));
    }
}
