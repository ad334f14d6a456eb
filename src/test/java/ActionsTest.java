/** Promises 12 to 21: the actions, ticks among them, and undo. */
public final class ActionsTest {

    public static void main(String[] args) {
        wish();
        wishRing();
        drift();
        approve();
        dismiss();
        setQuorum();
        setFaults();
        pardon();
        tickMakesOneChangeANode();
        tickWaitsForLowerRings();
        tickFailsAndQuarantines();
        tickSkipsWhatIsNotReady();
        tickArguments();
        undo();
        undoOfEveryAction();
        refusedCallsAreNoActions();
        Checks.end("ActionsTest");
    }

    private static void wish() {
        DesiredStateKeeper k = Checks.keeper("D2220500" + "00" + "w112");
        Checks.due("wish(1, 1, 3)", k.wish(1, 1, 3), 2);
        Checks.due("wish(1, 1, 0)", k.wish(1, 1, 0), 3);
        Checks.due("wish(0, 1, 1)", k.wish(0, 1, 1), 0);
        Checks.due("wished", k.version(0, 1, true), 1);
        Checks.due("wished of another component", k.version(0, 0, true), 0);
        Checks.due("wished of another node", k.version(1, 1, true), 0);
        Checks.due("present", k.version(0, 1, false), 0);
        Checks.refuses("wish(2, 0, 0)", Checks.NO_INDEX, () -> k.wish(2, 0, 0));
        Checks.refuses("wish(-1, 0, 0)", Checks.NO_INDEX, () -> k.wish(-1, 0, 0));
        Checks.refuses("wish(0, 2, 4)", Checks.NO_INDEX, () -> k.wish(0, 2, 4));
        Checks.refuses("wish(0, -1, 0)", Checks.NO_INDEX, () -> k.wish(0, -1, 0));
        Checks.refuses("wish(0, 0, 4)", Checks.BAD_ARGUMENT, () -> k.wish(0, 0, 4));
        Checks.refuses("wish(0, 0, -1)", Checks.BAD_ARGUMENT, () -> k.wish(0, 0, -1));
    }

    private static void wishRing() {
        DesiredStateKeeper k = Checks.keeper("D42205" + "1011" + "00");
        Checks.due("wishRing(1, 1, 3)", k.wishRing(1, 1, 3), 3);
        Checks.due("wished of node 0", k.version(0, 1, true), 3);
        Checks.due("wished of node 1", k.version(1, 1, true), 0);
        Checks.due("wished of node 2", k.version(2, 1, true), 3);
        Checks.due("wished of node 3", k.version(3, 1, true), 3);
        Checks.due("wished of another component", k.version(3, 0, true), 0);
        Checks.due("wishRing(0, 1, 2)", k.wishRing(0, 1, 2), 1);
        Checks.due("wished of node 1", k.version(1, 1, true), 2);
        Checks.due("wishRing(0, 1, 0)", k.wishRing(0, 1, 0), 1);
        Checks.due("wished of node 1", k.version(1, 1, true), 0);
        Checks.due("wishRing(2, 1, 3)", k.wishRing(2, 1, 3), 0);
        Checks.due("wishRing of an empty ring is an action", k.undo(), 3);
        Checks.refuses("wishRing(3, 0, 0)", Checks.BAD_ARGUMENT, () -> k.wishRing(3, 0, 0));
        Checks.refuses("wishRing(-1, 0, 0)", Checks.BAD_ARGUMENT, () -> k.wishRing(-1, 0, 0));
        Checks.refuses("wishRing(0, 0, 4)", Checks.BAD_ARGUMENT, () -> k.wishRing(0, 0, 4));
        Checks.refuses("wishRing(0, 0, -1)", Checks.BAD_ARGUMENT, () -> k.wishRing(0, 0, -1));
        Checks.refuses("wishRing(3, 2, 4)", Checks.NO_INDEX, () -> k.wishRing(3, 2, 4));
        Checks.refuses("wishRing(0, -1, 0)", Checks.NO_INDEX, () -> k.wishRing(0, -1, 0));
    }

    private static void drift() {
        DesiredStateKeeper k = Checks.keeper("D2220500" + "00" + "v112");
        Checks.due("drift(1, 1, 3)", k.drift(1, 1, 3), 2);
        Checks.due("drift(1, 1, 1)", k.drift(1, 1, 1), 3);
        Checks.due("present", k.version(1, 1, false), 1);
        Checks.due("present of another component", k.version(1, 0, false), 0);
        Checks.due("present of another node", k.version(0, 1, false), 0);
        Checks.due("wished", k.version(1, 1, true), 0);
        Checks.due("no change is counted", k.about(6), 0);
        Checks.refuses("drift(2, 0, 0)", Checks.NO_INDEX, () -> k.drift(2, 0, 0));
        Checks.refuses("drift(-1, 0, 0)", Checks.NO_INDEX, () -> k.drift(-1, 0, 0));
        Checks.refuses("drift(0, 2, 4)", Checks.NO_INDEX, () -> k.drift(0, 2, 4));
        Checks.refuses("drift(0, -1, 0)", Checks.NO_INDEX, () -> k.drift(0, -1, 0));
        Checks.refuses("drift(0, 0, 4)", Checks.BAD_ARGUMENT, () -> k.drift(0, 0, 4));
        Checks.refuses("drift(0, 0, -1)", Checks.BAD_ARGUMENT, () -> k.drift(0, 0, -1));
    }

    private static void approve() {
        DesiredStateKeeper k = Checks.keeper("D122050" + "22");
        Checks.due("approve(1, 2, 0)", k.approve(1, 2, 0), 1);
        Checks.due("approve(1, 2, 4)", k.approve(1, 2, 4), 2);
        Checks.due("approve(1, 0, 4)", k.approve(1, 0, 4), 1);
        Checks.due("approvals", k.approvals(1, 2), 0b10001);
        Checks.refuses("approve again", Checks.BAD_STATE, () -> k.approve(1, 2, 4));
        Checks.refuses("approve(2, 0, 0)", Checks.NO_INDEX, () -> k.approve(2, 0, 0));
        Checks.refuses("approve(-1, 4, 0)", Checks.NO_INDEX, () -> k.approve(-1, 4, 0));
        Checks.refuses("approve(0, 0, 5)", Checks.NO_INDEX, () -> k.approve(0, 0, 5));
        Checks.refuses("approve(0, 4, -1)", Checks.NO_INDEX, () -> k.approve(0, 4, -1));
        Checks.refuses("approve(0, 4, 0)", Checks.BAD_ARGUMENT, () -> k.approve(0, 4, 0));
        Checks.refuses("approve(0, -1, 0)", Checks.BAD_ARGUMENT, () -> k.approve(0, -1, 0));
    }

    private static void dismiss() {
        DesiredStateKeeper k = Checks.keeper("D162050" + "000000");
        k.approve(0, 0, 3);
        k.approve(5, 3, 3);
        k.approve(5, 3, 2);
        k.approve(2, 1, 2);
        Checks.due("dismiss(3)", k.dismiss(3), 2);
        Checks.due("approvals(0, 0)", k.approvals(0, 0), 0);
        Checks.due("approvals(5, 3)", k.approvals(5, 3), 0b100);
        Checks.due("approvals(2, 1)", k.approvals(2, 1), 0b100);
        Checks.due("dismiss(3) again", k.dismiss(3), 0);
        Checks.due("dismiss(0)", k.dismiss(0), 0);
        Checks.due("a dismissal of nothing is an action", k.undo(), 6);
        Checks.due("approve after dismiss", k.approve(0, 0, 3), 1);
        Checks.refuses("dismiss(5)", Checks.NO_INDEX, () -> k.dismiss(5));
        Checks.refuses("dismiss(-1)", Checks.NO_INDEX, () -> k.dismiss(-1));
    }

    private static void setQuorum() {
        DesiredStateKeeper k = Checks.keeper("D122050" + "14" + "w001");
        Checks.due("setQuorum(1, 5)", k.setQuorum(1, 5), 4);
        Checks.due("setQuorum(1, 0)", k.setQuorum(1, 0), 5);
        Checks.due("quorum(1)", k.quorum(1), 0);
        Checks.due("quorum(0)", k.quorum(0), 1);
        Checks.due("not approved", k.state(0, 0), 3);
        k.setQuorum(0, 0);
        Checks.due("approved", k.state(0, 0), 0);
        Checks.refuses("setQuorum(2, 0)", Checks.NO_INDEX, () -> k.setQuorum(2, 6));
        Checks.refuses("setQuorum(-1, 0)", Checks.NO_INDEX, () -> k.setQuorum(-1, 0));
        Checks.refuses("setQuorum(0, 6)", Checks.BAD_ARGUMENT, () -> k.setQuorum(0, 6));
        Checks.refuses("setQuorum(0, -1)", Checks.BAD_ARGUMENT, () -> k.setQuorum(0, -1));
    }

    private static void setFaults() {
        DesiredStateKeeper k = Checks.keeper("D2120500" + "0");
        Checks.due("setFaults(1, 9)", k.setFaults(1, 9), 0);
        Checks.due("setFaults(1, 4)", k.setFaults(1, 4), 9);
        Checks.due("faults of node 1", k.node(1, 1), 4);
        Checks.due("faults of node 0", k.node(0, 1), 0);
        Checks.refuses("setFaults(2, 0)", Checks.NO_INDEX, () -> k.setFaults(2, 10));
        Checks.refuses("setFaults(-1, 0)", Checks.NO_INDEX, () -> k.setFaults(-1, 0));
        Checks.refuses("setFaults(0, 10)", Checks.BAD_ARGUMENT, () -> k.setFaults(0, 10));
        Checks.refuses("setFaults(0, -1)", Checks.BAD_ARGUMENT, () -> k.setFaults(0, -1));
    }

    private static void pardon() {
        DesiredStateKeeper k = Checks.keeper("D2120700" + "0" + "w001w101");
        Checks.refuses("pardon of a free node", Checks.BAD_STATE, () -> k.pardon(0));
        k.setFaults(0, 3);
        k.tick(1);
        Checks.refuses("pardon of a node with a strike", Checks.BAD_STATE, () -> k.pardon(0));
        Checks.due("one strike", k.node(0, 2), 1);
        k.tick(3);
        Checks.due("end of quarantine", k.node(0, 3), 9);
        Checks.due("time", k.about(5), 4);
        Checks.due("pardon(0)", k.pardon(0), 5);
        Checks.due("no end of quarantine", k.node(0, 3), -9);
        Checks.due("no strikes", k.node(0, 2), 0);
        Checks.due("the fault stays", k.node(0, 1), 1);
        Checks.due("state", k.state(0, 0), 0);
        Checks.refuses("pardon again", Checks.BAD_STATE, () -> k.pardon(0));
        Checks.refuses("pardon(2)", Checks.NO_INDEX, () -> k.pardon(2));
        Checks.refuses("pardon(-1)", Checks.NO_INDEX, () -> k.pardon(-1));
        k.undo();
        Checks.due("pardon is taken back", k.node(0, 3), 9);
        k.tick(4);
        Checks.due("pardon one tick before the end", k.pardon(0), 1);
    }

    private static void tickMakesOneChangeANode() {
        DesiredStateKeeper k = Checks.keeper("D2320500" + "000" + "w001w013w022w121v122");
        Checks.due("tick(1)", k.tick(1), 2);
        Checks.due("time", k.about(5), 1);
        Checks.due("the smallest component first", k.node(0, 4), 0b110);
        Checks.due("the other node", k.node(1, 4), 0);
        Checks.due("a version may go down", k.version(1, 2, false), 1);
        Checks.due("tick(50)", k.tick(50), 2);
        Checks.due("time", k.about(5), 51);
        Checks.due("changes", k.about(6), 4);
        Checks.due("calm nodes", k.about(7), 3);
        Checks.due("ticks are one action", k.undo(), 1);
        Checks.due("time after undo", k.about(5), 1);
        Checks.due("changes after undo", k.about(6), 2);
    }

    private static void tickWaitsForLowerRings() {
        // node 0 is in the highest ring: it comes first, so it sees the drift of the others
        DesiredStateKeeper k = Checks.keeper("D3120521" + "0" + "0" + "w001w101w201");
        Checks.due("first tick", k.tick(1), 1);
        Checks.due("only the lowest ring", k.about(7), 0b100);
        Checks.due("second tick", k.tick(1), 1);
        Checks.due("then the next one", k.about(7), 0b110);
        Checks.due("third tick", k.tick(1), 1);
        Checks.due("then the last one", k.about(7), 0b111);
        // in the order of numbers all three get it in one tick
        DesiredStateKeeper up = Checks.keeper("D3120501" + "2" + "0" + "w001w101w201");
        Checks.due("one tick", up.tick(1), 3);
        // a lower ring that cannot go on holds the upper one up, a quarantined node does not
        DesiredStateKeeper held = Checks.keeper("D2120501" + "0" + "w001w101");
        held.setFaults(0, 2);
        Checks.due("held up by a fault", held.tick(1), 0);
        Checks.due("strikes", held.node(0, 2), 1);
        Checks.due("free when node 0 is quarantined", held.tick(1), 1);
        Checks.due("node 1 is calm", held.about(7), 0b10);
    }

    private static void tickFailsAndQuarantines() {
        DesiredStateKeeper k = Checks.keeper("D1130" + "40" + "0" + "w002");
        k.setFaults(0, 4);
        Checks.due("two failures", k.tick(2), 0);
        Checks.due("faults", k.node(0, 1), 2);
        Checks.due("strikes", k.node(0, 2), 2);
        Checks.due("not yet", k.node(0, 3), -9);
        k.tick(1);
        Checks.due("faults", k.node(0, 1), 1);
        Checks.due("strikes at the limit", k.node(0, 2), 0);
        Checks.due("quarantine ends at 3 + 4", k.node(0, 3), 7);
        Checks.due("nothing happens in quarantine", k.tick(3), 0);
        Checks.due("faults in quarantine", k.node(0, 1), 1);
        Checks.due("still quarantined at 6", k.node(0, 3), 7);
        k.tick(1);
        Checks.due("an attempt in the tick of the end", k.node(0, 1), 0);
        Checks.due("a new strike", k.node(0, 2), 1);
        Checks.due("success", k.tick(1), 1);
        Checks.due("strikes after success", k.node(0, 2), 0);
        Checks.due("version", k.version(0, 0, false), 2);
    }

    private static void tickSkipsWhatIsNotReady() {
        // component 0 needs component 1, which comes later: both are changed, in two ticks
        DesiredStateKeeper k = Checks.keeper("D1320500" + "00" + "n0112w002w012");
        Checks.due("first tick", k.tick(1), 1);
        Checks.due("the need first", k.node(0, 4), 0b001);
        Checks.due("second tick", k.tick(1), 1);
        // a rule that is broken already does not hold up a change that leaves it broken
        DesiredStateKeeper broken = Checks.keeper("D1220500" + "0" + "n0113v001w002");
        Checks.due("broken before", broken.node(0, 5), 1);
        Checks.due("changed all the same", broken.tick(1), 1);
        Checks.due("broken after", broken.node(0, 5), 1);
        // approvals
        DesiredStateKeeper asked = Checks.keeper("D1120502" + "w001");
        asked.approve(0, 1, 0);
        Checks.due("one of two approvals", asked.tick(2), 0);
        asked.approve(0, 1, 1);
        Checks.due("two of two approvals", asked.tick(2), 1);
    }

    private static void tickArguments() {
        DesiredStateKeeper k = Checks.keeper("D1120500" + "w001");
        Checks.refuses("tick(0)", Checks.BAD_ARGUMENT, () -> k.tick(0));
        Checks.refuses("tick(-1)", Checks.BAD_ARGUMENT, () -> k.tick(-1));
        Checks.refuses("tick(51)", Checks.BAD_ARGUMENT, () -> k.tick(51));
        Checks.due("tick(50)", k.tick(50), 1);
    }

    private static void undo() {
        DesiredStateKeeper k = new DesiredStateKeeper();
        for (int i = 1; i <= 20; i++) {
            k.tick(i);
        }
        for (int left = 13; left >= 0; left--) {
            Checks.due("undo", k.undo(), left);
            Checks.due("time after undo", k.about(5), (6 + left) * (7 + left) / 2);
        }
        Checks.refuses("undo of what is forgotten", Checks.BAD_STATE, k::undo);
        k.tick(1);
        Checks.due("undo goes on", k.undo(), 0);
        Checks.due("time", k.about(5), 21);
        k.append('D');
        k.tick(1);
        k.append('1');
        k.save(1);
        k.undo();
        Checks.due("undo keeps the text", k.clearText(), 2);
        Checks.due("undo keeps the slots", k.restore(1), 22);
    }

    /** A keeper whose node 1 is quarantined. */
    private static DesiredStateKeeper quarantined() {
        DesiredStateKeeper k = Checks.keeper("D2210901" + "01" + "n0112v002w002w101w111");
        k.setFaults(1, 4);
        k.approve(1, 1, 1);
        k.tick(2);
        return k;
    }

    private static void undoOfEveryAction() {
        Checks.due("node 1 is quarantined", quarantined().node(1, 3) != -9, true);
        undone("wish", k -> k.wish(0, 0, 3));
        undone("wishRing", k -> k.wishRing(1, 1, 3));
        undone("drift", k -> k.drift(0, 0, 3));
        undone("approve", k -> k.approve(1, 3, 0));
        undone("dismiss", k -> k.dismiss(1));
        undone("setQuorum", k -> k.setQuorum(1, 5));
        undone("setFaults", k -> k.setFaults(1, 9));
        undone("pardon", k -> k.pardon(1));
        undone("tick", k -> k.tick(50));
    }

    private static void undone(String name, Unchanged.Body action) {
        DesiredStateKeeper k = quarantined();
        String before = Checks.sight(k);
        action.run(k);
        Checks.due(name + " changes something", Checks.sight(k).equals(before), false);
        Checks.due("undo of " + name, k.undo(), 3);
        Checks.due("after undo of " + name, Checks.sight(k), before);
    }

    private static void refusedCallsAreNoActions() {
        DesiredStateKeeper k = Checks.keeper("D1120500");
        k.approve(0, 1, 1);
        Checks.refuses("approve", Checks.BAD_STATE, () -> k.approve(0, 1, 1));
        Checks.refuses("pardon", Checks.BAD_STATE, () -> k.pardon(0));
        Checks.refuses("wish", Checks.BAD_ARGUMENT, () -> k.wish(0, 0, 9));
        Checks.refuses("drift", Checks.BAD_ARGUMENT, () -> k.drift(0, 0, 9));
        Checks.refuses("wishRing", Checks.BAD_ARGUMENT, () -> k.wishRing(0, 0, 9));
        Checks.refuses("setQuorum", Checks.BAD_ARGUMENT, () -> k.setQuorum(0, 9));
        Checks.refuses("setFaults", Checks.BAD_ARGUMENT, () -> k.setFaults(0, 19));
        Checks.refuses("dismiss", Checks.NO_INDEX, () -> k.dismiss(9));
        Checks.refuses("tick", Checks.BAD_ARGUMENT, () -> k.tick(99));
        Checks.due("only one action is remembered", k.undo(), 0);
    }
}
