/** Promises 22 to 26: why changes do not happen. */
public final class ReasonsTest {

    public static void main(String[] args) {
        state();
        next();
        breaks();
        holdsUp();
        missing();
        Checks.end("ReasonsTest");
    }

    private static void state() {
        // node 0 in ring 0, node 1 in ring 1; component 1 has the quorum 1; component 0 at 2 needs component 2 at 1
        DesiredStateKeeper k = Checks.keeper("D23105" + "01" + "010" + "n0221" + "w002w011w102w111w121");
        Checks.due("not drifted", k.state(0, 2), 1);
        Checks.due("not approved", k.state(0, 1), 3);
        Checks.due("not safe", k.state(0, 0), 5);
        Checks.due("lower ring before safety", k.state(1, 0), 4);
        Checks.due("approval before lower ring", k.state(1, 1), 3);
        Checks.due("ready", k.state(1, 2), 0);
        k.approve(1, 1, 0);
        Checks.due("approved", k.state(0, 1), 0);
        Checks.due("lower ring drifted", k.state(1, 1), 4);
        k.setFaults(0, 1);
        k.tick(1);
        Checks.due("quarantined before approval", k.state(0, 1), 2);
        Checks.due("quarantined before safety", k.state(0, 0), 2);
        Checks.due("not drifted before quarantined", k.state(0, 2), 1);
        Checks.due("a quarantined node does not hold up", k.state(1, 0), 5);
        k.tick(5);
        Checks.refuses("state(2, 0)", Checks.NO_INDEX, () -> k.state(2, 0));
        Checks.refuses("state(-1, 0)", Checks.NO_INDEX, () -> k.state(-1, 0));
        Checks.refuses("state(0, 3)", Checks.NO_INDEX, () -> k.state(0, 3));
        Checks.refuses("state(0, -1)", Checks.NO_INDEX, () -> k.state(0, -1));
        DesiredStateKeeper same = Checks.keeper("D21105" + "11" + "0" + "w001w101");
        Checks.due("the same ring does not hold up", same.state(1, 0), 0);
        Checks.due("a higher ring does not hold up", Checks.keeper("D2110510" + "0w001w101").state(1, 0), 0);
    }

    private static void next() {
        DesiredStateKeeper k = Checks.keeper("D13105" + "0" + "010" + "w001w011w021");
        Checks.due("next(0)", k.next(0), 0);
        k.tick(1);
        Checks.due("next(0) skips what is not approved", k.next(0), 2);
        k.tick(1);
        Checks.due("next(0) of none", k.next(0), -9);
        k.approve(1, 1, 4);
        Checks.due("next(0) of one", k.next(0), 1);
        k.setFaults(0, 1);
        Checks.due("faults do not matter", k.next(0), 1);
        k.tick(1);
        Checks.due("quarantine does", k.next(0), -9);
        Checks.refuses("next(1)", Checks.NO_INDEX, () -> k.next(1));
        Checks.refuses("next(-1)", Checks.NO_INDEX, () -> k.next(-1));
    }

    private static void breaks() {
        DesiredStateKeeper k = Checks.keeper("D23105" + "00" + "000" + "n0112x0223n2303v022v123");
        Checks.due("the edge of a need", k.breaks(0, 0, 1), 0b001);
        Checks.due("the edge of a bar", k.breaks(0, 0, 2), 0b001);
        Checks.due("below the edge", k.breaks(0, 0, 0), 0);
        Checks.due("a bar on the other node", k.breaks(1, 0, 2), 0b011);
        Checks.due("what is broken now does not count", k.breaks(1, 2, 3), 0);
        Checks.due("the need of 0 by 2", k.breaks(0, 2, 3), 0b100);
        k.drift(0, 0, 2);
        Checks.due("a bar broken by its second component", k.breaks(0, 2, 3), 0b110);
        k.drift(0, 1, 2);
        Checks.due("a need broken by its second component", k.breaks(0, 1, 1), 0b001);
        Checks.due("a need that still holds", k.breaks(0, 1, 3), 0);
        Checks.refuses("breaks(2, 0, 4)", Checks.NO_INDEX, () -> k.breaks(2, 0, 4));
        Checks.refuses("breaks(-1, 0, 0)", Checks.NO_INDEX, () -> k.breaks(-1, 0, 0));
        Checks.refuses("breaks(0, 3, 0)", Checks.NO_INDEX, () -> k.breaks(0, 3, 0));
        Checks.refuses("breaks(0, -1, 0)", Checks.NO_INDEX, () -> k.breaks(0, -1, 0));
        Checks.refuses("breaks(0, 0, 4)", Checks.BAD_ARGUMENT, () -> k.breaks(0, 0, 4));
        Checks.refuses("breaks(0, 0, -1)", Checks.BAD_ARGUMENT, () -> k.breaks(0, 0, -1));
    }

    private static void holdsUp() {
        // on node 0 rule 0 alone holds component 0 up, on node 1 the rules 0 and 1 do, on node 2 rule 1
        DesiredStateKeeper k = Checks.keeper("D33105" + "000" + "000" + "n0112x0121" + "w001" + "w101v121w121"
                + "w201v212w212v221w221");
        Checks.due("state of (0, 0)", k.state(0, 0), 5);
        Checks.due("state of (1, 0)", k.state(1, 0), 5);
        Checks.due("state of (2, 0)", k.state(2, 0), 5);
        Checks.due("holdsUp(0)", k.holdsUp(0), 1);
        Checks.due("holdsUp(1)", k.holdsUp(1), 1);
        k.drift(1, 2, 0);
        k.wish(1, 2, 0);
        Checks.due("holdsUp(0) of two", k.holdsUp(0), 2);
        k.setQuorum(0, 1);
        Checks.due("holdsUp(0) where nothing is approved", k.holdsUp(0), 0);
        Checks.refuses("holdsUp(2)", Checks.NO_INDEX, () -> k.holdsUp(2));
        Checks.refuses("holdsUp(-1)", Checks.NO_INDEX, () -> k.holdsUp(-1));
    }

    private static void missing() {
        DesiredStateKeeper k = Checks.keeper("D42105" + "0000" + "30" + "w001w101w202v303w303w011");
        Checks.due("two versions, each once", k.missing(0), 6);
        k.approve(0, 1, 0);
        k.approve(0, 1, 3);
        Checks.due("one and three", k.missing(0), 4);
        k.approve(0, 1, 1);
        k.approve(0, 1, 2);
        Checks.due("more than enough counts as none", k.missing(0), 3);
        k.drift(3, 0, 0);
        Checks.due("a third version", k.missing(0), 6);
        k.wish(3, 0, 0);
        Checks.due("no longer wished", k.missing(0), 3);
        k.drift(0, 0, 3);
        k.wish(0, 0, 0);
        Checks.due("version 0 counts, too", k.missing(0), 6);
        Checks.due("the quorum 0", k.missing(1), 0);
        Checks.refuses("missing(2)", Checks.NO_INDEX, () -> k.missing(2));
        Checks.refuses("missing(-1)", Checks.NO_INDEX, () -> k.missing(-1));
    }
}
