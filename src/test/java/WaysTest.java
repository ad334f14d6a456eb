/** Promises 29 to 32: ways to the wish, what a version needs, and what is possible. */
public final class WaysTest {

    public static void main(String[] args) {
        fewestWithoutRules();
        fewestWithADetour();
        sixComponents();
        noWay();
        brokenStart();
        goalsAndRulesChange();
        wrongArguments();
        needed();
        isPossible();
        Checks.end("WaysTest");
    }

    private static void way(String name, DesiredStateKeeper k, int n, int... changes) {
        Checks.due(name + ": fewest", k.fewest(n), changes.length);
        for (int i = 0; i < changes.length; i++) {
            Checks.due(name + ": step " + i, k.step(n, i), changes[i]);
        }
        Checks.due(name + ": step behind the last", k.step(n, changes.length), -9);
        Checks.due(name + ": a step far away", k.step(n, Integer.MAX_VALUE), -9);
    }

    private static void fewestWithoutRules() {
        way("calm", new DesiredStateKeeper(), 0);
        DesiredStateKeeper k = Checks.keeper("D26105" + "01" + "555555" + "w003w022v022w051v101v151");
        way("two of node 0", k, 0, 4 * 0 + 3, 4 * 5 + 1);
        way("two of node 1", k, 1, 4 * 0 + 0, 4 * 5 + 0);
        k.setFaults(0, 9);
        way("faults do not matter", k, 0, 3, 21);
    }

    private static void fewestWithADetour() {
        // 0 at 1 needs 1 at 1, so the smaller number comes second
        DesiredStateKeeper k = Checks.keeper("D12105" + "0" + "00" + "n0111" + "w001w011");
        way("the need first", k, 0, 5, 1);
        // 0 bars 1, so it must go away first
        DesiredStateKeeper swap = Checks.keeper("D12105" + "0" + "00" + "x0111" + "v001w011");
        way("away before in", swap, 0, 0, 5);
        // 1 at 2 needs 0 at 1, and 0 at 3 needs 1 at 1: one of them has to stop on its way to 3, best component 0
        DesiredStateKeeper detour = Checks.keeper("D12105" + "0" + "00" + "n1201n0311" + "w003w013");
        way("a detour", detour, 0, 1, 7, 3);
        // the same with a third component that is drifted, too: its change comes where its number is smallest
        DesiredStateKeeper longer = Checks.keeper("D13105" + "0" + "000" + "n2211n1321" + "v002w001w013w023");
        way("a detour of one of three", longer, 0, 1, 5, 11, 7);
        DesiredStateKeeper barred = Checks.keeper("D12105" + "0" + "00" + "x0112" + "v001w001v011w012");
        Checks.due("a wish that breaks a rule", barred.fewest(0), -9);
    }

    private static void sixComponents() {
        // each needs the one after it, and 0 bars 5 at 3: the last one comes first, and all but 5 can be at 3
        DesiredStateKeeper k = Checks.keeper("D16105" + "0" + "000000" + "n0111n1121n2131n3141n4151x0153"
                + "w003w013w023w033w043w052");
        way("a chain", k, 0, 22, 19, 15, 11, 7, 3);
        k.wish(0, 5, 3);
        Checks.due("a chain into a bar", k.fewest(0), -9);
        k.wish(0, 0, 0);
        way("without the one that bars", k, 0, 23, 19, 15, 11, 7);
    }

    private static void noWay() {
        DesiredStateKeeper k = Checks.keeper("D12105" + "0" + "00" + "n0112" + "w001w011");
        Checks.due("a wish that breaks a rule", k.fewest(0), -9);
        Checks.due("step 0 of no way", k.step(0, 0), -9);
        Checks.due("step 7 of no way", k.step(0, 7), -9);
        // each of 0 and 1 needs the other one: neither can come first
        DesiredStateKeeper both = Checks.keeper("D12105" + "0" + "00" + "n0111n1101" + "w001w011");
        Checks.due("neither can come first", both.fewest(0), -9);
        Checks.due("neither step", both.step(0, 0), -9);
    }

    private static void brokenStart() {
        // the rule is broken at the start and in the end: then it does not matter on the way
        DesiredStateKeeper k = Checks.keeper("D12105" + "0" + "00" + "n0112" + "v001w003w011");
        way("broken all the way", k, 0, 3, 5);
        // it is broken in the end only
        DesiredStateKeeper end = Checks.keeper("D12105" + "0" + "00" + "n0112" + "v001v012w002w011");
        Checks.due("broken in the end only", end.fewest(0), -9);
        // mended on the way, it must not break again
        DesiredStateKeeper mended = Checks.keeper("D12105" + "0" + "00" + "n0112" + "v001w003w012");
        way("mended", mended, 0, 3, 6);
    }

    private static void goalsAndRulesChange() {
        DesiredStateKeeper k = Checks.keeper("D22105" + "00" + "00" + "n0111" + "w001w011w101v111");
        way("first", k, 0, 5, 1);
        Checks.due("a goal that breaks the need", k.fewest(1), -9);
        k.wish(1, 1, 1);
        way("another goal", k, 1, 1);
        way("first again", k, 0, 5, 1);
        k.drift(0, 1, 1);
        way("another start", k, 0, 1);
        Checks.write(k, "D22105" + "00" + "00" + "x0111" + "w001w011w101v111");
        k.load();
        Checks.due("the same goal under other rules", k.fewest(0), -9);
        Checks.write(k, "D22105" + "00" + "00" + "w001w011");
        k.load();
        way("the same goal without rules", k, 0, 1, 5);
        String before = Checks.sight(k);
        k.fewest(0);
        k.step(0, 1);
        Checks.due("nothing changes", Checks.sight(k), before);
    }

    private static void wrongArguments() {
        DesiredStateKeeper k = Checks.keeper("D23105" + "00" + "000" + "n0112");
        Checks.refuses("fewest(2)", Checks.NO_INDEX, () -> k.fewest(2));
        Checks.refuses("fewest(-1)", Checks.NO_INDEX, () -> k.fewest(-1));
        Checks.refuses("step(2, -1)", Checks.NO_INDEX, () -> k.step(2, -1));
        Checks.refuses("step(-1, 0)", Checks.NO_INDEX, () -> k.step(-1, 0));
        Checks.refuses("step(0, -1)", Checks.BAD_ARGUMENT, () -> k.step(0, -1));
        Checks.refuses("needed(3, 0, 0)", Checks.NO_INDEX, () -> k.needed(3, 4, 0));
        Checks.refuses("needed(-1, 0, 0)", Checks.NO_INDEX, () -> k.needed(-1, 0, 0));
        Checks.refuses("needed(0, 4, 3)", Checks.NO_INDEX, () -> k.needed(0, 4, 3));
        Checks.refuses("needed(0, 0, -1)", Checks.NO_INDEX, () -> k.needed(0, 0, -1));
        Checks.refuses("needed(0, 4, 0)", Checks.BAD_ARGUMENT, () -> k.needed(0, 4, 0));
        Checks.refuses("needed(0, -1, 0)", Checks.BAD_ARGUMENT, () -> k.needed(0, -1, 0));
        Checks.refuses("isPossible(3, 4)", Checks.NO_INDEX, () -> k.isPossible(3, 4));
        Checks.refuses("isPossible(-1, 0)", Checks.NO_INDEX, () -> k.isPossible(-1, 0));
        Checks.refuses("isPossible(0, 4)", Checks.BAD_ARGUMENT, () -> k.isPossible(0, 4));
        Checks.refuses("isPossible(0, -1)", Checks.BAD_ARGUMENT, () -> k.isPossible(0, -1));
    }

    private static void needed() {
        // a chain against the order of the rules, a ring back to 0, and a bar that does not matter
        DesiredStateKeeper k = Checks.keeper("D14105" + "0" + "0000" + "n2231n1122n0111n3103x0131" + "v033");
        Checks.due("needed(0, 0, 0)", k.needed(0, 0, 0), 0);
        Checks.due("needed(0, 0, 3)", k.needed(0, 0, 3), 0);
        Checks.due("needed(0, 1, 1)", k.needed(0, 1, 1), 1);
        Checks.due("needed(0, 1, 2)", k.needed(0, 1, 2), 2);
        Checks.due("needed(0, 1, 3)", k.needed(0, 1, 3), 1);
        Checks.due("needed(0, 1, 0)", k.needed(0, 1, 0), 3);
        Checks.due("needed(2, 1, 3)", k.needed(2, 1, 3), 0);
        Checks.due("needed(2, 1, 2)", k.needed(2, 1, 2), 1);
        Checks.due("needed(2, 3, 0)", k.needed(2, 3, 0), 3);
        Checks.due("needed(2, 3, 2)", k.needed(2, 3, 2), 3);
        DesiredStateKeeper high = Checks.keeper("D12105" + "0" + "00" + "n0111n0213");
        Checks.due("the greater of two needs", high.needed(0, 2, 1), 3);
        Checks.due("the smaller one alone", high.needed(0, 1, 1), 1);
        // ten rules, the last one first in the chain; then fewer rules on the same object
        DesiredStateKeeper ten = Checks.keeper("D13105" + "0" + "000" + "n1121".repeat(9) + "n0111");
        Checks.due("the tenth rule", ten.needed(0, 1, 1), 1);
        Checks.due("and what follows from it", ten.needed(0, 1, 2), 1);
        Checks.write(ten, "D13105" + "0" + "000" + "n0111");
        ten.load();
        Checks.due("the rule that is left", ten.needed(0, 1, 1), 1);
        Checks.due("a rule that is gone", ten.needed(0, 1, 2), 0);
        DesiredStateKeeper turned = Checks.keeper("D12105" + "0" + "00" + "n0213n0111");
        Checks.due("the greater one first", turned.needed(0, 3, 1), 3);
    }

    private static void isPossible() {
        DesiredStateKeeper k = Checks.keeper("D13105" + "0" + "000" + "n0112x0212" + "v003");
        Checks.due("isPossible(0, 0)", k.isPossible(0, 0), true);
        Checks.due("isPossible(0, 1)", k.isPossible(0, 1), true);
        Checks.due("isPossible(0, 2)", k.isPossible(0, 2), false);
        Checks.due("isPossible(0, 3)", k.isPossible(0, 3), false);
        Checks.due("isPossible(1, 3)", k.isPossible(1, 3), true);
        Checks.due("isPossible(2, 3)", k.isPossible(2, 3), true);
        // version 1 of 0 needs what it bars
        DesiredStateKeeper none = Checks.keeper("D12105" + "0" + "00" + "n0112x0111");
        Checks.due("isPossible(0, 1) of none", none.isPossible(0, 1), false);
        Checks.due("isPossible(1, 3)", none.isPossible(1, 3), true);
        DesiredStateKeeper six = Checks.keeper("D16105" + "0" + "000000" + "n5141n4131n3121n2111n1101x0151");
        Checks.due("a chain of needs that ends in a bar", six.isPossible(5, 1), false);
        Checks.due("a chain of needs without it", six.isPossible(4, 3), true);
        Checks.due("isPossible of a new object", new DesiredStateKeeper().isPossible(0, 3), true);
    }
}
