/** Promises 33 and 34: digests and ranks. */
public final class DigestRankTest {

    public static void main(String[] args) {
        explains();
        ranked();
        Checks.end("DigestRankTest");
    }

    private static int bits(int... changes) {
        int set = 0;
        for (int change : changes) {
            set |= 1 << change;
        }
        return set;
    }

    private static void explains() {
        // versions 1 0 1 0 0 2: the digest is 1 + 3 + 12 = 16
        DesiredStateKeeper k = Checks.keeper("D26105" + "00" + "000000" + "v001v021v052");
        Checks.due("digest", k.node(0, 6), 16);
        Checks.due("explains(0, 16)", k.explains(0, 16), 0);
        Checks.due("explains(0, 17)", k.explains(0, 17), bits(4 * 0 + 2));
        Checks.due("explains(0, 18)", k.explains(0, 18), bits(4 * 0 + 3, 4 * 1 + 1));
        Checks.due("explains(0, 15)", k.explains(0, 15), bits(4 * 0 + 0));
        Checks.due("explains(0, 22)", k.explains(0, 22), bits(4 * 1 + 3, 4 * 2 + 3, 4 * 5 + 3));
        Checks.due("explains(0, 4)", k.explains(0, 4), bits(4 * 5 + 0));
        Checks.due("explains(0, 0)", k.explains(0, 0), 0);
        Checks.due("explains(0, 63)", k.explains(0, 63), 0);
        Checks.due("explains(1, 0)", k.explains(1, 0), 0);
        Checks.due("explains(1, 6)", k.explains(1, 6), bits(4 * 1 + 3, 4 * 2 + 2, 4 * 5 + 1));
        Checks.refuses("explains(2, 64)", Checks.NO_INDEX, () -> k.explains(2, 64));
        Checks.refuses("explains(-1, 0)", Checks.NO_INDEX, () -> k.explains(-1, 0));
        Checks.refuses("explains(0, 64)", Checks.BAD_ARGUMENT, () -> k.explains(0, 64));
        Checks.refuses("explains(0, -1)", Checks.BAD_ARGUMENT, () -> k.explains(0, -1));
        Checks.due("a component that does not exist", Checks.keeper("D12105" + "0" + "00").explains(0, 3),
                bits(4 * 0 + 3));
    }

    private static void ranked() {
        // node 1 has two drifted components; nodes 0, 2 and 4 have one, and node 2 breaks a rule; node 3 breaks one
        DesiredStateKeeper k = Checks.keeper("D53105" + "00000" + "000" + "n0112" + "w021w111w121v201w221w201"
                + "v301w301w421");
        int[] want = {1, 2, 0, 4, 3};
        for (int i = 0; i < 5; i++) {
            Checks.due("ranked(" + i + ")", k.ranked(i), want[i]);
        }
        DesiredStateKeeper rules = Checks.keeper("D33105" + "000" + "000" + "n0112n0122" + "v101w101v112w112v201w201");
        Checks.due("two rules first", rules.ranked(0), 2);
        Checks.due("then one rule", rules.ranked(1), 1);
        Checks.due("then none", rules.ranked(2), 0);
        Checks.refuses("ranked(5)", Checks.NO_INDEX, () -> k.ranked(5));
        Checks.refuses("ranked(-1)", Checks.NO_INDEX, () -> k.ranked(-1));
        Checks.due("ranked of a new object", new DesiredStateKeeper().ranked(0), 0);
    }
}
