/**
 * Keepers of the smallest size, of two between and of the greatest, made anew for each look at them: an object is used
 * for at most 512 calls, and the greatest takes 184 of them. None of their texts is a keeper text.
 */
enum Recipes {

    /** One node, one component, no rules; nothing is remembered, the slots and the text are empty. */
    NEW(1, 1, 0, 0) {
        @Override
        DesiredStateKeeper make() {
            return new DesiredStateKeeper();
        }
    },

    /** Three states are remembered, slot 0 is filled, slot 1 is not, and the text ends too soon. */
    MIDDLE(2, 3, 2, 3) {
        @Override
        DesiredStateKeeper make() {
            DesiredStateKeeper k = Checks.keeper("D23205" + "02" + "010" + "n0112x1221" + "w001v112w121");
            Checks.write(k, "D2320502");
            k.approve(1, 0, 4);
            k.save(0);
            k.setFaults(1, 1);
            k.tick(3);
            return k;
        }
    },

    /** More nodes than components; one state is remembered, slot 1 alone is filled, the text is one sign too long. */
    WIDE(5, 2, 1, 1) {
        @Override
        DesiredStateKeeper make() {
            DesiredStateKeeper k = Checks.keeper("D52103" + "00112" + "00" + "n0112" + "w001w101w301w401w412v012");
            k.append('D');
            k.save(1);
            k.tick(2);
            return k;
        }
    },

    /** Fourteen states are remembered, both slots and the text are full. Node 4 is quarantined, node 3 has a strike. */
    FULL(5, 6, 10, 14) {
        @Override
        DesiredStateKeeper make() {
            DesiredStateKeeper k = Checks.keeper("D56250" + "01200" + "012000"
                    + "n0112n1122x2233n3142n4253x0253n5311x1243n2111x4321" + "w001w253w451v021w431");
            k.approve(1, 3, 0);
            k.approve(1, 3, 4);
            k.approve(5, 0, 2);
            k.setFaults(3, 9);
            k.setFaults(4, 1);
            k.save(0);
            k.wish(1, 4, 1);
            k.tick(1);
            k.wish(3, 5, 2);
            k.drift(2, 2, 3);
            k.wishRing(1, 3, 2);
            k.setQuorum(5, 3);
            k.approve(5, 3, 1);
            k.dismiss(4);
            k.setQuorum(5, 0);
            k.drift(0, 0, 3);
            k.setFaults(4, 3);
            k.tick(1);
            k.approve(0, 3, 3);
            for (int length = 6 + 5 + 6 + 50 + 20; length < 160; length++) {
                k.append('w');
            }
            k.save(1);
            return k;
        }
    };

    final int nodes;
    final int components;
    final int rules;
    final int remembered;

    Recipes(int nodes, int components, int rules, int remembered) {
        this.nodes = nodes;
        this.components = components;
        this.rules = rules;
        this.remembered = remembered;
    }

    abstract DesiredStateKeeper make();
}
