/** The edges of what is told of reasons, of the time to come, of ways, digests and ranks. */
final class AnswerEdges {

    private static final int NONE = DesiredStateKeeper.NONE;

    private AnswerEdges() {
    }

    static void run() {
        whatItTells();
        state();
        next();
        breaks();
        holdsUp();
        missing();
        ahead();
        calmAfter();
        fewest();
        whatDoesNotMatter();
        step();
        needed();
        isPossible();
        explains();
        ranked();
    }

    private static void whatItTells() {
        Sentences.term("It tells why a change does not happen, the fewest changes that lead to the wish, what a version "
                + "needs, what is possible at all, and which drift explains a digest.");
        DesiredStateKeeper k = Checks.keeper("D12101" + "0" + "00" + "n0211x0313n0313" + "w002");
        Checks.due("why: it is not safe", k.state(0, 0), 5);
        Checks.due("why: this rule would break", k.breaks(0, 0, 2), 1);
        Checks.due("why: without it, it would be safe", k.holdsUp(0), 1);
        Checks.due("the wish alone breaks the rule", k.fewest(0), NONE);
        k.wish(0, 1, 1);
        Checks.due("the fewest changes", k.fewest(0), 2);
        Checks.due("the need first", k.step(0, 0) * 100 + k.step(0, 1), 502);
        Checks.due("what version 2 needs", k.needed(0, 2, 1), 1);
        Checks.due("what version 3 needs", k.needed(0, 3, 1), 3);
        Checks.due("version 2 is possible", k.isPossible(0, 2), true);
        Checks.due("version 3 is not", k.isPossible(0, 3), false);
        Checks.due("the digest 2 is version 2 of component 0 or version 1 of 1", k.explains(0, 2), 1 << 2 | 1 << 5);
    }

    // ---- why changes do not happen

    private static void state() {
        Sentences.promise(22, "Returns the state of a component if a node came now.",
                "Returns the state, 0 to 5, as described for ticks.");
        DesiredStateKeeper k = Recipes.FULL.make();
        int[][] want = {{1, 1, 3, 1, 1, 1}, {1, 1, 1, 5, 1, 1}, {1, 1, 3, 1, 1, 4}, {1, 1, 1, 1, 1, 0},
            {1, 1, 1, 2, 1, 2}};
        for (int n = 0; n < 5; n++) {
            for (int c = 0; c < 6; c++) {
                Checks.due("state(" + n + ", " + c + ")", k.state(n, c), want[n][c]);
            }
        }
        k.wish(0, 1, 3);
        Checks.due("approved", k.state(0, 1), 5);
        k.dismiss(0);
        Checks.due("no longer approved", k.state(0, 1), 3);
        // now is the present time, not the time of the next tick
        DesiredStateKeeper now = Checks.keeper("D11101" + "0" + "0" + "w001");
        now.setFaults(0, 1);
        now.tick(1);
        Checks.due("quarantined now", now.state(0, 0), 2);
        Checks.due("but not in the next tick", now.tick(1), 1);
    }

    private static void next() {
        Sentences.promise(23, "Returns the component that a node would attempt to change if it came now.",
                "Returns the component; NONE if there is none.");
        for (int c = 0; c < 6; c++) {
            DesiredStateKeeper k = Checks.keeper("D56101" + "00000" + "000000" + "w4" + c + "3" + "w053");
            Checks.due("the one that is ready", k.next(4), c);
            Checks.due("of the first node", k.next(0), 5);
            Checks.due("none", k.next(3), NONE);
            k.setQuorum(c, 1);
            Checks.due("it is not approved", k.next(4), NONE);
            k.wish(4, 5, 3);
            Checks.due("the last one", k.next(4), c == 5 ? NONE : 5);
            k.setFaults(4, 9);
            Checks.due("faults do not matter", k.next(4), c == 5 ? NONE : 5);
        }
        Checks.due("of a new object", new DesiredStateKeeper().next(0), NONE);
        DesiredStateKeeper now = Checks.keeper("D11101" + "0" + "0" + "w001");
        now.setFaults(0, 1);
        now.tick(1);
        Checks.due("quarantined now", now.next(0), NONE);
    }

    private static void breaks() {
        Sentences.promise(24, "Tells which rules a change would break.", "Returns the set of the rules that would be "
                + "broken on the node after the change of the component to this version and are not broken now, as a "
                + "bit set.");
        for (int present = 0; present <= 3; present++) {
            for (int other = 0; other <= 3; other++) {
                DesiredStateKeeper k = Checks.keeper("D26101" + "00" + "000000" + "n0253x0352" + "v10" + present + "v15"
                        + other);
                for (int v = 0; v <= 3; v++) {
                    int need = v >= 2 && other < 3 && !(present >= 2 && other < 3) ? 1 : 0;
                    int bar = v >= 3 && other >= 2 && !(present >= 3 && other >= 2) ? 2 : 0;
                    Checks.due(present + " to " + v + " beside " + other, k.breaks(1, 0, v), need + bar);
                    int needBy5 = present >= 2 && v < 3 && other >= 3 ? 1 : 0;
                    int barBy5 = present >= 3 && v >= 2 && other < 2 ? 2 : 0;
                    Checks.due(other + " to " + v + " beside " + present, k.breaks(1, 5, v), needBy5 + barBy5);
                    Checks.due("a component without rules", k.breaks(1, 3, v), 0);
                }
            }
        }
        DesiredStateKeeper ten = Checks.keeper("D22101" + "00" + "00" + "n0312".repeat(5) + "n0112".repeat(5)
                + "v101w003");
        Checks.due("all ten", ten.breaks(0, 0, 3), 1023);
        Checks.due("the last five", ten.breaks(0, 0, 1), 992);
        Checks.due("those that are not broken now", ten.breaks(1, 0, 3), 31);
        Checks.due("to what it is", ten.breaks(1, 0, 1), 0);
        Checks.due("without rules", new DesiredStateKeeper().breaks(0, 0, 3), 0);
    }

    private static void holdsUp() {
        Sentences.promise(25, "Tells how much a rule holds up.", "Returns the number of pairs of a node and a "
                + "component whose state is 5 and would not be 5 without this rule.");
        DesiredStateKeeper k = Checks.keeper("D56101" + "00000" + "000000" + "n0111".repeat(2) + "n2131".repeat(7)
                + "x4151" + "v051v151v251v351v451");
        for (int r = 0; r < 10; r++) {
            Checks.due("nothing is drifted for rule " + r, k.holdsUp(r), 0);
        }
        k.wishRing(0, 5, 1);
        k.wishRing(0, 4, 3);
        Checks.due("the last rule on all nodes", k.holdsUp(9), 5);
        k.wishRing(0, 0, 1);
        Checks.due("not safe", k.state(0, 0), 5);
        Checks.due("another rule does the same", k.holdsUp(0), 0);
        Checks.due("and so does this one", k.holdsUp(1), 0);
        k.setQuorum(4, 1);
        Checks.due("the state is 3", k.holdsUp(9), 0);
        DesiredStateKeeper two = Checks.keeper("D14101" + "0" + "0000" + "n0131n1131n2131" + "w001w011w021");
        Checks.due("one component each", two.holdsUp(0) + two.holdsUp(1) + two.holdsUp(2), 3);
        DesiredStateKeeper both = Checks.keeper("D14101" + "0" + "0000" + "n0131x0121" + "v021w021" + "w001");
        Checks.due("one of two is not enough", both.holdsUp(0) + both.holdsUp(1), 0);
        both.drift(0, 3, 1);
        Checks.due("then it is the other one alone", both.holdsUp(1) * 10 + both.holdsUp(0), 10);
        DesiredStateKeeper pair = Checks.keeper("D13101" + "0" + "000" + "n0121n1121" + "v021v001v011" + "w001w011");
        Checks.due("each of the two rules holds", pair.state(0, 2), 5);
        Checks.due("neither of them alone", pair.holdsUp(0) + pair.holdsUp(1), 0);
        DesiredStateKeeper broken = Checks.keeper("D13101" + "0" + "000" + "n0121n0111" + "v001v011w001");
        Checks.due("a rule that is broken before does not hold up", broken.holdsUp(0), 0);
        Checks.due("one that breaks does", broken.holdsUp(1), 1);
        DesiredStateKeeper ringed = Checks.keeper("D22101" + "01" + "00" + "n0111" + "w001w101");
        Checks.due("the state of the upper ring is 4", ringed.holdsUp(0), 1);
    }

    private static void missing() {
        Sentences.promise(26, "Tells how many approvals are missing.", "Returns the sum of the numbers of approvals "
                + "that are missing to the quorum of the component, over all versions of it that are wished on a node "
                + "on which it is drifted (each version counts once).");
        for (int quorum = 0; quorum <= 5; quorum++) {
            for (int given = 0; given <= 5; given++) {
                // all four versions are wished where the component is drifted, version 0 on two nodes
                DesiredStateKeeper k = Checks.keeper("D51101" + "00000" + quorum + "v001w102w201w303v403");
                for (int who = 0; who < given; who++) {
                    k.approve(0, 0, who);
                }
                Checks.due("the quorum " + quorum + " and " + given + " approvals of one version", k.missing(0),
                        3 * quorum + Math.max(0, quorum - given));
            }
        }
        DesiredStateKeeper k = Checks.keeper("D52101" + "00000" + "55" + "w003w103w203w303w403");
        Checks.due("one version on all nodes counts once", k.missing(0), 5);
        Checks.due("nothing is drifted", k.missing(1), 0);
        for (int who = 0; who < 5; who++) {
            k.approve(0, 3, who);
            Checks.due("after " + (who + 1), k.missing(0), 4 - who);
        }
        k.setQuorum(0, 2);
        Checks.due("more approvals than the quorum", k.missing(0), 0);
        k.wish(4, 0, 2);
        Checks.due("do not count for another version", k.missing(0), 2);
        DesiredStateKeeper done = Checks.keeper("D21101" + "00" + "5" + "w003v003w102");
        Checks.due("a wish that is fulfilled does not count", done.missing(0), 5);
        done.drift(1, 0, 2);
        Checks.due("none is drifted", done.missing(0), 0);
        DesiredStateKeeper held = Checks.keeper("D21150" + "00" + "5" + "w003w103");
        held.setQuorum(0, 0);
        held.setFaults(0, 1);
        held.tick(1);
        held.setQuorum(0, 4);
        Checks.due("a quarantined node counts, too", held.missing(0), 4);
    }

    // ---- the time to come

    private static void ahead() {
        Sentences.promise(27, "Returns a number of a node after some ticks.", "Returns that number then.");
        for (int t : new int[] {0, 1, 2, 49, 50, 51, 98, 99}) {
            DesiredStateKeeper k = Recipes.FULL.make();
            DesiredStateKeeper twin = Recipes.FULL.make();
            for (int i = 0; i < t; i++) {
                twin.tick(1);
            }
            for (int n = 0; n < 5; n++) {
                for (int what = 0; what <= 6; what++) {
                    Checks.due("ahead(" + t + ", " + n + ", " + what + ")", k.ahead(t, n, what), twin.node(n, what));
                }
            }
        }
        Sentences.term("---- the time to come, if there are ticks and no other actions.");
        DesiredStateKeeper k = Checks.keeper("D11150" + "0" + "0" + "w003");
        k.setFaults(0, 1);
        Checks.due("no fault has gone", k.ahead(0, 0, 1), 1);
        Checks.due("one fault has gone", k.ahead(1, 0, 1), 0);
        Checks.due("the end", k.ahead(1, 0, 3), 51);
        Checks.due("one tick before the end", k.ahead(50, 0, 3), 51);
        Checks.due("still drifted", k.ahead(50, 0, 4), 1);
        Checks.due("at the end", k.ahead(51, 0, 3), NONE);
        Checks.due("as wished", k.ahead(51, 0, 6), 3);
        Checks.due("in the last tick that may be asked", k.ahead(99, 0, 4), 0);
        k.tick(50);
        Checks.due("from there on", k.ahead(0, 0, 4) * 10 + k.ahead(1, 0, 4), 10);
    }

    private static void calmAfter() {
        Sentences.promise(28, "Tells when all is as wished.", "Returns the smallest number of ticks, 0 to 99, after "
                + "which no component is drifted on any node; NONE if there is none.");
        Checks.due("at once", new DesiredStateKeeper().calmAfter(), 0);
        // with the limit 1, f faults and the length l the change succeeds in the tick 1 + f * l
        int[][] faultsAndLengths = {{0, 1, 1}, {1, 1, 2}, {9, 1, 10}, {1, 50, 51}, {2, 48, 97}, {7, 14, 99},
            {2, 49, 99}, {9, 11, NONE}, {3, 33, NONE}, {2, 50, NONE}, {9, 50, NONE}};
        for (int[] row : faultsAndLengths) {
            DesiredStateKeeper k = Checks.keeper("D211" + row[1] / 10 + row[1] % 10 + "00" + "0" + "w103");
            k.setFaults(1, row[0]);
            Checks.due(row[0] + " faults, length " + row[1], k.calmAfter(), row[2]);
            if (row[2] == 99) {
                k.tick(1);
                Checks.due("one tick later", k.calmAfter(), 98);
            }
        }
        DesiredStateKeeper never = Checks.keeper("D11101" + "0" + "1" + "w003");
        Checks.due("never", never.calmAfter(), NONE);
        never.drift(0, 0, 3);
        Checks.due("but at once after a drift", never.calmAfter(), 0);
        DesiredStateKeeper great = Checks.keeper("D56101" + "00000" + "000000");
        for (int c = 0; c < 6; c++) {
            great.wishRing(0, c, 3);
        }
        Checks.due("six components on each node", great.calmAfter(), 6);
        great.drift(4, 5, 3);
        Checks.due("the slowest node counts", great.calmAfter(), 6);
    }

    // ---- ways to the wish

    private static void way(String name, DesiredStateKeeper k, int n, int... changes) {
        Checks.due(name + ": fewest", k.fewest(n), changes.length);
        for (int i = 0; i < changes.length; i++) {
            Checks.due(name + ": step " + i, k.step(n, i), changes[i]);
        }
        Checks.due(name + ": the first that is too far", k.step(n, changes.length), NONE);
        Checks.due(name + ": the last that may be asked", k.step(n, Integer.MAX_VALUE), NONE);
    }

    private static DesiredStateKeeper ladder() {
        // 0 may be at most one ahead of 1, and 1 at most one ahead of 0
        return Checks.keeper("D22101" + "00" + "00" + "n0211n1201n0312n1302" + "w103w113");
    }

    private static void fewest() {
        Sentences.promise(29, "Tells how many changes lead to the wish at least: a sequence of changes of components "
                + "of the node (of any component to any other version, wished or not), each of which is safe when it "
                + "is made, after which all present versions are the wished ones.",
                "Returns the length of a shortest such sequence; NONE if there is none.");
        Checks.due("nothing to do", new DesiredStateKeeper().fewest(0), 0);
        DesiredStateKeeper all = Checks.keeper("D56101" + "00000" + "000000" + "w403w413w423w433w443w453");
        Checks.due("all components", all.fewest(4), 6);
        Checks.due("none of another node", all.fewest(0), 0);
        Checks.due("versions that are not wished", ladder().fewest(1), 4);
        Checks.due("nothing to do on the other node", ladder().fewest(0), 0);
        DesiredStateKeeper wish = Checks.keeper("D12101" + "0" + "00" + "n0111" + "w001");
        Checks.due("a wish that breaks a rule", wish.fewest(0), NONE);
        wish.drift(0, 0, 2);
        Checks.due("that is broken already", wish.fewest(0), 1);
        wish.drift(0, 0, 1);
        Checks.due("and where nothing is to do", wish.fewest(0), 0);
        DesiredStateKeeper locked = Checks.keeper("D12101" + "0" + "00" + "n0111n1101" + "w003w013");
        Checks.due("neither can come first", locked.fewest(0), NONE);
        locked.drift(0, 0, 1);
        Checks.due("unless one is broken already", locked.fewest(0), 2);
        // the wish breaks the rule, too, so the rule may be broken all the way, but must not be mended
        DesiredStateKeeper broken = Checks.keeper("D12101" + "0" + "00" + "n0112" + "v001w003v010w011");
        Checks.due("broken from the start to the end", broken.fewest(0), 2);
        broken.drift(0, 1, 2);
        Checks.due("broken in the end alone", broken.fewest(0), NONE);
    }

    private static void whatDoesNotMatter() {
        Sentences.promise(29, "(Approvals, rings, faults and quarantines do not matter.)");
        DesiredStateKeeper k = Checks.keeper("D22150" + "01" + "00" + "w003w013");
        k.setFaults(0, 1);
        k.tick(1);
        k.setFaults(1, 9);
        k.wish(1, 0, 3);
        k.wish(1, 1, 3);
        k.setQuorum(0, 5);
        k.setQuorum(1, 5);
        Checks.due("node 0 is quarantined", k.state(0, 0), 2);
        Checks.due("its way", k.fewest(0), 2);
        Checks.due("node 1 is not approved", k.state(1, 0), 3);
        Checks.due("its way", k.fewest(1), 2);
        k.pardon(0);
        k.setQuorum(0, 0);
        Checks.due("node 1 is held up", k.state(1, 0), 4);
        Checks.due("its way", k.fewest(1), 2);
    }

    private static void step() {
        Sentences.promise(30, "Returns a change of the best way to the wish: of the shortest sequences as in fewest "
                + "the one that is smallest lexicographically, where a change of component c to the version v is the "
                + "number 4 * c + v.",
                "Returns the number of the change; NONE if there is no such sequence, or it has not so many changes.");
        way("nothing to do", new DesiredStateKeeper(), 0);
        way("one change", Checks.keeper("D11101" + "0" + "0" + "v003"), 0, 0);
        DesiredStateKeeper all = Checks.keeper("D56101" + "00000" + "000000" + "w403w413w423w433w443w453");
        way("the smallest first", all, 4, 3, 7, 11, 15, 19, 23);
        way("all to nothing", Checks.keeper("D12101" + "0" + "00" + "v003v013"), 0, 0, 4);
        way("the ladder", ladder(), 1, 1, 6, 3, 7);
        DesiredStateKeeper k = ladder();
        k.drift(1, 1, 1);
        way("the ladder with a start", k, 1, 2, 7, 3);
        DesiredStateKeeper chain = Checks.keeper("D16101" + "0" + "000000" + "n0111n1121n2131n3141n4151"
                + "w001w011w021w031w041w051");
        way("the greatest first", chain, 0, 21, 17, 13, 9, 5, 1);
        DesiredStateKeeper none = Checks.keeper("D12101" + "0" + "00" + "n0111n1101" + "w003w013");
        for (int i : new int[] {0, 1, 2, Integer.MAX_VALUE}) {
            Checks.due("step " + i + " of no way", none.step(0, i), NONE);
        }
        // two shortest ways differ in their second change alone
        DesiredStateKeeper fork = Checks.keeper("D13101" + "0" + "000" + "n1101n2101" + "w001w011w021");
        way("a fork", fork, 0, 1, 5, 9);
        // the first change of the smaller number is to a version that is not wished
        DesiredStateKeeper over = Checks.keeper("D12101" + "0" + "00" + "n0312n1301" + "w003w013");
        way("a stop on the way", over, 0, 1, 7, 3);
    }

    private static void needed() {
        Sentences.promise(31, "Returns what a version needs.", "If component c has at least version v and all needs "
                + "hold, the other components have at least certain versions; these are the smallest versions with "
                + "which all needs hold if c has the version v (or a greater one, where needs demand that).",
                "Returns the smallest version of b.");
        for (int x = 1; x <= 3; x++) {
            for (int y = 1; y <= 3; y++) {
                DesiredStateKeeper k = Checks.keeper("D16101" + "0" + "000000" + "n0" + x + "5" + y + "x0151");
                for (int v = 0; v <= 3; v++) {
                    Checks.due(v + " with x " + x + ", y " + y, k.needed(0, v, 5), v >= x ? y : 0);
                    Checks.due("of itself", k.needed(0, v, 0), v);
                    Checks.due("of another one", k.needed(0, v, 3), 0);
                    Checks.due("backwards", k.needed(5, v, 0), 0);
                }
            }
        }
        DesiredStateKeeper ring = Checks.keeper("D12101" + "0" + "00" + "n0111n1102n0212n1203n0313");
        Checks.due("0 needs nothing", ring.needed(0, 0, 1), 0);
        Checks.due("a greater one of itself", ring.needed(0, 1, 0), 3);
        Checks.due("and of the other one", ring.needed(0, 1, 1), 3);
        Checks.due("from the other one", ring.needed(1, 1, 1), 3);
        String chain = "n4151n3141n2131n1121n0111";
        DesiredStateKeeper six = Checks.keeper("D16101" + "0" + "000000" + chain + "n5202");
        Checks.due("a chain through all components", six.needed(0, 1, 5), 1);
        Checks.due("its end needs nothing at 1", six.needed(5, 1, 0), 0);
        Checks.due("and the beginning at 2", six.needed(5, 2, 0), 2);
        Checks.due("and so all others", six.needed(5, 2, 4), 1);
        DesiredStateKeeper bars = Checks.keeper("D12101" + "0" + "00" + "n0112x0111x0112" + "v013");
        Checks.due("bars and present versions do not matter", bars.needed(0, 3, 1), 2);
        DesiredStateKeeper ten = Checks.keeper("D12101" + "0" + "00" + "n0311".repeat(9) + "n0113");
        Checks.due("the last of ten rules", ten.needed(0, 1, 1), 3);
        Checks.due("of a new object", new DesiredStateKeeper().needed(0, 3, 0), 3);
    }

    private static void isPossible() {
        Sentences.promise(32, "Tells whether a version is possible at all.", "Returns true if there are versions of "
                + "all components, at least v for c, with which no rule is broken.");
        for (int x = 1; x <= 3; x++) {
            // from x on component 0 needs of component 5 what it bars
            DesiredStateKeeper k = Checks.keeper("D16101" + "0" + "000000" + "n0" + x + "52" + "x0" + x + "52"
                    + "v003");
            for (int v = 0; v <= 3; v++) {
                Checks.due(v + " with x " + x, k.isPossible(0, v), v < x);
                Checks.due("the other one", k.isPossible(5, v), true);
                Checks.due("another one", k.isPossible(3, v), true);
            }
        }
        for (int y = 1; y <= 3; y++) {
            for (int z = 1; z <= 3; z++) {
                DesiredStateKeeper k = Checks.keeper("D12101" + "0" + "00" + "n011" + y + "x011" + z);
                Checks.due("need of " + y + ", bar of " + z, k.isPossible(0, 1), y < z);
                Checks.due("0 is always possible", k.isPossible(0, 0), true);
            }
        }
        // each component needs of the next one what it bars: nothing is possible but to have none of them
        DesiredStateKeeper nothing = Checks.keeper("D15101" + "0" + "00000"
                + "n0111x0111n1121x1121n2131x2131n3141x3141n4101x4101");
        for (int c = 0; c < 5; c++) {
            Checks.due("none of them", nothing.isPossible(c, 0), true);
            Checks.due("one of them", nothing.isPossible(c, 1), false);
        }
        // 0 at 1 is possible, but only with 0 at 2; at least 3 is not
        DesiredStateKeeper more = Checks.keeper("D13101" + "0" + "000" + "n0111n1102n0321x0121");
        Checks.due("at least 1", more.isPossible(0, 1), true);
        Checks.due("at least 2", more.isPossible(0, 2), true);
        Checks.due("at least 3", more.isPossible(0, 3), false);
        DesiredStateKeeper ten = Checks.keeper("D12101" + "0" + "00" + "n0113".repeat(9) + "x0113");
        Checks.due("the last of ten rules", ten.isPossible(0, 1), false);
        for (int v = 0; v <= 3; v++) {
            Checks.due("of a new object", new DesiredStateKeeper().isPossible(0, v), true);
        }
    }

    // ---- digests, ranks

    private static void explains() {
        Sentences.promise(33, "Explains a digest by one change from outside.", "Returns the set of the changes of one "
                + "component of this node to another version, as numbers 4 * c + v, after which its digest would be "
                + "this one, as a bit set.");
        for (String versions : new String[] {"", "v403v413v423v433v443v453", "v401v412v423v430v441v452"}) {
            String text = "D56101" + "00000" + "000000" + versions;
            int[] want = new int[64];
            for (int change = 0; change < 24; change++) {
                DesiredStateKeeper k = Checks.keeper(text);
                if (k.drift(4, change / 4, change % 4) != change % 4) {
                    want[k.node(4, 6)] |= 1 << change;
                }
            }
            DesiredStateKeeper k = Checks.keeper(text);
            for (int digest = 0; digest <= 63; digest++) {
                Checks.due("explains(4, " + digest + ") with " + versions, k.explains(4, digest), want[digest]);
            }
            Checks.due("its own digest", k.explains(4, k.node(4, 6)), 0);
        }
        DesiredStateKeeper least = Checks.keeper("D56101" + "00000" + "000000");
        Checks.due("the greatest change", least.explains(0, 18), 1 << 23);
        Checks.due("too far for one change", least.explains(0, 63), 0);
        DesiredStateKeeper one = new DesiredStateKeeper();
        Checks.due("the last version of the only component", one.explains(0, 3), 8);
        Checks.due("a component that does not exist", one.explains(0, 4), 0);
        one.drift(0, 0, 3);
        Checks.due("to nothing", one.explains(0, 0), 1);
    }

    private static void ranks(DesiredStateKeeper k, int... want) {
        for (int i = 0; i < want.length; i++) {
            Checks.due("ranked(" + i + ")", k.ranked(i), want[i]);
        }
        Checks.refuses("ranked(" + want.length + ")", Checks.NO_INDEX, () -> k.ranked(want.length));
    }

    private static void ranked() {
        Sentences.promise(34, "Ranks the nodes by how far they are from the wish, the farthest first: by the number of "
                + "their drifted components; where it is equal, by the number of rules that are broken on them; where "
                + "both are equal, by the number of the node (the smallest first).", "Returns the node.");
        ranks(new DesiredStateKeeper(), 0);
        ranks(Checks.keeper("D56101" + "00000" + "000000"), 0, 1, 2, 3, 4);
        ranks(Checks.keeper("D51101" + "00000" + "0" + "w201w403"), 2, 4, 0, 1, 3);
        ranks(Checks.keeper("D56101" + "01201" + "000000" + "w101w201w211w301w311w321w401w411w421w431"), 4, 3, 2, 1, 0);
        ranks(Checks.keeper("D56101" + "00000" + "000000" + "w003w013w101w111w401w411"), 0, 1, 4, 2, 3);
        String rules = "n0111n0121n0131n0141";
        ranks(Checks.keeper("D56101" + "00000" + "000000" + rules + "v401w401" + "v301w301v311w311"
                + "v201w201v211w211v221w221" + "v101w101v111w111v121w121v131w131"), 4, 3, 2, 1, 0);
        // one drifted component comes before four broken rules; a rule with a high number is no more than a low one
        ranks(Checks.keeper("D36101" + "000" + "000000" + rules + "v001w001" + "w153"), 1, 0, 2);
        ranks(Checks.keeper("D26101" + "00" + "000000" + "n0111n1101" + "v011w011" + "v101w101"), 0, 1);
        ranks(Checks.keeper("D26101" + "00" + "000000" + "n0111n1101" + "v001w001" + "v111w111"), 0, 1);
        ranks(Checks.keeper("D26101" + "00" + "000000" + "w053" + "w101"), 0, 1);
        // the wish of node 0 would break the rule, the present versions of node 1 do
        ranks(Checks.keeper("D22101" + "00" + "00" + "n0111" + "w001" + "v101"), 1, 0);
    }
}
