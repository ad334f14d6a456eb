/** The edges of what there is: nodes, components, versions, rules, approvals, quorums, and the calls that tell them. */
final class FactEdges {

    private static final int NONE = DesiredStateKeeper.NONE;

    private FactEdges() {
    }

    static void run() {
        none();
        newObject();
        versionsAndDrift();
        rings();
        tenRules();
        ruleKinds();
        brokenByPresentVersions();
        approvers();
        quorums();
        about();
        longUse();
        node();
        versionCall();
        rule();
        approvals();
        quorum();
    }

    private static void none() {
        Sentences.term("The constants: `NONE = -9`: There is no such result.");
        Checks.due("NONE", DesiredStateKeeper.NONE, -9);
    }

    private static void newObject() {
        Sentences.term("A new object has one node in ring 0, one component with the versions 0 and the quorum 0, no "
                + "rules, no approvals, the limit 3 and the length 5.");
        newFacts(new DesiredStateKeeper());
        Sentences.term("The time is 0 at first, and so is the number of changes.");
        for (DesiredStateKeeper k : new DesiredStateKeeper[] {new DesiredStateKeeper(),
            Checks.keeper("D56150" + "00000" + "000000" + "w001v453")}) {
            Checks.due("time", k.about(5), 0);
            Checks.due("changes", k.about(6), 0);
        }
        Sentences.promise(1, "Creates a keeper with one node, as described above.");
        newFacts(new DesiredStateKeeper());
        DesiredStateKeeper first = Recipes.NEW.make();
        DesiredStateKeeper second = new DesiredStateKeeper();
        first.drift(0, 0, 3);
        first.wish(0, 0, 2);
        first.approve(0, 3, 4);
        first.setQuorum(0, 5);
        first.setFaults(0, 9);
        first.append('D');
        first.save(0);
        first.tick(50);
        newFacts(second);
        Checks.refuses("undo", Checks.BAD_STATE, second::undo);
        Checks.refuses("restore(0)", Checks.BAD_STATE, () -> second.restore(0));
        Checks.refuses("restore(1)", Checks.BAD_STATE, () -> second.restore(1));
        Checks.due("the text is empty", second.clearText(), 0);
        Checks.due("the limit", strikesUntilQuarantine(new DesiredStateKeeper()), 3);
        Checks.due("the length", endOfFirstQuarantine(new DesiredStateKeeper()), 3 + 5);
    }

    private static void newFacts(DesiredStateKeeper k) {
        Checks.due("nodes", k.about(0), 1);
        Checks.due("ring", k.node(0, 0), 0);
        Checks.due("components", k.about(1), 1);
        Checks.due("present version", k.version(0, 0, false), 0);
        Checks.due("wished version", k.version(0, 0, true), 0);
        Checks.due("quorum", k.quorum(0), 0);
        Checks.due("rules", k.about(2), 0);
        for (int v = 0; v <= 3; v++) {
            Checks.due("approvals of " + v, k.approvals(0, v), 0);
        }
        Checks.due("limit", k.about(3), 3);
        Checks.due("length", k.about(4), 5);
        Checks.due("time", k.about(5), 0);
        Checks.due("changes", k.about(6), 0);
        Checks.due("calm nodes", k.about(7), 1);
        Checks.due("faults", k.node(0, 1), 0);
        Checks.due("strikes", k.node(0, 2), 0);
        Checks.due("quarantine", k.node(0, 3), NONE);
    }

    private static int strikesUntilQuarantine(DesiredStateKeeper k) {
        k.wish(0, 0, 1);
        k.setFaults(0, 9);
        int ticks = 0;
        while (k.node(0, 3) == NONE && ticks < 9) {
            k.tick(1);
            ticks++;
        }
        return ticks;
    }

    private static int endOfFirstQuarantine(DesiredStateKeeper k) {
        strikesUntilQuarantine(k);
        return k.node(0, 3);
    }

    private static void versionsAndDrift() {
        Sentences.term("A version is a number from 0 (absent) to 3.");
        for (int v = 0; v <= 3; v++) {
            DesiredStateKeeper k = new DesiredStateKeeper();
            k.wish(0, 0, v);
            k.drift(0, 0, v);
            Checks.due("wished " + v, k.version(0, 0, true), v);
            Checks.due("present " + v, k.version(0, 0, false), v);
        }
        for (int v : new int[] {-1, 4}) {
            Unchanged.refused("wish(0, 0, " + v + ")", Checks.BAD_ARGUMENT, k -> k.wish(0, 0, v));
            Unchanged.refused("drift(0, 0, " + v + ")", Checks.BAD_ARGUMENT, k -> k.drift(0, 0, v));
        }
        Sentences.term("and for each component a present version and a wished version; a component is drifted on a "
                + "node if these differ.");
        for (int present = 0; present <= 3; present++) {
            for (int wished = 0; wished <= 3; wished++) {
                for (int c : new int[] {0, 5}) {
                    DesiredStateKeeper k = Checks.keeper("D56101" + "00000" + "000000" + "v4" + c + present + "w4" + c
                            + wished);
                    Checks.due(present + " and " + wished, k.node(4, 4), present == wished ? 0 : 1 << c);
                    Checks.due("another node", k.node(3, 4), 0);
                }
            }
        }
    }

    private static void rings() {
        Sentences.term("Each node has a ring, 0 to 2");
        for (int ring = 0; ring <= 2; ring++) {
            DesiredStateKeeper k = Checks.keeper("D51101" + ring + "111" + ring + "0");
            Checks.due("ring of the first node", k.node(0, 0), ring);
            Checks.due("ring of the last node", k.node(4, 0), ring);
            Checks.due("ring of another", k.node(3, 0), 1);
        }
    }

    private static void tenRules() {
        Sentences.term("There are at most 10 rules, numbered from 0.");
        DesiredStateKeeper k = Checks.keeper("D12101" + "0" + "00" + "n0111".repeat(9) + "x1302");
        Checks.due("rules", k.about(2), 10);
        Checks.due("the first rule", k.rule(0, 0), 0);
        Checks.due("the last rule", k.rule(9, 0), 1);
        Checks.due("a of the last rule", k.rule(9, 1), 1);
        Checks.refuses("rule(10, 0)", Checks.NO_INDEX, () -> k.rule(10, 0));
        Checks.refuses("holdsUp(10)", Checks.NO_INDEX, () -> k.holdsUp(10));
        Checks.refuses("rule(-1, 0)", Checks.NO_INDEX, () -> k.rule(-1, 0));
        k.drift(0, 0, 3);
        Checks.due("nine rules are broken", k.node(0, 5), 0b0111111111);
        k.drift(0, 1, 3);
        Checks.due("the tenth rule is broken", k.node(0, 5), 0b1000000000);
    }

    private static void ruleKinds() {
        Sentences.term("A rule has two different components a and b and two versions x and y from 1 to 3, and is of "
                + "one of two kinds: a need (kind 0): if the version of a is at least x, the version of b must be at "
                + "least y; or a bar (kind 1): if the version of a is at least x, the version of b must be less than "
                + "y.");
        for (int x = 1; x <= 3; x++) {
            for (int y = 1; y <= 3; y++) {
                // the second pair of rules has the first and the last component in the other order
                DesiredStateKeeper k = Checks.keeper("D16101" + "0" + "000000" + "n0" + x + "5" + y + "x0" + x + "5" + y
                        + "n5" + x + "0" + y + "x5" + x + "0" + y);
                for (int first = 0; first <= 3; first++) {
                    for (int last = 0; last <= 3; last++) {
                        k.drift(0, 0, first);
                        k.drift(0, 5, last);
                        int want = (first >= x ? last >= y ? 0b10 : 0b01 : 0)
                                | (last >= x ? first >= y ? 0b1000 : 0b0100 : 0);
                        Checks.due("x " + x + ", y " + y + ", versions " + first + " and " + last, k.node(0, 5), want);
                    }
                }
            }
        }
    }

    private static void brokenByPresentVersions() {
        Sentences.term("A rule is broken on a node if it does not hold for the present versions of this node.");
        DesiredStateKeeper k = Checks.keeper("D22101" + "00" + "00" + "n0112" + "w003v103");
        Checks.due("wished versions do not matter", k.node(0, 5), 0);
        Checks.due("present versions do", k.node(1, 5), 1);
        k.drift(1, 1, 2);
        Checks.due("the other component of the rule", k.node(1, 5), 0);
        k.drift(0, 0, 1);
        Checks.due("the other node", k.node(0, 5), 1);
    }

    private static void approvers() {
        Sentences.term("There are 5 approvers, numbered from 0.");
        DesiredStateKeeper k = new DesiredStateKeeper();
        for (int who = 0; who <= 4; who++) {
            Checks.due("approver " + who, k.approve(0, 0, who), who + 1);
        }
        for (int who : new int[] {-1, 5, 32}) {
            Unchanged.refused("approve(0, 0, " + who + ")", Checks.NO_INDEX, some -> some.approve(0, 0, who));
            Unchanged.refused("dismiss(" + who + ")", Checks.NO_INDEX, some -> some.dismiss(who));
        }
        Sentences.term("For each component and each version there is a set of approvers who approve of it.");
        for (int c = 0; c < 6; c++) {
            for (int v = 0; v <= 3; v++) {
                DesiredStateKeeper one = Checks.keeper("D16101" + "0" + "000000");
                one.approve(c, v, 4);
                for (int i = 0; i < 24; i++) {
                    Checks.due("approvals(" + i / 4 + ", " + i % 4 + ") after approve(" + c + ", " + v + ", 4)",
                            one.approvals(i / 4, i % 4), i == 4 * c + v ? 16 : 0);
                }
            }
        }
    }

    private static void quorums() {
        Sentences.term("Each component has a quorum from 0 to 5.");
        for (int quorum = 0; quorum <= 5; quorum++) {
            DesiredStateKeeper k = Checks.keeper("D16101" + "0" + quorum + "0123" + quorum);
            Checks.due("of the first component", k.quorum(0), quorum);
            Checks.due("of the last component", k.quorum(5), quorum);
            Checks.due("of another one", k.quorum(4), 3);
            k.setQuorum(4, quorum);
            Checks.due("set", k.quorum(4), quorum);
        }
        for (int v : new int[] {-1, 6}) {
            Unchanged.refused("setQuorum(0, " + v + ")", Checks.BAD_ARGUMENT, some -> some.setQuorum(0, v));
        }
        Sentences.term("A version of a component is approved if there are at least as many of them as the quorum of "
                + "the component.");
        for (int quorum = 0; quorum <= 5; quorum++) {
            for (int c : new int[] {0, 5}) {
                DesiredStateKeeper k = Checks.keeper("D16101" + "0" + "555555" + "w0" + c + "3");
                k.setQuorum(c, quorum);
                for (int approvers = 0; approvers <= 5; approvers++) {
                    Checks.due("the state with the quorum " + quorum + " and " + approvers + " approvers",
                            k.state(0, c), approvers >= quorum ? 0 : 3);
                    if (approvers < 5) {
                        k.approve(c, 3, 4 - approvers);
                    }
                }
            }
        }
        DesiredStateKeeper k = Checks.keeper("D12101" + "0" + "11" + "w001");
        k.approve(0, 2, 0);
        k.approve(1, 1, 0);
        Checks.due("approvals of other versions and components do not count", k.state(0, 0), 3);
    }

    private static void about() {
        Sentences.promise(6, "Returns a number.", "Returns that number.");
        int[] least = {1, 1, 0, 1, 1, 0, 0, 0};
        int[] most = {5, 6, 10, 9, 50, 0, 0, 31};
        DesiredStateKeeper small = Checks.keeper("D11101" + "0" + "0" + "w001");
        DesiredStateKeeper great = Checks.keeper("D56950" + "00000" + "000000" + "n0111".repeat(10));
        for (int what = 0; what <= 7; what++) {
            Checks.due("about(" + what + ") of a small keeper", small.about(what), least[what]);
            Checks.due("about(" + what + ") of a great keeper", great.about(what), most[what]);
        }
        small.tick(50);
        Checks.due("time", small.about(5), 50);
        Checks.due("changes", small.about(6), 1);
        Checks.due("calm nodes", small.about(7), 1);
        for (int n = 0; n < 5; n++) {
            great.drift(n, n, 1);
            Checks.due("calm nodes without 0 to " + n, great.about(7), 31 & -(2 << n));
        }
        great.wish(2, 2, 1);
        Checks.due("node 2 alone is calm", great.about(7), 4);
        aboutSizes();
        aboutSettings();
        aboutTheTime();
        calmNodes();
    }

    private static void aboutSizes() {
        Sentences.promise(6, "0: the number of nodes");
        for (int nodes = 1; nodes <= 5; nodes++) {
            Checks.due("about(0)", Checks.keeper("D" + nodes + "6101" + "0".repeat(nodes + 6)).about(0), nodes);
        }
        Sentences.promise(6, "1: of components");
        for (int components = 1; components <= 6; components++) {
            Checks.due("about(1)", Checks.keeper("D5" + components + "101" + "0".repeat(5 + components)).about(1),
                    components);
        }
        Sentences.promise(6, "2: of rules");
        for (int rules = 0; rules <= 10; rules++) {
            Checks.due("about(2)", Checks.keeper("D12101" + "000" + "x0111".repeat(rules)).about(2), rules);
        }
    }

    private static void aboutSettings() {
        Sentences.promise(6, "3: the limit");
        for (int limit = 1; limit <= 9; limit++) {
            Checks.due("about(3)", Checks.keeper("D11" + limit + "25" + "00").about(3), limit);
        }
        Sentences.promise(6, "4: the length");
        for (String length : new String[] {"01", "09", "10", "11", "49", "50"}) {
            Checks.due("about(4)", Checks.keeper("D117" + length + "00").about(4), Integer.parseInt(length));
        }
    }

    private static void aboutTheTime() {
        Sentences.promise(6, "5: the time");
        DesiredStateKeeper k = Checks.keeper("D21101" + "00" + "0");
        k.tick(1);
        Checks.due("after a tick", k.about(5), 1);
        k.tick(50);
        Checks.due("after 50 more", k.about(5), 51);
        k.drift(0, 0, 3);
        k.wish(1, 0, 1);
        k.ahead(99, 0, 0);
        k.simulate(1, 60);
        Checks.due("other calls take no time", k.about(5), 51);
        Sentences.promise(6, "6: the number of changes");
        Checks.due("a drift and a wish are none", k.about(6), 0);
        k.setFaults(1, 1);
        k.tick(1);
        Checks.due("an attempt that fails is none", k.about(6), 1);
        k.tick(2);
        Checks.due("both nodes", k.about(6), 2);
        k.tick(50);
        Checks.due("nothing is left to change", k.about(6), 2);
        k.undo();
        k.undo();
        Checks.due("changes are taken back", k.about(6), 1);
    }

    private static void calmNodes() {
        Sentences.promise(6, "7: the set of the nodes on which no component is drifted, as a bit set");
        for (int set = 0; set < 32; set++) {
            DesiredStateKeeper k = Checks.keeper("D56101" + "00000" + "000000" + "v001w001");
            for (int n = 0; n < 5; n++) {
                if ((set >> n & 1) == 0) {
                    k.drift(n, n + 1, 1);
                    k.wish(n, 5, 3);
                }
            }
            Checks.due("about(7)", k.about(7), set);
        }
    }

    private static void longUse() {
        Sentences.term("An object is used for at most 512 calls after it has been made");
        DesiredStateKeeper ticking = new DesiredStateKeeper();
        for (int call = 1; call <= 511; call++) {
            ticking.tick(50);
        }
        Checks.due("the time in the last call", ticking.about(5), 511 * 50);
        DesiredStateKeeper drifting = new DesiredStateKeeper();
        for (int call = 1; call <= 510; call++) {
            if (call % 2 == 0) {
                Checks.due("call " + call, drifting.tick(1), 1);
            } else {
                Checks.due("call " + call, drifting.drift(0, 0, 1 + call % 3), 0);
            }
        }
        Checks.due("the changes", drifting.about(6), 255);
        Checks.due("what is remembered then", drifting.undo(), 13);
    }

    private static void node() {
        Sentences.promise(7, "Returns a number of a node.", "Returns that number.");
        DesiredStateKeeper k = Checks.keeper("D26950" + "02" + "000000" + "n0353".repeat(10) + "v103");
        int[] first = {0, 0, 0, NONE, 0, 0, 0};
        for (int what = 0; what <= 6; what++) {
            Checks.due("node(0, " + what + ")", k.node(0, what), first[what]);
        }
        Checks.due("the greatest ring", k.node(1, 0), 2);
        Checks.due("all rules are broken", k.node(1, 5), 1023);
        Checks.due("digest of component 0", k.node(1, 6), 3);
        for (int c = 0; c < 6; c++) {
            k.drift(1, c, 3);
        }
        Checks.due("all components are drifted", k.node(1, 4), 63);
        Checks.due("no rule is broken", k.node(1, 5), 0);
        Checks.due("the greatest digest", k.node(1, 6), 63);
        k.drift(1, 5, 1);
        Checks.due("a version weighs by its component", k.node(1, 6), 51);
        k.setFaults(1, 9);
        Checks.due("the most faults", k.node(1, 1), 9);
        k.tick(8);
        Checks.due("the most strikes", k.node(1, 2), 8);
        Checks.due("not quarantined yet", k.node(1, 3), NONE);
        k.tick(1);
        Checks.due("no strikes", k.node(1, 2), 0);
        Checks.due("no faults", k.node(1, 1), 0);
        Checks.due("the end of the quarantine", k.node(1, 3), 59);
        k.tick(49);
        Checks.due("one tick before the end", k.node(1, 3), 59);
        k.tick(1);
        Checks.due("at the end", k.node(1, 3), NONE);
        ringAndFaults();
        strikesAndQuarantine();
        setsOfANode();
        digest();
    }

    private static void ringAndFaults() {
        Sentences.promise(7, "0: its ring");
        DesiredStateKeeper rings = Checks.keeper("D51101" + "02112" + "0");
        int[] ring = {0, 2, 1, 1, 2};
        for (int n = 0; n < 5; n++) {
            Checks.due("node(" + n + ", 0)", rings.node(n, 0), ring[n]);
        }
        Sentences.promise(7, "1: its faults");
        DesiredStateKeeper faults = Checks.keeper("D51901" + "00000" + "0" + "w401");
        for (int n = 0; n < 5; n++) {
            faults.setFaults(n, 9 - n);
        }
        for (int n = 0; n < 5; n++) {
            Checks.due("node(" + n + ", 1)", faults.node(n, 1), 9 - n);
        }
        faults.tick(3);
        Checks.due("three attempts", faults.node(4, 1), 2);
        Checks.due("no attempt", faults.node(0, 1), 9);
    }

    private static void strikesAndQuarantine() {
        Sentences.promise(7, "2: its strikes");
        DesiredStateKeeper k = Checks.keeper("D51403" + "00000" + "0" + "w001w101w201w301w401");
        for (int n = 0; n < 5; n++) {
            k.setFaults(n, n);
        }
        k.tick(2);
        int[] strikes = {0, 0, 2, 2, 2};
        for (int n = 0; n < 5; n++) {
            Checks.due("node(" + n + ", 2)", k.node(n, 2), strikes[n]);
        }
        Sentences.promise(7, "3: the end of its quarantine (NONE if it is not quarantined)");
        k.tick(1);
        Checks.due("before the fourth strike", k.node(4, 3), NONE);
        k.tick(1);
        Checks.due("with the fourth strike", k.node(4, 3), 7);
        Checks.due("a node that did not fail so often", k.node(3, 3), NONE);
        k.tick(2);
        Checks.due("one tick before the end", k.node(4, 3), 7);
        k.tick(1);
        Checks.due("at the end", k.node(4, 3), NONE);
        k.undo();
        k.pardon(4);
        Checks.due("after a pardon", k.node(4, 3), NONE);
    }

    private static void setsOfANode() {
        Sentences.promise(7, "4: the set of its drifted components, as a bit set");
        for (int set = 0; set < 64; set++) {
            DesiredStateKeeper k = Checks.keeper("D26101" + "00" + "000000" + "v053w053");
            for (int c = 0; c < 6; c++) {
                if ((set >> c & 1) == 1) {
                    k.drift(1, c, 1 + c % 3);
                }
            }
            Checks.due("node(1, 4)", k.node(1, 4), set);
            Checks.due("of the other node", k.node(0, 4), 0);
        }
        Sentences.promise(7, "5: the set of the rules that are broken on it, as a bit set");
        DesiredStateKeeper k = Checks.keeper("D26101" + "00" + "000000"
                + "n0112n0113x1121n2131n3141x4151n5101n5103x2131x0151");
        Checks.due("nothing is there, so all needs and bars hold", k.node(1, 5), 0);
        k.drift(1, 0, 1);
        Checks.due("two needs", k.node(1, 5), 0b11);
        k.drift(1, 1, 2);
        Checks.due("one need", k.node(1, 5), 0b10);
        k.drift(1, 2, 3);
        Checks.due("a bar and a need more", k.node(1, 5), 0b1110);
        k.drift(1, 3, 1);
        Checks.due("a need gone, a need and a bar more", k.node(1, 5), 0b100010110);
        k.drift(1, 5, 1);
        Checks.due("the last rules", k.node(1, 5), 0b1110010110);
        Checks.due("of the other node", k.node(0, 5), 0);
    }

    private static void digest() {
        Sentences.promise(7, "6: its digest, the sum of (c + 1) * (present version of component c) for all components "
                + "c");
        for (int c = 0; c < 6; c++) {
            for (int v = 0; v <= 3; v++) {
                DesiredStateKeeper k = Checks.keeper("D26101" + "00" + "000000" + "v1" + c + v + "w103w153");
                Checks.due("version " + v + " of component " + c + " alone", k.node(1, 6), (c + 1) * v);
                Checks.due("of the other node", k.node(0, 6), 0);
            }
        }
        int[] versions = {3, 1, 0, 2, 1, 3};
        for (int components = 1; components <= 6; components++) {
            DesiredStateKeeper k = Checks.keeper("D1" + components + "101" + "0".repeat(1 + components));
            int sum = 0;
            for (int c = 0; c < components; c++) {
                k.drift(0, c, versions[c]);
                sum += (c + 1) * versions[c];
            }
            Checks.due("of " + components + " components", k.node(0, 6), sum);
        }
    }

    private static void versionCall() {
        Sentences.promise(8, "Returns a version of a component.", "Returns the version.");
        for (int v = 0; v <= 3; v++) {
            DesiredStateKeeper k = Checks.keeper("D56101" + "00000" + "000000" + "v45" + v + "w45" + (3 - v)
                    + "v00" + (3 - v) + "w00" + v);
            Checks.due("present of the last", k.version(4, 5, false), v);
            Checks.due("wished of the last", k.version(4, 5, true), 3 - v);
            Checks.due("present of the first", k.version(0, 0, false), 3 - v);
            Checks.due("wished of the first", k.version(0, 0, true), v);
            Checks.due("of another component", k.version(4, 4, false) + k.version(4, 0, true), 0);
            Checks.due("of another node", k.version(3, 5, false) + k.version(0, 5, true), 0);
        }
    }

    private static void rule() {
        Sentences.promise(9, "Returns a number of a rule.", "Returns that number.");
        DesiredStateKeeper k = Checks.keeper("D16101" + "0" + "000000" + "n0111" + "n1223".repeat(8) + "x5343");
        int[][] want = {{0, 0, 1, 1, 1}, {0, 1, 2, 2, 3}, {1, 5, 3, 4, 3}};
        int[] rules = {0, 8, 9};
        for (int i = 0; i < 3; i++) {
            for (int what = 0; what <= 4; what++) {
                Checks.due("rule(" + rules[i] + ", " + what + ")", k.rule(rules[i], what), want[i][what]);
            }
        }
    }

    private static void approvals() {
        Sentences.promise(10, "Returns who approves of a version.", "Returns the set of the approvers, as a bit set.");
        DesiredStateKeeper k = Checks.keeper("D16101" + "0" + "000000");
        Checks.due("nobody", k.approvals(5, 3), 0);
        k.approve(5, 3, 4);
        Checks.due("the last one alone", k.approvals(5, 3), 16);
        k.approve(5, 3, 0);
        Checks.due("the first one, too", k.approvals(5, 3), 17);
        k.approve(5, 3, 2);
        k.approve(5, 3, 1);
        k.approve(5, 3, 3);
        Checks.due("all", k.approvals(5, 3), 31);
        Checks.due("another version", k.approvals(5, 2), 0);
        Checks.due("another component", k.approvals(4, 3), 0);
        k.dismiss(2);
        Checks.due("all but one", k.approvals(5, 3), 27);
    }

    private static void quorum() {
        Sentences.promise(11, "Returns its quorum.");
        DesiredStateKeeper k = Checks.keeper("D16101" + "0" + "012345");
        for (int c = 0; c < 6; c++) {
            Checks.due("quorum(" + c + ")", k.quorum(c), c);
        }
        k.setQuorum(5, 0);
        k.setQuorum(0, 5);
        Checks.due("the first one", k.quorum(0), 5);
        Checks.due("the last one", k.quorum(5), 0);
    }
}
