/** The edges of ticks: states, their order, attempts, faults, strikes and quarantines. */
final class TickEdges {

    private static final int NONE = DesiredStateKeeper.NONE;

    private TickEdges() {
    }

    static void run() {
        whatItIs();
        timeFirst();
        nodesInOrder();
        firstStateThatApplies();
        lowerRings();
        safety();
        unsafeOrReady();
        smallestReady();
        limits();
        lengths();
        success();
        quarantined();
        tickCall();
        pardon();
    }

    private static void whatItIs() {
        Sentences.term("A keeper of desired states: nodes have components in versions, which drift away from the "
                + "versions that are wished; changes are made node by node if they are approved by a quorum, if lower "
                + "rings are done, and if they break no rule; nodes on which changes fail again and again are "
                + "quarantined.");
        DesiredStateKeeper k = Checks.keeper("D22205" + "10" + "10" + "n0111" + "w001w011w101w111");
        Checks.due("the lower ring changes what needs no approval", k.tick(1), 1);
        Checks.due("node 1 alone", k.node(0, 6) * 10 + k.node(1, 6), 2);
        Checks.due("then the upper ring", k.tick(1), 1);
        Checks.due("both nodes", k.node(0, 6) * 10 + k.node(1, 6), 22);
        Checks.due("the rest is not approved", k.tick(1), 0);
        k.approve(0, 1, 3);
        Checks.due("now it is", k.tick(2), 2);
        Checks.due("all is as wished", k.about(7), 3);
        k.drift(1, 0, 0);
        k.drift(1, 1, 0);
        Checks.due("a drift", k.node(1, 4), 3);
        Checks.due("the change that breaks no rule comes first", k.next(1), 1);
        Checks.due("and then the other one", k.tick(1) * 10 + k.next(1), 10);
        k.setFaults(1, 2);
        k.tick(1);
        Checks.due("one failure is none too many", k.node(1, 3), NONE);
        k.tick(1);
        Checks.due("two are", k.node(1, 3), 13);
        Checks.due("until the quarantine ends", k.tick(4) * 10 + k.tick(1), 1);
        Checks.due("all is as wished again", k.about(7), 3);
    }

    private static void timeFirst() {
        Sentences.term("In a tick, the time increases by 1.");
        DesiredStateKeeper k = Checks.keeper("D11101" + "0" + "0" + "w001");
        k.setFaults(0, 2);
        k.tick(1);
        Checks.due("time", k.about(5), 1);
        Checks.due("the end is the time of this tick plus 1", k.node(0, 3), 2);
        // the time is 2 when the node comes again: the quarantine has ended
        k.tick(1);
        Checks.due("the second attempt", k.node(0, 1), 0);
        Checks.due("the second end", k.node(0, 3), 3);
        Checks.due("the third attempt", k.tick(1), 1);
        Checks.due("time", k.about(5), 3);
        DesiredStateKeeper calm = new DesiredStateKeeper();
        calm.tick(1);
        Checks.due("time where nothing is to be done", calm.about(5), 1);
    }

    private static void nodesInOrder() {
        Sentences.term("Then the nodes come one after the other, in the order of their numbers.");
        DesiredStateKeeper up = Checks.keeper("D51101" + "00122" + "0" + "w001w101w201w301w401");
        Checks.due("what a node does is seen by those after it", up.tick(1), 5);
        DesiredStateKeeper down = Checks.keeper("D51101" + "22110" + "0" + "w001w101w201w301w401");
        Checks.due("but not by those before it", down.tick(1), 1);
        Checks.due("the last node alone", down.about(7), 0b10000);
        Checks.due("the middle ring next", down.tick(1), 2);
        Checks.due("then", down.about(7), 0b11100);
        Checks.due("the upper ring at last", down.tick(1), 2);
        DesiredStateKeeper quarantine = Checks.keeper("D21150" + "01" + "0" + "w001w101");
        quarantine.setFaults(0, 1);
        Checks.due("a quarantine frees those after it in the same tick", quarantine.tick(1), 1);
        DesiredStateKeeper turned = Checks.keeper("D21150" + "10" + "0" + "w001w101");
        turned.setFaults(1, 1);
        Checks.due("and those before it in the next one", turned.tick(1), 0);
        Checks.due("then", turned.tick(1), 1);
    }

    private static void firstStateThatApplies() {
        Sentences.term("For a node that comes, each component has a state, the first of the following that applies: 1, "
                + "it is not drifted; 2, the node is quarantined; 3, its wished version is not approved;");
        // component 0: ready but for a need of component 3; 1: not approved; 2: drifted on node 0, too; 3: not drifted
        DesiredStateKeeper k = Checks.keeper("D24150" + "01" + "0100" + "n0131" + "n1131" + "n2131"
                + "w101w111w121" + "w021w011");
        Checks.due("1", k.state(1, 3), 1);
        Checks.due("3 before 4 and 5", k.state(1, 1), 3);
        Checks.due("4 before 5", k.state(1, 2), 4);
        Checks.due("5", k.state(1, 0), 5);
        k.drift(1, 3, 1);
        Checks.due("0", k.state(1, 0), 0);
        Checks.due("drifted to its wish", k.state(1, 3), 0);
        k.setQuorum(3, 5);
        Checks.due("3", k.state(1, 3), 3);
        k.wish(1, 3, 1);
        Checks.due("1 before 3", k.state(1, 3), 1);
        k.drift(0, 3, 2);
        Checks.due("1 before 4", k.state(1, 3), 1);
        // now node 1 fails and is quarantined
        k.setFaults(1, 1);
        k.tick(1);
        Checks.due("quarantined", k.node(1, 3), 51);
        Checks.due("1 before 2", k.state(1, 3), 1);
        Checks.due("2 before 0", k.state(1, 0), 2);
        Checks.due("2 before 3", k.state(1, 1), 2);
        Checks.due("2 before 4", k.state(1, 2), 2);
        k.drift(1, 3, 0);
        Checks.due("2 before 5", k.state(1, 0), 2);
    }

    private static void lowerRings() {
        Sentences.term("4, there is a node in a lower ring that is not quarantined and on which this component is "
                + "drifted;");
        for (int first = 0; first <= 2; first++) {
            for (int second = 0; second <= 2; second++) {
                DesiredStateKeeper k = Checks.keeper("D22101" + first + second + "00" + "w001w101w111");
                Checks.due("node 0 in " + first + ", node 1 in " + second, k.state(0, 0), second < first ? 4 : 0);
                Checks.due("node 1 in " + second + ", node 0 in " + first, k.state(1, 0), first < second ? 4 : 0);
                Checks.due("another component", k.state(1, 1), 0);
                k.wish(0, 0, 0);
                Checks.due("no drift in the lower ring", k.state(1, 0), 0);
            }
        }
        DesiredStateKeeper held = Checks.keeper("D21102" + "01" + "0" + "w001w101");
        held.setFaults(0, 2);
        held.tick(1);
        Checks.due("a quarantined node does not hold up", held.version(1, 0, false), 1);
        held.drift(1, 0, 0);
        held.setQuorum(0, 1);
        held.tick(1);
        held.setQuorum(0, 0);
        Checks.due("nor one tick before the end", held.state(1, 0), 0);
        held.setQuorum(0, 1);
        held.tick(1);
        held.setQuorum(0, 0);
        Checks.due("the time is the end", held.about(5), 3);
        Checks.due("then it does", held.state(1, 0), 4);
        DesiredStateKeeper unready = Checks.keeper("D22101" + "02" + "00" + "n0111" + "w001" + "w101v111w111");
        Checks.due("a node that cannot go on", unready.state(0, 0), 5);
        Checks.due("holds up all the same", unready.state(1, 0), 4);
        DesiredStateKeeper last = Checks.keeper("D51101" + "22221" + "0" + "w001w101w201w301w401");
        Checks.due("the last node holds up the first", last.state(0, 0), 4);
        Checks.due("and is held up by none", last.state(4, 0), 0);
    }

    private static void safety() {
        Sentences.term("A change of a component of a node to a version is safe if each rule that is broken on the node "
                + "after it was broken before it, too.");
        for (int present = 0; present <= 3; present++) {
            for (int wished = 0; wished <= 3; wished++) {
                for (int other = 0; other <= 3; other++) {
                    DesiredStateKeeper k = Checks.keeper("D12101" + "0" + "00" + "n0212x0312" + "v00" + present + "w00"
                            + wished + "v01" + other + "w01" + other);
                    boolean needBreaks = wished >= 2 && other < 2 && present < 2;
                    boolean barBreaks = wished == 3 && other >= 2 && present < 3;
                    int want = present == wished ? 1 : needBreaks || barBreaks ? 5 : 0;
                    Checks.due(present + " to " + wished + " beside " + other, k.state(0, 0), want);
                }
            }
        }
        DesiredStateKeeper two = Checks.keeper("D13101" + "0" + "000" + "n0112x0121" + "v001w002v021");
        Checks.due("two rules are broken before", two.node(0, 5), 3);
        Checks.due("and after", two.state(0, 0), 0);
        two.drift(0, 2, 0);
        Checks.due("one of them", two.node(0, 5), 1);
        two.wish(0, 2, 1);
        Checks.due("to break the other one", two.state(0, 2), 5);
        DesiredStateKeeper ten = Checks.keeper("D12101" + "0" + "00" + "n0311".repeat(9) + "n0111" + "w001");
        Checks.due("the last of ten rules", ten.state(0, 0), 5);
        ten.drift(0, 1, 1);
        Checks.due("holds now", ten.state(0, 0), 0);
    }

    private static void unsafeOrReady() {
        Sentences.term("5, its change to the wished version is not safe; 0, it is ready.");
        DesiredStateKeeper k = Checks.keeper("D12101" + "0" + "00" + "n0212" + "w002");
        Checks.due("not safe", k.state(0, 0), 5);
        Checks.due("nothing is attempted", k.tick(1), 0);
        k.drift(0, 1, 1);
        Checks.due("one version too low", k.state(0, 0), 5);
        k.drift(0, 1, 2);
        k.wish(0, 1, 2);
        Checks.due("ready", k.state(0, 0), 0);
        Checks.due("it is changed", k.tick(1), 1);
        k.wish(0, 0, 1);
        Checks.due("down again", k.state(0, 0), 0);
        k.wish(0, 1, 1);
        Checks.due("what the other one needs", k.state(0, 1), 5);
    }

    private static void smallestReady() {
        Sentences.term("If there are ready components, the node attempts a change of the one with the smallest "
                + "number.");
        DesiredStateKeeper k = Checks.keeper("D16101" + "0" + "000000" + "w001w011w021w031w041w051");
        for (int c = 0; c < 6; c++) {
            Checks.due("next", k.next(0), c);
            Checks.due("tick", k.tick(1), 1);
            Checks.due("drifted then", k.node(0, 4), 63 & -(2 << c));
        }
        Checks.due("next of none", k.next(0), NONE);
        Checks.due("tick of none", k.tick(1), 0);
        DesiredStateKeeper last = Checks.keeper("D16101" + "0" + "111110" + "w001w011w021w031w041w051");
        Checks.due("the last one alone is ready", last.tick(1), 1);
        Checks.due("drifted then", last.node(0, 4), 31);
        Checks.due("none is ready", last.tick(1), 0);
        last.setFaults(0, 9);
        last.tick(1);
        Checks.due("without an attempt no fault goes", last.node(0, 1), 9);
        Checks.due("and no strike comes", last.node(0, 2), 0);
    }

    private static void limits() {
        Sentences.term("If the node has faults, the attempt fails: its faults decrease by 1, its strikes increase by "
                + "1, and if they are equal to the limit then, they become 0, and the quarantine of the node ends at "
                + "the present time plus the length.");
        for (int limit = 1; limit <= 9; limit++) {
            DesiredStateKeeper k = Checks.keeper("D11" + limit + "50" + "0" + "0" + "w001");
            k.setFaults(0, 9);
            for (int strikes = 1; strikes < limit; strikes++) {
                Checks.due("an attempt that fails", k.tick(1), 0);
                Checks.due("strikes", k.node(0, 2), strikes);
                Checks.due("faults", k.node(0, 1), 9 - strikes);
                Checks.due("below the limit " + limit, k.node(0, 3), NONE);
            }
            k.tick(1);
            Checks.due("faults at the limit " + limit, k.node(0, 1), 9 - limit);
            Checks.due("strikes at the limit " + limit, k.node(0, 2), 0);
            Checks.due("end of the quarantine at the limit " + limit, k.node(0, 3), limit + 50);
            Checks.due("the version stays", k.version(0, 0, false), 0);
            Checks.due("no change is counted", k.about(6), 0);
        }
        DesiredStateKeeper two = Checks.keeper("D22350" + "00" + "00" + "w001w011w101");
        two.setFaults(0, 1);
        two.setFaults(1, 2);
        two.tick(1);
        Checks.due("each node has its own strikes", two.node(0, 2) * 10 + two.node(1, 2), 11);
        two.tick(1);
        Checks.due("one succeeds, one fails", two.node(0, 2) * 10 + two.node(1, 2), 2);
        strikesStay();
    }

    private static void strikesStay() {
        DesiredStateKeeper k = Checks.keeper("D12301" + "0" + "01" + "w001w011");
        k.setFaults(0, 9);
        k.tick(2);
        Checks.due("two strikes", k.node(0, 2), 2);
        k.wish(0, 0, 0);
        k.tick(50);
        Checks.due("they stay while nothing is attempted", k.node(0, 2), 2);
        k.setFaults(0, 4);
        Checks.due("and when faults are set", k.node(0, 2), 2);
        k.approve(1, 1, 0);
        k.tick(1);
        Checks.due("the third one is for another component", k.node(0, 3), 54);
        Checks.due("strikes", k.node(0, 2), 0);
    }

    private static void lengths() {
        Sentences.term("and the quarantine of the node ends at the present time plus the length.");
        for (int length = 1; length <= 50; length++) {
            DesiredStateKeeper k = Checks.keeper("D111" + length / 10 + length % 10 + "0" + "0" + "w001");
            k.tick(7);
            k.drift(0, 0, 0);
            k.setFaults(0, 1);
            k.tick(1);
            Checks.due("the end with the length " + length, k.node(0, 3), 8 + length);
            if (length > 1) {
                Checks.due("no change before the end", k.tick(length - 1), 0);
                Checks.due("still quarantined", k.node(0, 3), 8 + length);
            }
            Checks.due("a change at the end", k.tick(1), 1);
            Checks.due("time", k.about(5), 8 + length);
            Checks.due("no quarantine", k.node(0, 3), NONE);
        }
    }

    private static void success() {
        Sentences.term("Otherwise, the component gets the wished version, the strikes of the node become 0, and the "
                + "number of changes increases by 1.");
        for (int present = 0; present <= 3; present++) {
            for (int wished = 0; wished <= 3; wished++) {
                DesiredStateKeeper k = Checks.keeper("D11901" + "0" + "0" + "v00" + present + "w00" + wished);
                k.setFaults(0, 8);
                k.tick(8);
                int strikes = present == wished ? 0 : 8;
                Checks.due("strikes before", k.node(0, 2), strikes);
                Checks.due("changes", k.tick(1), present == wished ? 0 : 1);
                Checks.due("version", k.version(0, 0, false), wished);
                Checks.due("the wish stays", k.version(0, 0, true), wished);
                Checks.due("strikes", k.node(0, 2), 0);
                Checks.due("number of changes", k.about(6), present == wished ? 0 : 1);
            }
        }
    }

    private static void quarantined() {
        Sentences.term("A node has faults (0 to 9), strikes, and the end of its quarantine, a time; it is quarantined "
                + "if this is greater than the present time.");
        for (int faults = 0; faults <= 9; faults++) {
            DesiredStateKeeper k = Checks.keeper("D11950" + "0" + "0" + "w001");
            k.setFaults(0, faults);
            Checks.due("faults", k.node(0, 1), faults);
            k.tick(9);
            Checks.due("nine faults quarantine at the limit 9, fewer do not", k.node(0, 3), faults == 9 ? 59 : NONE);
            Checks.due("state", k.state(0, 0), faults == 9 ? 2 : 1);
        }
        for (int v : new int[] {-1, 10}) {
            Unchanged.refused("setFaults(0, " + v + ")", Checks.BAD_ARGUMENT, some -> some.setFaults(0, v));
        }
        DesiredStateKeeper k = Checks.keeper("D11102" + "0" + "1" + "w001");
        k.approve(0, 1, 0);
        k.setFaults(0, 1);
        k.tick(1);
        k.dismiss(0);
        Checks.due("two ticks before the end", k.state(0, 0), 2);
        k.tick(1);
        Checks.due("one tick before the end", k.state(0, 0), 2);
        k.tick(1);
        Checks.due("at the end", k.state(0, 0), 3);
    }

    private static void tickCall() {
        Sentences.promise(20, "Makes ticks, one after the other.");
        for (int n : new int[] {1, 2, 49, 50}) {
            String text = "D33202" + "012" + "000" + "n0112" + "w003w013w103w112w121w201w222";
            DesiredStateKeeper together = Checks.keeper(text);
            DesiredStateKeeper single = Checks.keeper(text);
            together.setFaults(1, 5);
            single.setFaults(1, 5);
            int changes = together.tick(n);
            int sum = 0;
            for (int i = 0; i < n; i++) {
                sum += single.tick(1);
            }
            Checks.due("the state after " + n, Checks.sight(together), Checks.sight(single));
            Checks.due("the changes of " + n, changes, sum);
        }
        Sentences.promise(20, "(Together they are one action.)");
        DesiredStateKeeper k = Checks.keeper("D12101" + "0" + "00" + "w001w011");
        String before = Checks.sight(k);
        k.tick(50);
        Checks.due("undo", k.undo(), 0);
        Checks.due("after undo", Checks.sight(k), before);

        Sentences.promise(20, "Returns how many changes were made in them.");
        DesiredStateKeeper most = Checks.keeper("D56101" + "00000" + "000000" + "w003w453");
        for (int c = 0; c < 6; c++) {
            most.wishRing(0, c, 3);
        }
        Checks.due("one for each node", most.tick(1), 5);
        Checks.due("all the others", most.tick(50), 25);
        Checks.due("none", most.tick(50), 0);
        Checks.due("the number of changes", most.about(6), 30);
        most.drift(4, 5, 0);
        Checks.due("one", most.tick(50), 1);
    }

    private static void pardon() {
        Sentences.promise(19, "Ends the quarantine of a node at the present time, and sets its strikes to 0.");
        DesiredStateKeeper k = Recipes.FULL.make();
        int other = k.node(3, 2);
        Checks.due("node 3 has a strike", other, 1);
        k.pardon(4);
        Checks.due("no quarantine", k.node(4, 3), NONE);
        Checks.due("strikes", k.node(4, 2), 0);
        Checks.due("faults stay", k.node(4, 1), 2);
        Checks.due("the other node keeps its strike", k.node(3, 2), other);
        Checks.due("the time stays", k.about(5), 2);
        Checks.due("the node comes again", k.next(4), 5);
        Checks.due("pardon is an action", k.undo(), 13);
        Checks.due("taken back", k.node(4, 3), 52);
        pardonAtThePresentTime();

        Sentences.promise(19, "Returns by how many ticks the quarantine ends earlier.");
        for (int length : new int[] {1, 2, 50}) {
            for (int passed : new int[] {0, 1, 49}) {
                if (passed < length) {
                    DesiredStateKeeper some = quarantined(length, passed);
                    Checks.due(length + " long, after " + passed, some.pardon(0), length - passed);
                }
            }
        }
        Sentences.promise(19, "Throws `IllegalStateException` if the node is not quarantined");
        Unchanged.refused("pardon(0)", Checks.BAD_STATE, some -> some.pardon(0));
        Unchanged.refused(Recipes.FULL, "pardon of a node with a strike", Checks.BAD_STATE, some -> some.pardon(3));
        for (int length : new int[] {1, 2, 50}) {
            DesiredStateKeeper ended = quarantined(length, length);
            Checks.refuses("pardon at the end", Checks.BAD_STATE, () -> ended.pardon(0));
            DesiredStateKeeper twice = quarantined(length, length - 1);
            Checks.due("one tick before the end", twice.pardon(0), 1);
            Checks.refuses("pardon again", Checks.BAD_STATE, () -> twice.pardon(0));
        }
    }

    /** The present time, and not another number: there are more changes than ticks, and later times were asked for. */
    private static void pardonAtThePresentTime() {
        DesiredStateKeeper k = Checks.keeper("D51150" + "00000" + "0" + "w001w101w201w301w401");
        k.setFaults(4, 1);
        k.tick(1);
        Checks.due("changes", k.about(6), 4);
        Checks.due("quarantined until later", k.ahead(20, 4, 3), 51);
        k.pardon(4);
        Checks.due("no quarantine", k.node(4, 3), NONE);
        Checks.due("the next attempt", k.tick(1), 1);
    }

    private static DesiredStateKeeper quarantined(int length, int passed) {
        DesiredStateKeeper k = Checks.keeper("D111" + length / 10 + length % 10 + "0" + "0" + "w001");
        k.setFaults(0, 1);
        k.tick(1);
        if (passed > 0) {
            k.wish(0, 0, 0);
            k.tick(passed);
        }
        return k;
    }
}
