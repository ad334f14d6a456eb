import java.util.ArrayList;
import java.util.List;

/** The edges of actions, of what is remembered for undo, and of the save slots. */
final class ActionEdges {

    private ActionEdges() {
    }

    static void run() {
        wish();
        wishRing();
        drift();
        approve();
        dismiss();
        setQuorum();
        setFaults();
        sectionOfActions();
        actions();
        actionsThatChangeNothing();
        fourteenStates();
        notPartOfTheState();
        notActions();
        otherSections();
        undo();
        refusals();
        save();
        restore();
    }

    private static DesiredStateKeeper great() {
        return Checks.keeper("D56150" + "01211" + "012345");
    }

    // ---- each action

    private static void wish() {
        Sentences.promise(12, "Wishes a version of a component of a node.", "Returns the wished version before.");
        DesiredStateKeeper k = great();
        int before = 0;
        for (int v : new int[] {3, 3, 0, 0, 1, 2, 1}) {
            Checks.due("wish(4, 5, " + v + ")", k.wish(4, 5, v), before);
            Checks.due("wished", k.version(4, 5, true), v);
            Checks.due("present", k.version(4, 5, false), 0);
            before = v;
        }
        Checks.due("the neighbour", k.wish(4, 4, 3), 0);
        Checks.due("stays", k.version(4, 5, true), 1);
        Checks.due("the first", k.wish(0, 0, 3), 0);
        Checks.due("drifted", k.node(0, 4) + k.node(4, 4), 1 + 48);
    }

    private static void wishRing() {
        Sentences.promise(13, "Wishes a version of a component of all nodes of a ring.",
                "Returns the number of nodes in this ring.");
        DesiredStateKeeper k = great();
        int[] nodes = {1, 3, 1};
        for (int ring = 0; ring <= 2; ring++) {
            Checks.due("ring " + ring, k.wishRing(ring, 5, 3 - ring), nodes[ring]);
        }
        int[] want = {3, 2, 1, 2, 2};
        for (int n = 0; n < 5; n++) {
            Checks.due("wished of node " + n, k.version(n, 5, true), want[n]);
            Checks.due("of another component", k.version(n, 4, true), 0);
            Checks.due("present", k.version(n, 5, false), 0);
        }
        DesiredStateKeeper one = Checks.keeper("D51101" + "22222" + "0");
        Checks.due("all nodes", one.wishRing(2, 0, 3), 5);
        Checks.due("drifted", one.about(7), 0);
        Checks.due("no node", one.wishRing(1, 0, 0), 0);
        Checks.due("no node", one.wishRing(0, 0, 0), 0);
        Checks.due("nothing was wished", one.about(7), 0);
        Checks.due("all again", one.wishRing(2, 0, 0), 5);
        Checks.due("calm", one.about(7), 31);
    }

    private static void drift() {
        Sentences.promise(14, "Changes the present version of a component of a node from outside.",
                "Returns the present version before.");
        DesiredStateKeeper k = great();
        int before = 0;
        for (int v : new int[] {3, 3, 0, 0, 1, 2, 1}) {
            Checks.due("drift(4, 5, " + v + ")", k.drift(4, 5, v), before);
            Checks.due("present", k.version(4, 5, false), v);
            Checks.due("wished", k.version(4, 5, true), 0);
            before = v;
        }
        Checks.due("the neighbour", k.drift(4, 4, 3), 0);
        Checks.due("stays", k.version(4, 5, false), 1);
        Checks.due("no change is counted", k.about(6), 0);
        DesiredStateKeeper unsafe = Checks.keeper("D12101" + "0" + "55" + "n0111");
        unsafe.setFaults(0, 1);
        unsafe.drift(0, 0, 3);
        Checks.due("no rule, quorum or fault is asked", unsafe.version(0, 0, false), 3);
        Checks.due("the rule is broken", unsafe.node(0, 5), 1);
        Checks.due("the fault stays", unsafe.node(0, 1), 1);
    }

    private static void approve() {
        Sentences.promise(15, "Adds an approval.", "Returns the number of approvers who approve of it then.");
        for (int first = 0; first < 5; first++) {
            DesiredStateKeeper k = great();
            k.approve(5, 2, first);
            k.approve(4, 3, first);
            for (int i = 0; i < 5; i++) {
                Checks.due("approval " + (i + 1), k.approve(5, 3, (first + i) % 5), i + 1);
            }
            Checks.due("all", k.approvals(5, 3), 31);
            Checks.due("other sets", k.approvals(5, 2) + k.approvals(4, 3), 2 << first);
        }
        Sentences.promise(15, "Throws `IllegalStateException` if the approver approves of it already");
        Unchanged.refused(Recipes.MIDDLE, "approve(1, 0, 4)", Checks.BAD_STATE, k -> k.approve(1, 0, 4));
        Unchanged.refused(Recipes.FULL, "approve(1, 3, 0)", Checks.BAD_STATE, k -> k.approve(1, 3, 0));
        Unchanged.refused(Recipes.FULL, "approve(5, 3, 1)", Checks.BAD_STATE, k -> k.approve(5, 3, 1));
        for (int who = 0; who < 5; who++) {
            int one = who;
            DesiredStateKeeper k = new DesiredStateKeeper();
            k.approve(0, 3, who);
            Checks.refuses("again by " + who, Checks.BAD_STATE, () -> k.approve(0, 3, one));
            Checks.due("of another version", k.approve(0, 2, who), 1);
            Checks.due("by another one", k.approve(0, 3, (who + 1) % 5), 2);
            k.dismiss(who);
            Checks.due("after dismiss", k.approve(0, 3, who), 2);
        }
    }

    private static void dismiss() {
        Sentences.promise(16, "Removes all approvals of an approver.", "Returns how many approvals were removed.");
        for (int who : new int[] {0, 4}) {
            DesiredStateKeeper k = great();
            Checks.due("none", k.dismiss(who), 0);
            for (int i = 0; i < 24; i++) {
                k.approve(i / 4, i % 4, who);
                k.approve(i / 4, i % 4, 2);
            }
            Checks.due("all", k.dismiss(who), 24);
            for (int i = 0; i < 24; i++) {
                Checks.due("the other one's are kept", k.approvals(i / 4, i % 4), 4);
            }
            Checks.due("again", k.dismiss(who), 0);
            k.approve(5, 3, who);
            Checks.due("one", k.dismiss(who), 1);
        }
    }

    private static void setQuorum() {
        Sentences.promise(17, "Changes the quorum of a component.", "Returns the previous quorum.");
        DesiredStateKeeper k = great();
        int before = 5;
        for (int v : new int[] {0, 0, 5, 5, 1, 4}) {
            Checks.due("setQuorum(5, " + v + ")", k.setQuorum(5, v), before);
            Checks.due("quorum", k.quorum(5), v);
            before = v;
        }
        Checks.due("of another component", k.quorum(4), 4);
        Checks.due("of the first", k.setQuorum(0, 5), 0);
    }

    private static void setFaults() {
        Sentences.promise(18, "Changes the faults of a node.", "Returns the previous number.");
        DesiredStateKeeper k = great();
        int before = 0;
        for (int v : new int[] {9, 9, 0, 0, 1, 8}) {
            Checks.due("setFaults(4, " + v + ")", k.setFaults(4, v), before);
            Checks.due("faults", k.node(4, 1), v);
            before = v;
        }
        Checks.due("of another node", k.node(3, 1), 0);
        Checks.due("of the first", k.setFaults(0, 9), 0);
    }

    // ---- what is remembered

    private static final class Action {
        final String name;
        final Unchanged.Body body;

        Action(String name, Unchanged.Body body) {
            this.name = name;
            this.body = body;
        }
    }

    /** Each of the actions, with arguments by which it changes the great recipe. */
    private static List<Action> allActions() {
        List<Action> all = new ArrayList<>();
        all.add(new Action("wish", k -> k.wish(4, 5, 3)));
        all.add(new Action("wishRing", k -> k.wishRing(0, 0, 3)));
        all.add(new Action("drift", k -> k.drift(0, 5, 3)));
        all.add(new Action("approve", k -> k.approve(5, 3, 4)));
        all.add(new Action("dismiss", k -> k.dismiss(1)));
        all.add(new Action("setQuorum", k -> k.setQuorum(0, 5)));
        all.add(new Action("setFaults", k -> k.setFaults(0, 9)));
        all.add(new Action("pardon", k -> k.pardon(4)));
        all.add(new Action("tick", k -> k.tick(1)));
        return all;
    }

    private static void sectionOfActions() {
        List<String> names = new ArrayList<>();
        for (Action action : allActions()) {
            names.add(action.name);
        }
        names.add("undo");
        Sentences.term(Sentences.ahead("actions", names.toArray(new String[0])));
        for (Action action : allActions()) {
            // restore forgets what is remembered, so that the action alone is
            DesiredStateKeeper k = Recipes.FULL.make();
            k.restore(1);
            action.body.run(k);
            Checks.due(action.name + " is remembered", k.undo(), 0);
            Checks.refuses("nothing else is", Checks.BAD_STATE, k::undo);
        }
    }

    private static void actions() {
        Sentences.term("The methods in the section \"actions\" change the state, which consists of versions, "
                + "approvals, quorums, faults, strikes, quarantines, the time and the number of changes.");
        String before = Checks.sight(Recipes.FULL.make());
        for (Action action : allActions()) {
            DesiredStateKeeper changed = Recipes.FULL.make();
            action.body.run(changed);
            Checks.due(action.name + " changes the state", Checks.sight(changed).equals(before), false);
        }
        // all of it comes back: after these actions each of its parts is another one
        DesiredStateKeeper many = Recipes.FULL.make();
        for (Action action : allActions()) {
            action.body.run(many);
        }
        many.tick(50);
        for (int left = 13; left >= 4; left--) {
            Checks.due("undo of many", many.undo(), left);
        }
        Checks.due("the state after undo of many", Checks.sight(many), before);

        Sentences.term("Before each action, the state is remembered.");
        for (Action action : allActions()) {
            DesiredStateKeeper undone = Recipes.FULL.make();
            action.body.run(undone);
            Checks.due("undo of " + action.name, undone.undo(), 13);
            Checks.due("the state after undo of " + action.name, Checks.sight(undone), before);
        }
    }

    private static void actionsThatChangeNothing() {
        Sentences.term("Each call of one of them that does not throw an exception is an action.");
        List<Action> all = new ArrayList<>();
        all.add(new Action("wish of what is wished", k -> k.wish(0, 0, 0)));
        all.add(new Action("wishRing of what is wished", k -> k.wishRing(0, 0, 0)));
        all.add(new Action("wishRing of no node", k -> k.wishRing(2, 0, 3)));
        all.add(new Action("drift to what is there", k -> k.drift(0, 0, 0)));
        all.add(new Action("dismiss of none", k -> k.dismiss(0)));
        all.add(new Action("setQuorum to what it is", k -> k.setQuorum(0, 0)));
        all.add(new Action("setFaults to what they are", k -> k.setFaults(0, 0)));
        DesiredStateKeeper k = new DesiredStateKeeper();
        String before = Checks.sight(k);
        for (Action action : all) {
            action.body.run(k);
            Checks.due(action.name + " changes nothing", Checks.sight(k), before);
        }
        for (int left = all.size() - 1; left >= 0; left--) {
            Checks.due("undo", k.undo(), left);
        }
        Checks.refuses("undo of none", Checks.BAD_STATE, k::undo);
    }

    private static void fourteenStates() {
        Sentences.term("At most 14 states are remembered; when one more is remembered, the oldest one is forgotten.");
        for (int actions : new int[] {0, 1, 2, 13, 14, 15, 16, 27, 28, 29, 43}) {
            DesiredStateKeeper k = new DesiredStateKeeper();
            for (int i = 0; i < actions; i++) {
                k.tick(1);
            }
            int remembered = Math.min(actions, 14);
            for (int i = 1; i <= remembered; i++) {
                Checks.due("undo " + i + " after " + actions, k.undo(), remembered - i);
                Checks.due("time after undo " + i + " after " + actions, k.about(5), actions - i);
            }
            Checks.refuses("undo of what is not remembered", Checks.BAD_STATE, k::undo);
            Checks.due("time", k.about(5), actions - remembered);
        }
        // between the undos there are new actions, so that old and new states stand side by side
        DesiredStateKeeper k = new DesiredStateKeeper();
        for (int i = 0; i < 20; i++) {
            k.tick(10);
        }
        for (int i = 0; i < 9; i++) {
            k.undo();
        }
        for (int i = 0; i < 11; i++) {
            k.tick(1);
        }
        int[] want = {120, 119, 118, 117, 116, 115, 114, 113, 112, 111, 110, 100, 90, 80};
        for (int i = 0; i < 14; i++) {
            Checks.due("undo", k.undo(), 13 - i);
            Checks.due("time after undo", k.about(5), want[i]);
        }
        Checks.refuses("one more", Checks.BAD_STATE, k::undo);
    }

    private static void notPartOfTheState() {
        Sentences.term("The text and the save slots are not part of the state.");
        DesiredStateKeeper k = new DesiredStateKeeper();
        k.tick(1);
        k.append('D');
        k.save(0);
        k.tick(1);
        k.append('1');
        k.save(1);
        k.tick(1);
        k.save(0);
        k.undo();
        k.undo();
        k.undo();
        Checks.due("the text after undo", k.append('1'), 3);
        Checks.due("slot 0 after undo", k.restore(0), 3);
        Checks.due("slot 1 after undo", k.restore(1), 2);
        Checks.due("the text after restore", k.append('1'), 4);
        k.clearText();
        Checks.due("slot 0", k.restore(0), 3);
        Checks.due("a text that was emptied stays empty", k.append('D'), 1);
    }

    private static void notActions() {
        Sentences.term("undo, load and restore are not actions.");
        DesiredStateKeeper k = new DesiredStateKeeper();
        for (int i = 0; i < 3; i++) {
            k.tick(1);
        }
        k.undo();
        Checks.due("undo is not taken back by undo", k.undo(), 1);
        Checks.due("time", k.about(5), 1);
        k.save(0);
        Checks.due("save is no action", k.undo(), 0);
        k.restore(0);
        Checks.refuses("undo after restore", Checks.BAD_STATE, k::undo);
        Checks.write(k, "D1110100");
        k.load();
        Checks.refuses("undo after load", Checks.BAD_STATE, k::undo);
        k.tick(1);
        k.append('w');
        k.errorPosition();
        k.clearText();
        Checks.due("calls for the text are none", k.undo(), 0);
    }

    private static void otherSections() {
        Sentences.term(Sentences.ahead("text", "append", "clearText", "errorPosition", "load"));
        noAction("append", k -> k.append('D'));
        noAction("clearText", DesiredStateKeeper::clearText);
        noAction("errorPosition", DesiredStateKeeper::errorPosition);
        DesiredStateKeeper k = Checks.keeper("D1110100");
        k.load();
        Checks.refuses("undo after load", Checks.BAD_STATE, k::undo);

        Sentences.term(Sentences.ahead("save slots", "save", "restore"));
        noAction("save(0)", some -> some.save(0));
        noAction("save(1)", some -> some.save(1));
        DesiredStateKeeper restored = Recipes.MIDDLE.make();
        restored.restore(0);
        Checks.refuses("undo after restore", Checks.BAD_STATE, restored::undo);
    }

    private static void noAction(String call, Unchanged.Body body) {
        DesiredStateKeeper k = Recipes.MIDDLE.make();
        body.run(k);
        Checks.due("undo after " + call + " takes back the action before it", k.undo(), 2);
        Checks.due("which were ticks", k.about(5), 0);
    }

    private static void undo() {
        Sentences.promise(21, "Takes back the last action that is remembered.");
        DesiredStateKeeper k = Recipes.MIDDLE.make();
        k.undo();
        Checks.due("ticks are taken back", k.about(5), 0);
        Checks.due("their changes", k.about(6), 0);
        Checks.due("their faults", k.node(1, 1), 1);
        k.undo();
        Checks.due("the faults are taken back", k.node(1, 1), 0);
        Checks.due("the approval is still there", k.approvals(1, 0), 16);
        k.undo();
        Checks.due("the approval is taken back", k.approvals(1, 0), 0);

        Sentences.promise(21, "Returns how many states are still remembered.");
        DesiredStateKeeper full = Recipes.FULL.make();
        for (int left = 13; left >= 0; left--) {
            Checks.due("undo", full.undo(), left);
        }
        full.tick(1);
        full.tick(1);
        Checks.due("of two", full.undo(), 1);
        full.tick(1);
        Checks.due("of two again", full.undo(), 1);
        Checks.due("of one", full.undo(), 0);

        Sentences.promise(21, "Throws `IllegalStateException` if none is remembered");
        Unchanged.refused(Recipes.NEW, "undo", Checks.BAD_STATE, DesiredStateKeeper::undo);
        String before = Checks.sight(emptied());
        DesiredStateKeeper empty = emptied();
        Checks.refuses("undo behind the last", Checks.BAD_STATE, empty::undo);
        Checks.refuses("and again", Checks.BAD_STATE, empty::undo);
        Checks.due("the state after it", Checks.sight(empty), before);
        empty.tick(1);
        Checks.due("the next action is remembered", empty.undo(), 0);
    }

    private static DesiredStateKeeper emptied() {
        DesiredStateKeeper k = Recipes.FULL.make();
        for (int i = 0; i < 14; i++) {
            k.undo();
        }
        return k;
    }

    private static void refusals() {
        Sentences.term("A call that throws an exception changes nothing.");
        // a refused action must not push the oldest of fourteen states out, nor take the place of the newest
        Unchanged.refused(Recipes.FULL, "wish", Checks.BAD_ARGUMENT, k -> k.wish(0, 0, 4));
        Unchanged.refused(Recipes.FULL, "wishRing", Checks.BAD_ARGUMENT, k -> k.wishRing(3, 0, 0));
        Unchanged.refused(Recipes.FULL, "drift", Checks.BAD_ARGUMENT, k -> k.drift(0, 0, 4));
        Unchanged.refused(Recipes.FULL, "approve", Checks.BAD_STATE, k -> k.approve(0, 3, 3));
        Unchanged.refused(Recipes.FULL, "dismiss", Checks.NO_INDEX, k -> k.dismiss(5));
        Unchanged.refused(Recipes.FULL, "setQuorum", Checks.BAD_ARGUMENT, k -> k.setQuorum(0, 6));
        Unchanged.refused(Recipes.FULL, "setFaults", Checks.BAD_ARGUMENT, k -> k.setFaults(0, 10));
        Unchanged.refused(Recipes.FULL, "pardon", Checks.BAD_STATE, k -> k.pardon(0));
        Unchanged.refused(Recipes.FULL, "tick", Checks.BAD_ARGUMENT, k -> k.tick(51));
        Unchanged.refused(Recipes.FULL, "load", Checks.BAD_STATE, DesiredStateKeeper::load);
        Unchanged.refused(Recipes.FULL, "append", Checks.BAD_STATE, k -> k.append('w'));
        Unchanged.refused(Recipes.MIDDLE, "restore", Checks.BAD_STATE, k -> k.restore(1));
        Unchanged.refused(Recipes.NEW, "undo", Checks.BAD_STATE, DesiredStateKeeper::undo);

        Sentences.term("IllegalStateException means what the method says.");
        Checks.refuses("append to a full text", Checks.BAD_STATE, () -> Recipes.FULL.make().append('w'));
        Checks.refuses("load of no keeper text", Checks.BAD_STATE, () -> Recipes.FULL.make().load());
        Checks.refuses("approve again", Checks.BAD_STATE, () -> Recipes.FULL.make().approve(0, 3, 3));
        Checks.refuses("pardon of a free node", Checks.BAD_STATE, () -> Recipes.FULL.make().pardon(0));
        Checks.refuses("undo of nothing", Checks.BAD_STATE, () -> Recipes.NEW.make().undo());
        Checks.refuses("restore of an empty slot", Checks.BAD_STATE, () -> Recipes.NEW.make().restore(0));
    }

    // ---- slots

    private static void save() {
        Sentences.promise(37, "Stores the present state in a slot.");
        for (int slot = 0; slot <= 1; slot++) {
            int one = slot;
            DesiredStateKeeper k = Checks.keeper("D22201" + "01" + "01" + "n0111" + "w001w113");
            k.tick(3);
            k.save(slot);
            String saved = Checks.sight(k);
            k.tick(4);
            k.approve(1, 3, 2);
            k.drift(0, 1, 2);
            k.setFaults(1, 3);
            k.setQuorum(1, 1);
            k.tick(2);
            Checks.refuses("the other slot is empty", Checks.BAD_STATE, () -> k.restore(1 - one));
            k.restore(slot);
            Checks.due("what was saved in slot " + slot, Checks.sight(k), saved);
            k.tick(1);
            k.save(1 - slot);
            k.tick(1);
            k.save(slot);
            Checks.due("the slots are two", k.restore(1 - slot), 4);
            Checks.due("a newer state replaces the older one", k.restore(slot), 5);
        }
        String before = Checks.sight(Recipes.FULL.make());
        DesiredStateKeeper k = Recipes.FULL.make();
        k.save(0);
        Checks.due("the state stays", Checks.sight(k), before);
        Checks.due("what is remembered stays", k.undo(), 13);

        Sentences.promise(37, "Returns the time.");
        DesiredStateKeeper timed = new DesiredStateKeeper();
        Checks.due("of a new object", timed.save(0), 0);
        timed.tick(1);
        Checks.due("after a tick", timed.save(1), 1);
        for (int i = 0; i < 100; i++) {
            timed.tick(50);
        }
        Checks.due("after many ticks", timed.save(0), 5001);
        timed.undo();
        Checks.due("after undo", timed.save(0), 4951);
    }

    private static void restore() {
        Sentences.promise(38, "Replaces the state by the one in a slot, and forgets all remembered states.");
        for (int slot = 0; slot <= 1; slot++) {
            DesiredStateKeeper k = Recipes.FULL.make();
            k.restore(slot);
            Checks.refuses("undo after restore(" + slot + ")", Checks.BAD_STATE, k::undo);
            k.tick(1);
            Checks.due("what comes then is remembered", k.undo(), 0);
        }
        DesiredStateKeeper k = Recipes.FULL.make();
        k.restore(0);
        Checks.due("time", k.about(5), 0);
        Checks.due("changes", k.about(6), 0);
        Checks.due("approvals", k.approvals(1, 3), 17);
        Checks.due("quorum", k.quorum(5), 0);
        Checks.due("faults", k.node(3, 1), 9);
        Checks.due("strikes", k.node(3, 2), 0);
        Checks.due("quarantine", k.node(4, 3), DesiredStateKeeper.NONE);
        Checks.due("present version", k.version(0, 0, false), 0);
        Checks.due("wished version", k.version(1, 4, true), 0);
        Checks.due("rules are kept", k.about(2), 10);
        Checks.due("the other slot is kept", k.restore(1), 2);
        Checks.due("quarantine of the other", k.node(4, 3), 52);

        Sentences.promise(38, "The slot keeps its state.");
        for (int slot = 0; slot <= 1; slot++) {
            DesiredStateKeeper some = Recipes.MIDDLE.make();
            some.save(1);
            some.restore(slot);
            String first = Checks.sight(some);
            some.drift(0, 0, 3);
            some.approve(2, 2, 2);
            some.tick(7);
            some.restore(slot);
            Checks.due("again", Checks.sight(some), first);
            some.restore(1 - slot);
            some.restore(slot);
            Checks.due("after the other slot", Checks.sight(some), first);
        }
        restoreReturns();
    }

    private static void restoreReturns() {
        Sentences.promise(38, "Returns the time then.");
        DesiredStateKeeper k = new DesiredStateKeeper();
        k.save(1);
        k.tick(50);
        k.save(0);
        k.tick(50);
        Checks.due("of slot 0", k.restore(0), 50);
        Checks.due("of slot 1", k.restore(1), 0);
        Checks.due("the time", k.about(5), 0);

        Sentences.promise(38, "Throws `IllegalStateException` if the slot is empty");
        Unchanged.refused(Recipes.NEW, "restore(0)", Checks.BAD_STATE, some -> some.restore(0));
        Unchanged.refused(Recipes.NEW, "restore(1)", Checks.BAD_STATE, some -> some.restore(1));
        Unchanged.refused(Recipes.MIDDLE, "restore(1)", Checks.BAD_STATE, some -> some.restore(1));
        DesiredStateKeeper filled = new DesiredStateKeeper();
        filled.save(1);
        Checks.refuses("slot 0 beside a filled one", Checks.BAD_STATE, () -> filled.restore(0));
        Checks.due("slot 1", filled.restore(1), 0);
    }
}
