/** Promises 37 and 38: save slots. */
public final class SlotTest {

    public static void main(String[] args) {
        DesiredStateKeeper k = Checks.keeper("D2210301" + "01" + "n0112w001w101w112v013");
        k.approve(1, 2, 3);
        k.setFaults(1, 2);
        k.tick(2);
        String early = Checks.sight(k);
        Checks.due("save(0)", k.save(0), 2);
        Checks.due("save changes nothing", Checks.sight(k), early);
        Checks.refuses("restore(1) of an empty slot", Checks.BAD_STATE, () -> k.restore(1));
        Checks.due("save is no action, and keeps what is remembered", k.undo(), 2);
        k.dismiss(3);
        k.setQuorum(0, 4);
        k.wish(0, 1, 2);
        k.drift(1, 1, 3);
        k.tick(7);
        String late = Checks.sight(k);
        Checks.due("save(1)", k.save(1), 7);
        Checks.due("restore(0)", k.restore(0), 2);
        Checks.due("what is restored", Checks.sight(k), early);
        Checks.refuses("undo after restore", Checks.BAD_STATE, k::undo);
        k.tick(1);
        Checks.due("restore is no action", k.undo(), 0);
        Checks.due("restore(1)", k.restore(1), 7);
        Checks.due("what is restored", Checks.sight(k), late);
        k.tick(3);
        Checks.due("the slot keeps its state", k.restore(1), 7);
        Checks.due("what is restored again", Checks.sight(k), late);
        k.tick(3);
        Checks.due("save(1) again", k.save(1), 10);
        k.tick(1);
        Checks.due("the newer one", k.restore(1), 10);
        Checks.due("the other slot", k.restore(0), 2);
        wrongSlots(k);
        Checks.end("SlotTest");
    }

    private static void wrongSlots(DesiredStateKeeper k) {
        Checks.refuses("save(2)", Checks.NO_INDEX, () -> k.save(2));
        Checks.refuses("save(-1)", Checks.NO_INDEX, () -> k.save(-1));
        Checks.refuses("restore(2)", Checks.NO_INDEX, () -> k.restore(2));
        Checks.refuses("restore(-1)", Checks.NO_INDEX, () -> k.restore(-1));
        k.tick(1);
        Checks.refuses("restore(-1)", Checks.NO_INDEX, () -> k.restore(-1));
        Checks.due("a refused restore forgets nothing", k.undo(), 0);
    }
}
