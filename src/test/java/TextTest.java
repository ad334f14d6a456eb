/** Promises 2 to 5: the text and what is loaded from it. */
public final class TextTest {

    public static void main(String[] args) {
        append();
        clearText();
        errorsInTheHead();
        errorsInTheItems();
        manyRules();
        load();
        refusedLoad();
        Checks.end("TextTest");
    }

    private static void append() {
        DesiredStateKeeper k = new DesiredStateKeeper();
        Checks.refuses("append(-1)", Checks.BAD_ARGUMENT, () -> k.append(-1));
        Checks.refuses("append(256)", Checks.BAD_ARGUMENT, () -> k.append(256));
        Checks.due("append(0)", k.append(0), 1);
        Checks.due("append(255)", k.append(255), 2);
        for (int i = 3; i <= 160; i++) {
            Checks.due("append number " + i, k.append('w'), i);
        }
        Checks.refuses("append to a full text", Checks.BAD_STATE, () -> k.append('w'));
        Checks.refuses("append(256) to a full text", Checks.BAD_ARGUMENT, () -> k.append(256));
        Checks.due("length of a full text", k.clearText(), 160);
    }

    private static void clearText() {
        DesiredStateKeeper k = new DesiredStateKeeper();
        Checks.due("clearText of nothing", k.clearText(), 0);
        Checks.write(k, "D11");
        Checks.due("clearText", k.clearText(), 3);
        Checks.due("clearText again", k.clearText(), 0);
        Checks.due("append after clearText", k.append('D'), 1);
    }

    private static void error(String text, int want) {
        DesiredStateKeeper k = new DesiredStateKeeper();
        Checks.write(k, text);
        Checks.due("errorPosition of " + text, k.errorPosition(), want);
        if (want != DesiredStateKeeper.NONE) {
            Checks.refuses("load of " + text, Checks.BAD_STATE, k::load);
        }
        Checks.due("length of " + text, k.clearText(), text.length());
    }

    private static void errorsInTheHead() {
        error("", 0);
        error("d", 0);
        error("1110500", 0);
        error("E1110100", 0);
        error("D", 1);
        error("D0", 1);
        error("D6", 1);
        error("Dx", 1);
        error("D10", 2);
        error("D17", 2);
        error("D110", 3);
        error("D11:", 3);
        error("D116", 4);
        error("D116100", 7);
        error("D11900", 5);
        error("D1196", 4);
        error("D11951", 5);
        error("D1195", 5);
        error("D119500", 7);
        error("D1195000", -9);
        error("D1190900", -9);
        error("D1194900", -9);
        error("D1194930", 6);
        error("D1194926", 7);
        error("D11949", 6);
        error("D5614901012012345", -9);
        error("D56149010120123456", 17);
        error("D561490101201234", 16);
        error("D5614901013012345", 10);
        error("D5614901012012365", 15);
        error("D5614901", 8);
        error("D1111" + (char) 0, 5);
    }

    private static void errorsInTheItems() {
        String one = "D1110500";
        error(one + "n", 8);
        error(one + "x0111", 8);
        error(one + "w003", -9);
        error(one + "w004", 11);
        error(one + "w010", 10);
        error(one + "w100", 9);
        error(one + "v", 9);
        error(one + "v0", 10);
        error(one + "v00", 11);
        error(one + "v001v002w000", -9);
        error(one + "V000", 8);
        error(one + " ", 8);
        error(one + "v001 w000", 12);
        String many = "D23105" + "01" + "000";
        error(many + "n0112", -9);
        error(many + "n01121", 16);
        error(many + "n0113", -9);
        error(many + "n3111", 12);
        error(many + "n0011", 13);
        error(many + "n0411", 13);
        error(many + "n0101", 14);
        error(many + "n0131", 14);
        error(many + "n0110", 15);
        error(many + "n0114", 15);
        error(many + "x2323", 14);
        error(many + "x2303", -9);
        error(many + "x230", 15);
        error(many + "x", 12);
        error(many + "w120", -9);
        error(many + "w220", 12);
        error(many + "w130", 13);
        error(many + "v124", 14);
        error(many + "n0113w12", 19);
        error(many + "X0113", 11);
    }

    private static void manyRules() {
        StringBuilder text = new StringBuilder("D12105000");
        for (int r = 0; r < 10; r++) {
            text.append(r % 2 == 0 ? "n0112" : "x1101");
        }
        error(text.toString(), -9);
        error(text + "n0112", text.length());
        error(text + "x0112", text.length());
        error(text + "w013", -9);
        error(text + "w013n", text.length() + 4);
        Checks.due("load of ten rules", Checks.keeper(text.toString()).about(2), 10);
        String full = "D1110500" + "w001".repeat(38);
        error(full, -9);
        error("D121050" + "00" + "w001".repeat(37) + "n01", 160);
    }

    private static void load() {
        DesiredStateKeeper k = new DesiredStateKeeper();
        k.approve(0, 1, 0);
        k.wish(0, 0, 1);
        k.setFaults(0, 5);
        k.tick(4);
        k.save(0);
        k.save(1);
        Checks.write(k, "D3225020112n0112v001v002w213x1101v113");
        Checks.due("load", k.load(), 2);
        String loaded = Checks.sight(k);
        Checks.due("what is loaded", loaded, Checks.sight(Checks.keeper("D3225020112n0112v002w213x1101v113")));
        int[] about = {3, 2, 2, 2, 50, 0, 0, 0};
        for (int what = 0; what < 7; what++) {
            Checks.due("about(" + what + ") after load", k.about(what), about[what]);
        }
        Checks.due("ring", k.node(0, 0) * 100 + k.node(1, 0) * 10 + k.node(2, 0), 201);
        Checks.due("the version that is given again", k.version(0, 0, false), 2);
        Checks.due("wished", k.version(2, 1, true), 3);
        Checks.due("present", k.version(1, 1, false), 3);
        Checks.due("quorums", k.quorum(0) * 10 + k.quorum(1), 12);
        Checks.due("approvals are gone", k.approvals(0, 1), 0);
        Checks.due("faults are gone", k.node(0, 1), 0);
        Checks.due("strikes are gone", k.node(0, 2), 0);
        Checks.due("quarantines are gone", k.node(0, 3), -9);
        Checks.refuses("undo after load", Checks.BAD_STATE, k::undo);
        Checks.refuses("restore(0) after load", Checks.BAD_STATE, () -> k.restore(0));
        Checks.refuses("restore(1) after load", Checks.BAD_STATE, () -> k.restore(1));
        k.wish(0, 1, 3);
        Checks.due("load again", k.load(), 2);
        Checks.due("load again brings the same", Checks.sight(k), loaded);
        k.setQuorum(0, 0);
        k.drift(1, 0, 3);
        Checks.due("changes before load", k.tick(1), 1);
        k.drift(1, 0, 3);
        k.setFaults(1, 1);
        k.tick(1);
        Checks.due("strikes before load", k.node(1, 2), 1);
        Checks.write(k, "D2290500" + "00" + "n0112");
        Checks.due("load of two nodes", k.load(), 1);
        Checks.due("nothing of before", Checks.sight(k), Checks.sight(Checks.keeper("D2290500" + "00" + "n0112")));
        Checks.write(k, "D1190500");
        Checks.due("load of less", k.load(), 0);
        Checks.due("the rules are gone", k.breaks(0, 0, 3), 0);
        Checks.due("the text is kept", k.clearText(), 8);
    }

    private static void refusedLoad() {
        DesiredStateKeeper k = Checks.keeper("D2220501" + "10" + "n0112w001v112");
        k.approve(0, 1, 3);
        k.save(1);
        k.tick(2);
        Checks.write(k, "D33305");
        Checks.refuses("load of half a text", Checks.BAD_STATE, k::load);
        Checks.due("remembered states are kept", k.undo(), 1);
        Checks.due("slots are kept", k.restore(1), 0);
    }
}
