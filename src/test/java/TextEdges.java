/** The edges of the text: its length, what may stand at each place of it, and what is loaded from it. */
final class TextEdges {

    private static final int NONE = DesiredStateKeeper.NONE;

    /** The greatest head: five nodes, six components. */
    private static final String GREAT = "D56150" + "01201" + "012345";

    /** The smallest head: one node, one component. */
    private static final String SMALL = "D11101" + "0" + "0";

    private TextEdges() {
    }

    static void run() {
        buffer();
        append();
        clearText();
        head();
        items();
        eleventhRule();
        readingOrder();
        endsTooSoon();
        wholeTexts();
        versions();
        errorPosition();
        load();
        loadForgets();
        refusedLoad();
    }

    private static DesiredStateKeeper written(String text) {
        DesiredStateKeeper k = new DesiredStateKeeper();
        Checks.write(k, text);
        return k;
    }

    private static void error(String text, int want) {
        Checks.due("errorPosition of " + text, written(text).errorPosition(), want);
        Checks.refuses("load of " + text, want == NONE ? null : Checks.BAD_STATE, written(text)::load);
    }

    // ---- the buffer

    private static void buffer() {
        Sentences.term("The object has a text buffer of at most 160 characters.");
        DesiredStateKeeper k = written("w".repeat(159));
        Checks.due("the last character that fits", k.append('w'), 160);
        Checks.refuses("one more", Checks.BAD_STATE, () -> k.append('w'));
        Checks.due("length", k.clearText(), 160);
        error(SMALL + "w000".repeat(38), NONE);
        error("D26101" + "00" + "000000" + "n0112".repeat(10) + "v153".repeat(24), NONE);
    }

    private static void append() {
        Sentences.promise(2, "Appends a character to the text buffer.");
        DesiredStateKeeper k = written("D1120500w00");
        k.append('3');
        Checks.due("load of what was appended", k.load(), 0);
        Checks.due("the last character", k.version(0, 0, true), 3);
        Checks.due("all codes from 0 to 255 are told apart", codesThatAreD(), 1);

        Sentences.promise(2, "Returns the new length of the text.");
        DesiredStateKeeper counted = new DesiredStateKeeper();
        for (int length = 1; length <= 160; length++) {
            Checks.due("append number " + length, counted.append(length % 2 == 0 ? 0 : 255), length);
        }
        counted.clearText();
        Checks.due("after clearText", counted.append(0), 1);
        Checks.refuses("append(256)", Checks.BAD_ARGUMENT, () -> counted.append(256));
        Checks.due("after a refused one", counted.append(0), 2);

        Sentences.promise(2, "Throws `IllegalStateException` if the text already has 160 characters");
        for (int c : new int[] {0, 'D', 255}) {
            Unchanged.refused(Recipes.FULL, "append(" + c + ")", Checks.BAD_STATE, full -> full.append(c));
        }
        for (int c : new int[] {-1, 256, Integer.MIN_VALUE, Integer.MAX_VALUE}) {
            Unchanged.refused(Recipes.FULL, "append(" + c + ")", Checks.BAD_ARGUMENT, full -> full.append(c));
        }
        DesiredStateKeeper again = Recipes.FULL.make();
        again.clearText();
        Checks.due("after clearText", again.append('D'), 1);
    }

    private static int codesThatAreD() {
        int found = 0;
        for (int c = 0; c <= 255; c++) {
            DesiredStateKeeper k = new DesiredStateKeeper();
            k.append(c);
            found += k.errorPosition() == 1 ? 1 : 0;
        }
        return found;
    }

    private static void clearText() {
        Sentences.promise(3, "Empties the text buffer.");
        DesiredStateKeeper k = written(SMALL);
        k.clearText();
        Checks.due("the empty text ends too soon", k.errorPosition(), 0);
        Checks.due("the next character is the first", k.append('D'), 1);
        String before = Checks.sight(Recipes.FULL.make());
        DesiredStateKeeper full = Recipes.FULL.make();
        full.clearText();
        Checks.due("nothing but the text changes", Checks.sight(full), before);
        Checks.due("clearText is no action", full.undo(), 13);

        Sentences.promise(3, "Returns the previous length of the text.");
        DesiredStateKeeper lengths = new DesiredStateKeeper();
        Checks.due("of the empty text", lengths.clearText(), 0);
        lengths.append(0);
        Checks.due("of one character", lengths.clearText(), 1);
        Checks.due("again", lengths.clearText(), 0);
        Checks.due("of 159", written("D".repeat(159)).clearText(), 159);
        Checks.due("of 160", written("D".repeat(160)).clearText(), 160);
    }

    // ---- what may stand where

    /** Of all characters just these may follow the beginning; whole tells whether the text is one then. */
    private static void follow(String beginning, String allowed, boolean whole) {
        for (int c = 0; c <= 255; c++) {
            DesiredStateKeeper k = written(beginning);
            k.append(c);
            boolean fits = allowed.indexOf(c) >= 0;
            int end = whole ? NONE : beginning.length() + 1;
            Checks.due(beginning + " and then character " + c, k.errorPosition(), fits ? end : beginning.length());
        }
    }

    private static void head() {
        Sentences.term("A keeper text is the letter D");
        follow("", "D", false);
        Sentences.term("a digit for the number of nodes (1 to 5)");
        follow("D", "12345", false);
        Sentences.term("a digit for the number of components (1 to 6)");
        follow("D1", "123456", false);
        follow("D5", "123456", false);
        Sentences.term("a digit for the limit (1 to 9)");
        follow("D11", "123456789", false);
        follow("D56", "123456789", false);
        Sentences.term("two digits for the length (01 to 50)");
        follow("D569", "012345", false);
        follow("D5690", "123456789", false);
        follow("D5691", "0123456789", false);
        follow("D5694", "0123456789", false);
        follow("D5695", "0", false);
        Sentences.term("a digit from 0 to 2 for the ring of each node");
        follow("D11101", "012", false);
        follow("D56150", "012", false);
        follow("D56150" + "0120", "012", false);
        Sentences.term("a digit from 0 to 5 for the quorum of each component");
        follow("D11101" + "0", "012345", true);
        follow("D51101" + "01201", "012345", true);
        follow("D56150" + "01201", "012345", false);
        follow("D56150" + "01201" + "01234", "012345", true);
        follow("D16150" + "0" + "01234", "012345", true);
    }

    private static void items() {
        Sentences.term("and any number of items");
        follow(GREAT, "nxwv", false);
        follow(GREAT + "n0111", "nxwv", false);
        follow(GREAT + "x5343", "nxwv", false);
        follow(GREAT + "w000", "nxwv", false);
        follow(GREAT + "v453", "nxwv", false);
        for (int items = 0; items <= 38; items++) {
            error(SMALL + "v000".repeat(items), NONE);
        }
        Sentences.term("the letter n or x, four digits for a, x, b and y: a need (n) or a bar (x)");
        for (String letter : new String[] {"n", "x"}) {
            follow(GREAT + letter, "012345", false);
            follow(GREAT + letter + "0", "123", false);
            follow(GREAT + letter + "03", "12345", false);
            follow(GREAT + letter + "51", "01234", false);
            follow(GREAT + letter + "015", "123", true);
            follow("D12101000" + letter, "01", false);
            follow("D12101000" + letter + "01", "1", false);
            follow("D12101000" + letter + "11", "0", false);
        }
        kinds();
        Sentences.term("the letter w or v, three digits for a node, a component and a version: the wished version (w) "
                + "or the present version (v) of this component of this node.");
        for (String letter : new String[] {"w", "v"}) {
            follow(GREAT + letter, "01234", false);
            follow(GREAT + letter + "4", "012345", false);
            follow(GREAT + letter + "45", "0123", true);
            follow(SMALL + letter, "0", false);
            follow(SMALL + letter + "0", "0", false);
            follow(SMALL + letter + "00", "0123", true);
        }
        DesiredStateKeeper k = Checks.keeper(GREAT + "w453" + "v001");
        Checks.due("wished", k.version(4, 5, true), 3);
        Checks.due("not present", k.version(4, 5, false), 0);
        Checks.due("present", k.version(0, 0, false), 1);
        Checks.due("not wished", k.version(0, 0, true), 0);
        Sentences.term("both letters of rules if there is one component");
        follow(SMALL, "wv", false);
        follow(SMALL + "w000", "wv", false);
        follow("D51150" + "01201" + "5", "wv", false);
        Sentences.term("and the digit for b if it is equal to a");
        for (int a = 0; a <= 5; a++) {
            follow(GREAT + "n" + a + "1", "012345".replace("" + a, ""), false);
            follow(GREAT + "x" + a + "1", "012345".replace("" + a, ""), false);
            error(GREAT + "n" + a + "1" + a + "1", GREAT.length() + 3);
        }
    }

    private static void kinds() {
        DesiredStateKeeper k = Checks.keeper(GREAT + "n0153" + "x5301");
        int[][] want = {{0, 0, 1, 5, 3}, {1, 5, 3, 0, 1}};
        for (int r = 0; r < 2; r++) {
            for (int what = 0; what < 5; what++) {
                Checks.due("rule(" + r + ", " + what + ")", k.rule(r, what), want[r][what]);
            }
        }
    }

    private static void eleventhRule() {
        Sentences.term("this includes the letter of an eleventh rule");
        String two = "D12101" + "0" + "00";
        for (String rule : new String[] {"n0111", "x1303"}) {
            follow(two + rule.repeat(9), "nxwv", false);
            follow(two + rule.repeat(10), "wv", false);
            follow(two + rule.repeat(10) + "w003", "wv", false);
            error(two + rule.repeat(10), NONE);
            error(two + rule.repeat(11), two.length() + 50);
            error(two + "w003" + rule.repeat(5) + "v013" + rule.repeat(6), two.length() + 58);
        }
    }

    private static void readingOrder() {
        Sentences.term("There are no separators.");
        for (String separator : new String[] {" ", ",", ";", "\n", "\t", "" + (char) 0}) {
            error(SMALL + separator, SMALL.length());
            error(SMALL + "w000" + separator + "w000", SMALL.length() + 4);
            error("D" + separator + "1110100", 1);
        }
        Sentences.term("The error position is the index of the first character that these rules do not allow at its "
                + "place");
        error("d6010900", 0);
        error("D6010900", 1);
        error("D1010900", 2);
        error("D1106000", 3);
        error("D1116099", 4);
        error("D1110039", 5);
        error("D1110139", 6);
        error("D1110109q", 7);
        error(SMALL + "qw004", 8);
        error(SMALL + "w104w", 9);
        error(SMALL + "w014w", 10);
        error(SMALL + "w004w", 11);
        Sentences.term("The text is read from left to right.");
        // what a digit may be rests on the digits ahead of it
        error("D2" + "1101" + "00" + "0" + "w100", NONE);
        error("D1" + "1101" + "0" + "0" + "w100", 9);
    }

    private static void endsTooSoon() {
        Sentences.term("if the text ends too soon, it is the length of the text.");
        String text = "D23950" + "02" + "015" + "n0123" + "x2311" + "w120" + "v001";
        for (int length = 0; length <= text.length(); length++) {
            boolean whole = length == 11 || length == 16 || length == 21 || length == 25 || length == 29;
            error(text.substring(0, length), whole ? NONE : length);
        }
        error(SMALL + "w000".repeat(37) + "w00", 159);
        // full texts that end at each place of an item
        String two = "D12101" + "0" + "00";
        for (String item : new String[] {"n0111", "x1303", "w003", "v013"}) {
            error(two + "n0111".repeat(2) + "w000".repeat(35) + item.substring(0, 1), 160);
            error(two + "n0111".repeat(1) + "w000".repeat(36) + item.substring(0, 2), 160);
            error(two + "w000".repeat(37) + item.substring(0, 3), 160);
            error(two + "n0111".repeat(3) + "w000".repeat(33) + item.substring(0, 4), item.length() == 4 ? NONE : 160);
        }
    }

    private static void wholeTexts() {
        Sentences.term("There are 1 to 5 nodes and 1 to 6 components, numbered from 0.");
        for (int nodes = 0; nodes <= 9; nodes++) {
            for (int components = 0; components <= 9; components++) {
                String text = "D" + nodes + components + "101" + "0".repeat(nodes) + "0".repeat(components);
                boolean right = nodes >= 1 && nodes <= 5 && components >= 1 && components <= 6;
                error(text, right ? NONE : nodes >= 1 && nodes <= 5 ? 2 : 1);
                if (right) {
                    sizes(Checks.keeper(text), nodes, components);
                }
            }
        }
        Sentences.term("There are two settings, the limit of strikes (1 to 9) and the length of quarantines (1 to "
                + "50).");
        for (int limit = 0; limit <= 9; limit++) {
            error("D11" + limit + "0100", limit >= 1 ? NONE : 3);
        }
        for (int length = 0; length <= 99; length++) {
            String two = "" + length / 10 + length % 10;
            error("D111" + two + "00", length >= 1 && length <= 50 ? NONE : length < 60 ? 5 : 4);
            if (length >= 1 && length <= 50) {
                Checks.due("about(4) of " + two, Checks.keeper("D119" + two + "00").about(4), length);
                Checks.due("about(3) of " + two, Checks.keeper("D119" + two + "00").about(3), 9);
            }
        }
    }

    private static void sizes(DesiredStateKeeper k, int nodes, int components) {
        Checks.due("nodes", k.about(0), nodes);
        Checks.due("components", k.about(1), components);
        Checks.due("the last of both", k.version(nodes - 1, components - 1, true), 0);
        Checks.refuses("no such node", Checks.NO_INDEX, () -> k.version(nodes, 0, true));
        Checks.refuses("no such component", Checks.NO_INDEX, () -> k.version(0, components, true));
        Checks.refuses("no node before the first", Checks.NO_INDEX, () -> k.version(-1, 0, true));
        Checks.refuses("no component before the first", Checks.NO_INDEX, () -> k.version(0, -1, true));
    }

    private static void versions() {
        Sentences.term("(All versions are 0 at first");
        DesiredStateKeeper none = Checks.keeper(GREAT);
        for (int n = 0; n < 5; n++) {
            for (int c = 0; c < 6; c++) {
                Checks.due("present", none.version(n, c, false), 0);
                Checks.due("wished", none.version(n, c, true), 0);
            }
        }
        Sentences.term("a version that is given again replaces the one given before.)");
        for (int first = 0; first <= 3; first++) {
            for (int then = 0; then <= 3; then++) {
                DesiredStateKeeper k = Checks.keeper(SMALL + "w00" + first + "v00" + then + "w00" + then + "v00"
                        + first);
                Checks.due("wished " + first + " and then " + then, k.version(0, 0, true), then);
                Checks.due("present " + then + " and then " + first, k.version(0, 0, false), first);
            }
        }
    }

    private static void errorPosition() {
        Sentences.promise(4, "Checks the text.",
                "Returns the error position of the text; NONE if it is a keeper text.");
        Checks.due("of the empty text", new DesiredStateKeeper().errorPosition(), 0);
        Checks.due("of a keeper text", written(SMALL).errorPosition(), -9);
        Checks.due("at the first place", written("E").errorPosition(), 0);
        Checks.due("at the last place", written(SMALL + "w000".repeat(37) + "w004").errorPosition(), 159);
        Checks.due("behind a full text", written("D12101000" + "w000".repeat(37) + "w00").errorPosition(), 160);
        for (Recipes size : Recipes.values()) {
            Unchanged.quiet(size, "errorPosition", DesiredStateKeeper::errorPosition);
        }
        DesiredStateKeeper k = Recipes.MIDDLE.make();
        String before = Checks.sight(k);
        Checks.write(k, GREAT + "n0112w003");
        Checks.due("of another keeper text", k.errorPosition(), NONE);
        Checks.due("it is not loaded yet", Checks.sight(k), before);
        Checks.due("what is remembered is kept", k.undo(), 2);
    }

    // ---- load

    private static void load() {
        Sentences.promise(5, "Replaces everything by what the text describes; there are no approvals, faults, strikes "
                + "and quarantines, and the time and the number of changes are 0.");
        String[] texts = {SMALL, GREAT, "D23205" + "02" + "010" + "n0112x1221" + "w001v112w121",
            "D12950" + "2" + "50" + "x0111".repeat(10) + "v003v013"};
        for (String text : texts) {
            String want = Checks.sight(Checks.keeper(text));
            for (Recipes size : Recipes.values()) {
                DesiredStateKeeper k = size.make();
                Checks.write(k, text);
                k.load();
                Checks.due(size + " loads " + text, Checks.sight(k), want);
            }
        }
        // what a small keeper does not show must not come back with a great one
        DesiredStateKeeper k = Recipes.FULL.make();
        Checks.write(k, SMALL);
        k.load();
        Checks.write(k, GREAT);
        k.load();
        String bare = Checks.sight(Checks.keeper(GREAT));
        Checks.due("a great one after a small one", Checks.sight(k), bare);
        DesiredStateKeeper loaded = Recipes.FULL.make();
        Checks.write(loaded, GREAT);
        loaded.load();
        Checks.due("approvals", loaded.approvals(5, 3), 0);
        Checks.due("faults", loaded.node(3, 1), 0);
        Checks.due("strikes", loaded.node(3, 2), 0);
        Checks.due("quarantines", loaded.node(4, 3), NONE);
        Checks.due("time", loaded.about(5), 0);
        Checks.due("changes", loaded.about(6), 0);
        Checks.due("rules", loaded.breaks(0, 0, 3), 0);
        loadReplacesWays();
        loadReturns();
    }

    /** What was found for the old rules must not be told for the new ones, though the versions are the same. */
    private static void loadReplacesWays() {
        String versions = "w003w013";
        DesiredStateKeeper k = Checks.keeper("D12101" + "0" + "00" + "n0312n1301" + versions);
        Checks.due("fewest with rules", k.fewest(0), 3);
        Checks.write(k, "D12101" + "0" + "00" + versions);
        k.load();
        Checks.due("fewest without rules", k.fewest(0), 2);
        Checks.due("step without rules", k.step(0, 0), 3);
        Checks.write(k, "D12101" + "0" + "00" + "x0111" + versions);
        k.load();
        Checks.due("fewest with a bar", k.fewest(0), NONE);
        Checks.due("isPossible with a bar", k.isPossible(0, 3), true);
        Checks.write(k, "D12101" + "0" + "00" + "n0112x0111" + versions);
        k.load();
        Checks.due("needed", k.needed(0, 1, 1), 2);
        Checks.due("isPossible", k.isPossible(0, 1), false);
    }

    private static void loadReturns() {
        Sentences.promise(5, "Returns the number of rules.");
        for (int rules = 0; rules <= 10; rules++) {
            DesiredStateKeeper k = written("D12101" + "0" + "00" + "w001" + "n0112".repeat(rules) + "v001");
            Checks.due("load of " + rules, k.load(), rules);
            Checks.due("load again", k.load(), rules);
        }
    }

    private static void loadForgets() {
        Sentences.promise(5, "Forgets all remembered states and empties both save slots.");
        DesiredStateKeeper k = Recipes.FULL.make();
        Checks.write(k, SMALL);
        k.load();
        Checks.refuses("undo", Checks.BAD_STATE, k::undo);
        Checks.refuses("restore(0)", Checks.BAD_STATE, () -> k.restore(0));
        Checks.refuses("restore(1)", Checks.BAD_STATE, () -> k.restore(1));
        k.tick(1);
        Checks.due("from there on states are remembered", k.undo(), 0);
        Checks.due("and saved", k.save(1), 0);
        Checks.refuses("the other slot stays empty", Checks.BAD_STATE, () -> k.restore(0));

        Sentences.promise(5, "Keeps the text.");
        DesiredStateKeeper kept = written(SMALL + "w003");
        kept.load();
        Checks.due("it can be loaded again", kept.load(), 0);
        Checks.due("and goes on", kept.append('v'), SMALL.length() + 5);
        Checks.due("and is checked", kept.errorPosition(), SMALL.length() + 5);
        Checks.due("length", kept.clearText(), SMALL.length() + 5);
        DesiredStateKeeper full = written(SMALL + "w003".repeat(38));
        full.load();
        Checks.refuses("a full text stays full", Checks.BAD_STATE, () -> full.append('w'));
    }

    private static void refusedLoad() {
        Sentences.promise(5, "Throws `IllegalStateException` if the text is not a keeper text");
        Unchanged.refused("load", Checks.BAD_STATE, DesiredStateKeeper::load);
        String[] wrong = {"", "D", "E1110100", "D1110", "D1110100w", "D1110100w004", "D1110100n0111", SMALL + " ",
            "D12101" + "0" + "00" + "n0111".repeat(11), "D12101" + "0" + "00" + "n0101"};
        for (String text : wrong) {
            DesiredStateKeeper k = Recipes.MIDDLE.make();
            String before = Checks.sight(k);
            Checks.write(k, text);
            Checks.refuses("load of " + text, Checks.BAD_STATE, k::load);
            Checks.due("after load of " + text, Checks.sight(k), before);
            Checks.due("what is remembered after load of " + text, k.undo(), 2);
            Checks.due("slot 0 after load of " + text, k.restore(0), 0);
            Checks.due("the text after load of " + text, k.clearText(), text.length());
        }
    }
}
