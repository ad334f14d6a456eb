/** Every sentence of the document, with the edges that it names: see {@link Sentences}. */
public final class EdgesTest {

    public static void main(String[] args) throws Exception {
        ArgumentEdges.run();
        TextEdges.run();
        FactEdges.run();
        TickEdges.run();
        ActionEdges.run();
        AnswerEdges.run();
        ScriptEdges.run();
        introductions();
        Sentences.end();
        Checks.end("EdgesTest");
    }

    private static void introductions() {
        Sentences.saysNothingToTest("A keeper of desired states: nodes have components in versions");
        Sentences.saysNothingToTest("It tells why a change does not happen, the fewest changes that lead to the wish");
        for (String title : new String[] {"text", "what there is", "actions", "ways to the wish", "digests, ranks",
            "scripts, simulations", "save slots"}) {
            Sentences.saysNothingToTest("the interface says: ---- " + title + ".");
        }
    }
}
