/** Every sentence of the document, with the edges that it names: see {@link Sentences}. */
public final class EdgesTest {

    public static void main(String[] args) throws Exception {
        ArgumentEdges.run();
        TextEdges.run();
        FactEdges.run();
        TickEdges.run();
        ActionEdges.run();
        AnswerEdges.run();
        ScriptEdges.run();
        notPromised();
        Sentences.end();
        Checks.end("EdgesTest");
    }

    private static void notPromised() {
        Sentences.saysNothingToTest("what later calls answer is free.");
        Sentences.saysNothingToTest("How the state is held inside the object is free, as are the speed of each call, "
                + "the text of toString and the behaviour of equals and hashCode.");
        Sentences.saysNothingToTest("Use of one object from several threads at once is not promised to be safe.");
        Sentences.saysNothingToTest("Nothing is promised beyond the answers and state changes described above, and "
                + "nothing about an object after its 512th call.");
    }
}
