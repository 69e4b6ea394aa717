/** All boundary cases that the document names, in its order, each named by its words. */
public final class EdgesTest {
    private EdgesTest() {
    }

    public static void main(String[] args) {
        run();
        System.out.println(Edge.count() + " boundary cases");
        Due.end();
    }

    static void run() {
        TapeEdges.run();
        FrontEdges.run();
        LawEdges.run();
        FaultEdges.run();
        MinuteEdges.run();
        AheadEdges.run();
        AskEdges.run();
        PromiseEdges.run();
    }
}
