/** A test for each sentence of ../shared/DOC.md that names an edge; fails if a sentence has none. */
public final class EdgesTest {
    public static void main(String[] args) throws Exception {
        Edges edges = new Edges();
        InputEdges.tell(edges);
        PlanEdges.tell(edges);
        SimulationEdges.tell(edges);
        SimulationAnswersEdges.tell(edges);
        SharingEdges.tell(edges);
        BestSetEdges.tell(edges);
        WhatIfEdges.tell(edges);
        ErrorEdges.tell(edges);
        ChangesEdges.tell(edges);
        edges.everySentenceIsTold();
        edges.end();
    }

    private EdgesTest() {
    }
}
