import java.util.List;

/**
 * Each sentence of the document that names an edge: the tests say which sentence they are about,
 * and a sentence that is neither said nor listed here fails.
 */
public final class EdgeTest {
    private EdgeTest() {
    }

    /** Sentences of "Terms" that name no edge. */
    private static final List<String> OF_TERMS = List.of(
        "It drives the JDK's own PriorityQueue and ArrayList.",
        "Ahead of the calls `resize`, `setCost`, `setRow`, `fill`, `setForbidden`, `costAt`, "
            + "`addToRow`, `addToColumn`, `swapRows`, `swapColumns`, `transpose`, `save`, "
            + "`restore`, `distance`, `rows`, `columns`, `forbiddenCount`, `totalCost` the "
            + "interface says: the table.",
        "Ahead of the calls `minimum`, `savedMinimum`, `assigned`, `optimalCount`, "
            + "`rowPotential`, `columnPotential`, `reducedCost`, `minimumWith`, "
            + "`minimumWithout`, `minimumIfCost`, `secondBest` the interface says: optimal "
            + "assignments.",
        "Ahead of the calls `maximum`, `bottleneck`, `fits`, `countWithin`, `sumOf` the "
            + "interface says: other objectives.",
        "Ahead of the calls `startEnumeration`, `nextSum`, `currentColumn`, `stepsMade` the "
            + "interface says: enumeration.",
        "Ahead of the calls `meanCost`, `shareOf`, `checksum`, `isSound` the interface says: "
            + "summaries.");

    /** Sentences of "What it is" that name no edge. */
    private static final List<String> OF_WHAT_IT_IS = List.of(
        "A solver for small assignment problems: n workers (rows) and n jobs (columns), a cost "
            + "for each worker and job, and assignments that give each worker a job of its own.",
        "what later calls answer is free.");

    public static void main(String[] args) {
        TermsEdges.all();
        TableEdges.all();
        ChangeEdges.all();
        OptimumEdges.all();
        ObjectiveEdges.all();
        EnumerationEdges.all();
        SummaryEdges.all();
        Document.allSaid("What it is", OF_WHAT_IT_IS);
        Document.allSaid(Document.TERMS, OF_TERMS);
        for (int promise = 1; promise <= 43; promise++) {
            Document.allSaid("Promise " + promise, List.of());
        }
        Check.end();
    }
}
