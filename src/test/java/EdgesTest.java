/** Each sentence of the document has a test of its own: at the boundary, just below it, just above it. */
public final class EdgesTest {
    public static void main(String[] args) throws Exception {
        EdgesOfTerms.all();
        EdgesOfHunt.all();
        EdgesOfRows.all();
        EdgesOfCountries.all();
        EdgesOfTrail.all();
        EdgesOfRun.all();
        EdgesOfPlans.all();
        EdgesOfRandom.all();
        EdgesOfTold.all();
        Edges.coverDocument();
        Check.end();
    }
}
