/**
 * Every sentence of ../shared/DOC.md that names an edge: too small, too large, empty, full, a wrap-around, a refused call.
 * Each group of looks quotes its sentence, and no sentence may be left without one.
 */
public final class EdgesTest {
    public static void main(String[] args) {
        TermEdges.lookAtAll();
        TextEdges.lookAtAll();
        PoolEdges.lookAtAll();
        NetworkEdges.lookAtAll();
        HostEdges.lookAtAll();
        RouteEdges.lookAtAll();
        Edge.everySentenceIsQuoted();
        Due.end();
    }
}
