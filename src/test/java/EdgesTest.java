import java.io.IOException;

/** Each sentence of the document that names an edge, under its promise: see the groups. */
public final class EdgesTest {
    public static void main(String[] args) throws IOException {
        Edge edge = new Edge();
        new SurfaceEdges(edge).all();
        new DoingEdges(edge).all();
        new ChanceEdges(edge).all();
        new StateEdges(edge).all();
        edge.end();
    }
}
