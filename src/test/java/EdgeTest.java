/** Every sentence of the document that names an edge, with a test of its own that tells the promise and the sentence. */
public final class EdgeTest {
    public static void main(String[] args) {
        Probe probe = new Probe();
        new EdgeText(probe).run();
        new EdgeDay(probe).run();
        new EdgeAhead(probe).run();
        new EdgeSeen(probe).run();
        probe.dueAllEdgesQuoted();
        probe.end();
    }
}
