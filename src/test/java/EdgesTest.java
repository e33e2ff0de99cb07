import java.io.IOException;
import java.nio.file.Path;

/** The edges of every promise, sentence by sentence, each with the document's own words. */
public final class EdgesTest {
    private EdgesTest() {
    }

    public static void main(String[] args) throws IOException {
        Doc.read(Path.of("../shared/DOC.md"));
        TapeEdges.run();
        TextEdges.run();
        NowEdges.run();
        DoorEdges.run();
        RingEdges.run();
        RumourEdges.run();
        ChanceEdges.run();
        ActEdges.run();
        Doc.allTested();
        Check.end();
    }
}
