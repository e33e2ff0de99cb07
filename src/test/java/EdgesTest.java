import java.io.IOException;
import java.nio.file.Path;

/** The edges of every promise, sentence by sentence, each with the document's own words. */
public final class EdgesTest {
    private EdgesTest() {
    }

    public static void main(String[] args) throws IOException {
        readDocument();
        TapeEdges.run();
        TextEdges.run();
        NowEdges.run();
        DoorEdges.run();
        RingEdges.run();
        RumourEdges.run();
        ChanceEdges.run();
        ActEdges.run();
        Doc.allTested();
        Check.end();
    }

    static void readDocument() throws IOException {
        Doc.read(Path.of("../shared/DOC.md"));
    }

    /** The edges of the promises that stand in a group with this one. */
    static void runGroupOf(int promise) {
        if (promise <= 5) {
            TapeEdges.run();
        } else if (promise <= 15) {
            NowEdges.run();
        } else if (promise <= 23) {
            DoorEdges.run();
        } else if (promise <= 28) {
            RingEdges.run();
        } else if (promise <= 36) {
            RumourEdges.run();
        } else if (promise <= 43) {
            ChanceEdges.run();
        } else {
            ActEdges.run();
        }
    }
}
