import java.io.IOException;

/**
 * Sentence by sentence: the tests of each say for which words of the document they are, and what is
 * due there; in the end each word of the Terms and of the promises must have had a test.
 */
public final class EdgesTest {
    private EdgesTest() {
    }

    public static void main(String[] args) throws IOException {
        Doc.read();
        TermsEdges.test();
        TownEdges.test();
        RingEdges.test();
        PlaceEdges.test();
        WalkEdges.test();
        HostEdges.test();
        int wrong = Edges.wrong;
        for (int section = Doc.TERMS; section <= Doc.PROMISES; section++) {
            String left = Doc.left(section);
            if (left.isEmpty()) continue;
            wrong++;
            System.out.println((section == Doc.TERMS ? "Terms" : "Promise " + section) + ", without a test: " + left);
        }
        System.out.println(wrong == 0 ? Edges.rows + " rows are as due" : wrong + " of " + Edges.rows + " rows are not as due");
        if (wrong != 0) System.exit(1);
    }
}
