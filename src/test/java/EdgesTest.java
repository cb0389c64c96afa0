/** Each sentence of the document that names a boundary case has a test of its own in these classes. */
public final class EdgesTest {
    public static void main(String[] args) {
        if (!Edges.run(EdgesOfTextsTest.class, EdgesOfTheMeetTest.class, EdgesOfWhatCanComeTest.class,
                EdgesOfWhatWasSeenTest.class)) {
            System.exit(1);
        }
    }
}
