import java.io.IOException;

/** Each sentence of the document that names a boundary case, with the case itself and its neighbours. */
final class BoundaryTest {
    private BoundaryTest() {
    }

    public static void main(String[] args) throws IOException {
        Doc.open();
        TextBounds.run();
        SeasonBounds.run();
        ActBounds.run();
        TableBounds.run();
        PlayerBounds.run();
        ComingBounds.run();
        Doc.close();
        Check.finish();
    }
}
