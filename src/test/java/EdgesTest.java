/** Each sentence of the document that names an edge: too small, too large, empty, full, wrapped around, refused. */
final class EdgesTest {
    public static void main(String[] args) {
        Check check = new Check();
        Run run = new Run(check);
        new PictureEdges(run).all();
        new CuesEdges(run).all();
        new StudioEdges(run).all();
        new AskedEdges(run).all();
        new WouldBeEdges(run, check).all();
        new FullEdges(run).all();
        run.sawAllExceptions();
        check.end("EdgesTest");
    }
}
