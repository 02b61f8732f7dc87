import java.nio.file.Path;

/**
 * Every sentence of the document that names an edge, each by a test that quotes it and names its promise: the least
 * and the greatest that is taken, the first that is refused, what is empty, what is full, and that refusals change nothing.
 */
public final class EdgesTest {
    public static void main(String[] args) {
        Check check = new Check();
        run(check, new Document(Path.of(System.getProperty("rungrights.document", "../shared/DOC.md"))));
        check.end();
    }

    static void run(Check check, Document document) {
        scenesAreAsTheyAreMeant(check);
        Edges[] groups = {new TermsEdges(check, document), new RungsEdges(check, document), new FiresEdges(check, document),
            new ReasonsEdges(check, document), new ClimbsEdges(check, document), new TrailsEdges(check, document),
            new DownsEdges(check, document), new YearsEdges(check, document), new ImagesEdges(check, document)};
        for (Edges group : groups) {
            group.all();
        }
        for (String words : document.unquoted()) {
            check.holds("a test quotes these words, " + words, false);
        }
    }

    /** If they were not, what is asked of them would say less than it seems to. */
    private static void scenesAreAsTheyAreMeant(Check check) {
        check.due("RICH can be done", Scene.RICH.make().done(), 4);
        check.due("RICH is in beat 4", Scene.RICH.make().told(1), 4);
        check.due("RICH: E has STEPPED", Scene.RICH.make().told(3), 16);
        check.due("RICH has sights", Scene.RICH.make().told(5), 3);
        check.due("BRIM has sixty signs", Scene.BRIM.make().told(0), 60);
        check.due("BRIM has eight sights", Scene.BRIM.make().told(5), 8);
        check.due("FAULTY has a fault", Scene.FAULTY.make().fault(), 4);
        check.due("STUCK has none", Scene.STUCK.make().fault(), RungRights.NONE);
        check.due("STUCK can not be done", Scene.STUCK.make().judge(0), 2);
        for (Scene scene : new Scene[] {Scene.RICH, Scene.BRIM, Scene.FAULTY, Scene.STUCK}) {
            check.due(scene + " keeps 0", scene.make().restore(0), 1);
            check.due(scene + " keeps 1", scene.make().restore(1), 1);
        }
    }
}
