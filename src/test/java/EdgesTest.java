import java.nio.file.Path;

/** Each sentence of the document, above all those that name an edge, has a test of its own; none is left out. */
public final class EdgesTest extends Edges {
    public static void main(String[] args) throws Exception {
        open(Path.of("../shared/DOC.md"));
        longLife();
        EdgesOfText.all();
        EdgesOfBook.all();
        EdgesOfAnswers.all();
        EdgesOfPromises.all();
        says("The constants: `NONE = -1`: None.");
        due("NONE", BellPlate.NONE, -1);
        allNamed("## Terms", "## Not promised");
        System.out.println(wrong == 0 ? "all answers are as due" : wrong + " answers are not as due");
        if (wrong != 0) System.exit(1);
    }

    private static void longLife() {
        says("An object is used for at most 512 calls after it has been made;");
        x = new BellPlate();
        for (int i = 0; i < 125; i++) {
            feed(i % 2 == 0 ? TWO : THREE);
            x.tower();
            x.trial(3, true);
        }
        dueAll("behind 500 calls", row(x.left(0), x.trial(1, true)), 6, 1);
        for (int i = 0; i < 9; i++) x.mark(i % 4, false);
        due("the 512th", x.left(1), 2);
    }
}
