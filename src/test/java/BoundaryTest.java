import java.nio.file.Path;

/**
 * For each sentence of the document that names a bound: what the class answers at it, with the promise's number and
 * the sentence. A sentence that is not the document's, and words of the document that no test quotes, fail too.
 */
public final class BoundaryTest {
    public static void main(String[] args) throws Exception {
        Sentences.read(Path.of(args.length > 0 ? args[0] : "../shared/DOC.md"));
        PictureEdges.run();
        MoveEdges.run();
        LawEdges.run();
        ShelfEdges.run();
        RefusalEdges.run();
        sentencesWithoutBounds();
        if (Sentences.end() != 0) System.exit(1);
    }

    /** What these say, PromiseTest and ModelTest ask for. */
    private static void sentencesWithoutBounds() {
        Sentences.namesNoBound(-1, "A cord in a pocket: pictures of a cord with its ends joined, crossings told along it, over and under; sums of signs that no pushing changes; pictures made simpler by moves, shown the same; mirrored, turned, joined; a crossing that is hidden, both ways; the fewest crossings to change till it comes out; plaits that an end makes by lot, closed to a cord; odds of what comes of plaits, whole; boxes shaken by laws told as texts, how often there is a knot, the least length; pictures known beside one another, those that no sum parts; pictures mended, undone; visits from rows that lack or end; lies whose acts come from above; and each end led through its crossings.");
        Sentences.namesNoBound(3, "DRAWN: n CROSSINGS, 2 n ARCS (ARC k leads from VISIT k to the next one).");
        Sentences.namesNoBound(3, "FACES: going along an ARC (on or back) to its end, leaving by the end that lies next behind the one by which one came, and so on, till one is where one began: each such round is a FACE.");
        Sentences.namesNoBound(8, "SUM: over all ways to cut each CROSSING in one of two ways: A: SIGN 1: over in to under out, and under in to over out; SIGN -1: over in to under in, and over out to under out; B: the other one of both.");
        Sentences.namesNoBound(8, "Each way gives x to the power of (how many A less how many B), times (-x^2 - x^-2) to the power of (LOOPS less 1). WRITHE w: the sum of SIGNS. SUM: all these together, times (-1) to the power of w, times x to the power of (-3 w).");
        Sentences.namesNoBound(5, "PLAITS: words of letters:");
        Sentences.namesNoBound(1, "Ahead of the calls `feed`, `picture`, `fromRow`, `plait`, `of`, `led`, `sum`, `alike`, `mirror`, `turn`, `join` the interface says: ---- pictures. Ahead of the calls `change`, `pulls`, `moves`, `simpler`, `simplify`, `parted`, `hidden` the interface says: ---- changes, moves. Ahead of the calls `lots`, `law`, `shake`, `least`, `undo`, `redo` the interface says: ---- lots, shakes. Ahead of the calls `body`, `act`, `trace`, `keep`, `row`, `put`, `element`, `shift`, `taken`, `count` the interface says: ---- acts, shelves.");
    }

    private BoundaryTest() { }
}
