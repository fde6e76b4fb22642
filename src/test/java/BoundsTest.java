/** Each sentence of the document that names a boundary case has a test of its own; all of them. */
public final class BoundsTest {
    public static void main(String[] args) {
        Sentences.run(NeedsBounds.class);
        Sentences.run(ArchivesBounds.class);
        Sentences.run(YearsBounds.class);
        Sentences.run(CenturiesBounds.class);
        Sentences.run(SeenBounds.class);
        Sentences.run(ActsBounds.class);
        Sentences.run(TapesBounds.class);
        Sentences.run(RefusedBounds.class);
        Sentences.run(LateBounds.class);
        Sentences.end("BoundsTest");
    }
}
