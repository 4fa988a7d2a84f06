import java.io.IOException;

/** Each sentence of the document that names a boundary case: below it, at it, above it, empty, full, and refused. */
public final class BoundsTest {
    public static void main(String[] args) throws IOException {
        Bounds bounds = new Bounds();
        new DescriptionBounds(bounds).all();
        new SureAndDivisionBounds(bounds).all();
        new PageAndStreamBounds(bounds).all();
        new CodeBounds(bounds).all();
        new TotalBounds(bounds).all();
        new Refusals(bounds).all();
        bounds.end();
    }
}
