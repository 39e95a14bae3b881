import java.util.ArrayList;
import java.util.List;

/**
 * Holds the class to each sentence of the document that names a boundary case, on both sides of the boundary; and the
 * tests to the document, as none of its sentences may be left that they do not quote, but those that name no boundary.
 */
final class BoundaryTest {
    private static final List<String> NO_BOUNDARY = List.of(
            "Conventions", "All numbers are integers.",
            "Models", "A model is defined or not. A defined model has a polynomial in the variables x and y, , and a "
            + "remainder, an interval. .", "The range of a number n (an integer, of whatever unit) times x^i y^j is",
            "Operations", "The product of two models A and B: The remainder of the product is the sum of these and of an "
            + "interval that is computed in millionths", "It is computed like this", "The antiderivative of a model by x",
            "A step of two models X and Y with two models F and G and a number h",
            "Setup text", "Its grammar is", "```text", "```",
            "Changes", "In the methods, a parameter named target, model, first, second or outer is the index of a model",
            "The constants",
            "`length`: the number of bytes to read", "`model`: a model", "`i`: the exponent of x", "`j`: the exponent of y",
            "Returns the coefficient.", "Returns this end.", "Returns whether this is so.", "Sweeps small terms",
            "Wraps a model into a box", "Sets a coefficient.", "Sets the remainder.",
            "Makes a model one that is not defined.", "Computes a checksum.", "Returns the checksum.");

    public static void main(String[] args) {
        ModelBoundaries.check();
        OperationBoundaries.check();
        SetupBoundaries.check();
        PromiseBoundaries.check();
        ChangeBoundaries.check();
        ExceptionBoundaries.check();
        Check.noSentence();
        List<String> left = new ArrayList<>(Document.unquoted());
        left.removeAll(NO_BOUNDARY);
        Check.due("what of the document no test quotes", "[]", left.toString());
        System.out.println("BoundaryTest: " + Document.quotes() + " quotes of the document");
        Check.finish("BoundaryTest");
    }
}
