/** How to use TaylorModels. Each printed answer stands behind its line; README.md shows this file, ReadmeTest runs it. */
public final class Example {
    public static void main(String[] args) {
        TaylorModels models = new TaylorModels();
        System.out.println(load(models, "models; a=x*100; b=500+y*100; c=y; d=0-x; e=x*y-400#2;")); // 5: a to e
        System.out.println(models.coefficient(4, 1, 1));    // 1000: e holds x y once
        System.out.println(models.remainder(4, 1));         // 2: and is known up to 0.002
        System.out.println(models.bound(4, 0));             // -1402: nowhere on the square is it below -1.402
        System.out.println(models.value(4, 500, -500, 0));  // -652: at x = 0.5, y = -0.5 it is -0.652 to -0.648
        System.out.println(models.value(4, 500, -500, 1));  // -648

        System.out.println(models.multiply(5, 0, 4));       // 2: f = a e; the width of its remainder
        System.out.println(models.reason(4, 4, 1));         // 1: e[e, b] is not possible, as e leaves the square
        System.out.println(models.step(100, 10));           // 10: ten Euler steps of a' = b, b' = -a, each of 0.1
        System.out.println(models.undo());                  // 2: multiply and load can still be undone
        System.out.println(models.covers(2, 3));            // false

        System.out.println(load(models, "models; a=x*z;"));             // -2: SYNTAX_ERROR
        System.out.println(models.errorOffset());                       // 12: at the z
        System.out.println(Integer.toBinaryString(models.defined()));   // 111111: a to f are as they were
    }

    /** A text goes into the input buffer 20 bytes at a time; load tells how many of them belong to it. */
    static int load(TaylorModels models, String text) {
        for (int at = 0; at < text.length(); at += 20) {
            int[] w = new int[5];
            for (int k = 0; k < 20 && at + k < text.length(); k++) {
                w[k / 4] |= (text.charAt(at + k) & 255) << 24 - k % 4 * 8;
            }
            models.append(w[0], w[1], w[2], w[3], w[4]);
        }
        return models.load(text.length());
    }
}
