/** The program that README.md shows; ReadmeTest compares both, and what it prints. */
public final class Example {
    private static final String SEVEN = "a11+a22*b11+b22*c11+c22;a21+a22*b11*c12-c22;a11*b12-b22*c21+c22;"
        + "a22*b21-b11*c11+c12;a11+a12*b22*-c11+c21;a21-a11*b11+b12*c22;a12-a22*b21+b22*c11";

    public static void main(String[] args) {
        FewProducts x = new FewProducts();
        System.out.println("plain, tables of 2 by 2, over the field of 3: " + x.format(2, 2, 2, 3));
        write(x, SEVEN);
        System.out.println("with fewer products: " + x.scheme());
        System.out.println("places where it is wrong: " + x.checks());
        System.out.println("sums that it takes: " + x.sums());

        write(x, "1,2,0,1,2,2,1,0");
        System.out.println("wrong in 1 2 / 0 1 times 2 2 / 1 0: " + x.multiplies());
        System.out.println("what comes, column by column: " + row(x));

        write(x, "a11*b11*d11");
        System.out.println("a text with a fault at its sign 8: " + x.adds());
        System.out.println("no such product: " + x.drops(7));

        x.format(2, 2, 2, 2);
        System.out.println("products after a walk over the field of 2: " + x.walks(24, 100));
        System.out.println("flips done, last number drawn: " + row(x));
        System.out.println("it can be lifted: " + x.lifts());
        System.out.println("rank, unknowns: " + row(x));
    }

    /** Four signs a call, the highest byte first; then what is over is cut off. */
    private static void write(FewProducts x, String text) {
        x.end(0);
        for (int k = 0; k < text.length(); k += 4) {
            int v = 0;
            for (int s = k; s < k + 4; s++) {
                v = v << 8 | (s < text.length() ? text.charAt(s) : 0);
            }
            x.sign(v);
        }
        x.end(text.length());
    }

    private static String row(FewProducts x) {
        StringBuilder s = new StringBuilder();
        for (int i = 0; i < x.count(6); i++) {
            s.append(i > 0 ? " " : "").append(x.row(i));
        }
        return s.toString();
    }
}
