import java.io.IOException;
import java.nio.file.Files;
import java.nio.file.Path;
import java.util.Set;
import java.util.TreeSet;
import java.util.function.Supplier;
import java.util.function.ToLongFunction;

/**
 * What the boundary tests share. Each names a promise and a sentence of the document (says) ahead of the calls
 * that reach its case; a call that must change nothing is made beside a twin, on which it is not made.
 */
final class Bounds {
    static final String ONE = "a11*b11*c11";
    /** Just outside of a count that starts at 0, and far outside. */
    static final int[] BELOW = {-1, -2, Integer.MIN_VALUE};
    static final int FAR = Integer.MAX_VALUE;

    private static final Path DOCUMENT = Path.of("../shared/DOC.md");
    private static final String TERMS = "## Terms ";
    private static final Set<Integer> promises = new TreeSet<>();
    private static String document = null;
    private static String at = "";
    private static int sentences = 0;

    /** The answers from here on are about this sentence: of that promise, or of a term that it uses. */
    static void says(int promise, String sentence) {
        at = "promise " + promise + " \"" + sentence + "\": ";
        promises.add(promise);
        sentences++;
        if (document == null) {
            document = read();
        }
        if (!document.isEmpty()) {
            String own = part("## Promise " + promise + ": ");
            Due.is(at + "told in the document", own.contains(sentence) || part(TERMS).contains(sentence), true);
        }
    }

    private static String read() {
        try {
            return Files.exists(DOCUMENT) ? Files.readString(DOCUMENT).replaceAll("\\s+", " ") : "";
        } catch (IOException e) {
            return "";
        }
    }

    private static String part(String heading) {
        int start = document.indexOf(heading);
        if (start < 0) {
            return "";
        }
        int end = document.indexOf(" ## ", start);
        return document.substring(start, end < 0 ? document.length() : end);
    }

    static void is(String what, long got, long due) {
        Due.is(at + what, got, due);
    }

    static void is(String what, boolean got, boolean due) {
        Due.is(at + what, got, due);
    }

    static void row(String what, FewProducts x, long... due) {
        Due.row(at + what, x, due);
    }

    static void forms(String what, FewProducts x, int... due) {
        Due.forms(at + what, x, due);
    }

    /** The call answers as due, and no state but that of the row is another than without it. */
    static void asks(String what, Supplier<FewProducts> make, ToLongFunction<FewProducts> call, long due) {
        FewProducts x = make.get();
        is(what, call.applyAsLong(x), due);
        same(what, x, make.get(), false);
    }

    /** The call answers as due, and nothing at all is other than without it. */
    static void refused(String what, Supplier<FewProducts> make, ToLongFunction<FewProducts> call, long due) {
        FewProducts x = make.get();
        is(what, call.applyAsLong(x), due);
        same(what, x, make.get(), true);
    }

    /** The call reads this text and answers as due, and nothing is other than without it but that the text is empty. */
    static void refusedText(String what, Supplier<FewProducts> make, String text, ToLongFunction<FewProducts> call,
            long due) {
        FewProducts x = Due.write(make.get(), text);
        is(what + " (" + text + ")", call.applyAsLong(x), due);
        FewProducts y = make.get();
        y.end(0);
        same(what + " (" + text + ")", x, y, true);
    }

    /** Both are in one state: counts, row, forms, then (by reading it as a product) the text, then what is kept. */
    private static void same(String what, FewProducts x, FewProducts y, boolean withRow) {
        for (int k = 0; k <= 13; k++) {
            if (withRow || k != 6) {
                is(what + ", then count " + k, x.count(k), y.count(k));
            }
        }
        for (int k = 0; withRow && k < y.count(6); k++) {
            is(what + ", then row " + k, Due.numberOf(x, k), Due.numberOf(y, k));
        }
        sameForms(what + ", then", x, y);
        if (y.count(4) == 40) {
            is(what + ", then drops", x.drops(0), y.drops(0));
        }
        if (y.count(7) > 0) {
            is(what + ", then the text", x.adds(), y.adds());
            sameForms(what + ", then the text's", x, y);
        }
        is(what + ", then back", x.back(), y.back());
        sameForms(what + ", then kept", x, y);
    }

    private static void sameForms(String what, FewProducts x, FewProducts y) {
        is(what + " products", x.count(4), y.count(4));
        for (int i = 0; i < y.count(4); i++) {
            for (int t = 0; t < 3; t++) {
                is(what + " form " + i + " " + t, x.form(i, t), y.form(i, t));
            }
        }
    }

    // ---- schemes at the limits

    /** So many products (0 .. 40), each a11 b11 c11; 200 calls at most. */
    static FewProducts ones(int n, int m, int p, int q, int many) {
        FewProducts x = Due.made(n, m, p, q);
        if (many == 0) {
            for (int k = n * m * p; k > 0; k--) {
                x.drops(0);
            }
            return x;
        }
        Due.write(x, times(ONE, Math.min(many, 33)));
        Due.is("ones", x.scheme(), Math.min(many, 33));
        for (int k = 34; k <= many; k++) {
            Due.write(x, ONE);
            Due.is("ones", x.adds(), k);
        }
        return x;
    }

    /** A product of which no number is 0, all are 1. */
    static String whole(int n, int m, int p) {
        return whole('a', n, m) + "*" + whole('b', m, p) + "*" + whole('c', p, n);
    }

    private static String whole(char letter, int rows, int columns) {
        StringBuilder s = new StringBuilder();
        for (int r = 1; r <= rows; r++) {
            for (int c = 1; c <= columns; c++) {
                s.append(s.length() > 0 ? "+" : "").append(letter).append(r).append(c);
            }
        }
        return s.toString();
    }

    static String times(String product, int many) {
        StringBuilder s = new StringBuilder(product);
        for (int k = 1; k < many; k++) {
            s.append(';').append(product);
        }
        return s.toString();
    }

    /**
     * Four products of 2, 3, 2 over the field of three, the first two alike at table 0, five kept ones,
     * a row of three numbers, a text of one product.
     */
    static FewProducts rich() {
        FewProducts x = Due.made(2, 3, 2, 3,
            "a11-a12*b11*c11;-a11+a12*b12*c12;a22*b31-b32*-c21;a23*b22*c22;a13*b21*c12");
        x.keeps();
        x.drops(4);
        x.flips();
        return Due.write(x, "a21*-b32*c22");
    }

    /** Forty products of 2, 1, 2 over the field of two, one kept, a row of one number, a text of one product. */
    static FewProducts full() {
        FewProducts x = ones(2, 1, 2, 2, 1);
        x.keeps();
        Due.write(x, times(ONE, 33));
        x.scheme();
        for (int k = 34; k <= 39; k++) {
            Due.write(x, ONE);
            x.adds();
        }
        Due.write(x, "a21*b11+b12*c22");
        Due.is("full", x.adds(), 40);
        x.spans(0);
        return Due.write(x, "a11*b12*c12");
    }

    /** No product of 2, 2, 2 over the field of three, none kept, a row of three numbers, a text of one product. */
    static FewProducts empty() {
        FewProducts x = ones(2, 2, 2, 3, 0);
        x.sums();
        return Due.write(x, "-a22*b11*c12");
    }

    static void over(int first, int last) {
        for (int promise = first; promise <= last; promise++) {
            Due.is("promise " + promise + " has a sentence here", promises.contains(promise), true);
        }
        System.out.print(sentences + " sentences, ");
        Due.over();
    }

    private Bounds() {
    }
}
