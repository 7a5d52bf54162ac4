import java.util.NoSuchElementException;

/** What the promise tests share: what is due is told, what differs is printed and counted. */
final class Due {
    static final String STRASSEN =
        "a11+a22*b11+b22*c11+c22;a21+a22*b11*c12-c22;a11*b12-b22*c21+c22;a22*b21-b11*c11+c12;"
        + "a11+a12*b22*c21-c11;a21-a11*b11+b12*c22;a12-a22*b21+b22*c11";

    // found by walks from the plain scheme of 3, 3, 3: right over the field of two, but not modulo four
    static final int[] LIFTLESS_23 = {
        40, 448, 438, 16, 32, 144, 488, 450, 360, 73, 438, 65, 128, 474, 4, 109, 384, 357, 495, 146, 72, 8, 260, 195,
        8, 511, 2, 27, 455, 320, 24, 56, 3, 5, 448, 365, 493, 466, 364, 203, 178, 83, 26, 511, 1, 296, 258, 371,
        64, 449, 325, 40, 192, 432, 365, 402, 292, 491, 130, 27, 91, 503, 321, 256, 432, 339, 475, 48, 339};
    static final int[] LIFTLESS_24 = {
        390, 400, 72, 384, 428, 469, 195, 7, 24, 352, 364, 413, 160, 292, 269, 8, 446, 27, 398, 447, 27, 217, 436, 72,
        390, 63, 26, 438, 384, 18, 260, 511, 41, 73, 438, 9, 219, 432, 88, 32, 72, 415, 384, 168, 320, 388, 144, 96,
        64, 365, 45, 324, 367, 40, 203, 439, 25, 320, 360, 408, 384, 128, 45, 432, 428, 144, 48, 392, 146, 344, 4, 216};

    private static int wrong = 0;
    private static int asked = 0;

    static void is(String what, long got, long due) {
        asked++;
        if (got != due) {
            wrong++;
            System.out.println(what + " answered " + got + ", due is " + due);
        }
    }

    static void is(String what, boolean got, boolean due) {
        is(what, got ? 1 : 0, due ? 1 : 0);
    }

    static void is(String what, String got, String due) {
        asked++;
        if (!got.equals(due)) {
            wrong++;
            System.out.println(what + " are " + got + ", due are " + due);
        }
    }

    /** The row is these numbers, and no more; beside it row throws. */
    static void row(String what, FewProducts x, long... due) {
        is(what + ": numbers of the row", x.count(6), due.length);
        for (int i = 0; i < due.length; i++) {
            is(what + ": row " + i, numberOf(x, i), due[i]);
        }
        for (int i : new int[] {-1, due.length, Integer.MIN_VALUE, Integer.MAX_VALUE}) {
            is(what + ": row " + i + " (throws)", numberOf(x, i), Long.MIN_VALUE);
        }
    }

    static long numberOf(FewProducts x, int i) {
        try {
            return x.row(i);
        } catch (NoSuchElementException e) {
            return Long.MIN_VALUE;
        }
    }

    /** The products' codes, three each. */
    static void forms(String what, FewProducts x, int... due) {
        is(what + ": products", x.count(4), due.length / 3);
        for (int k = 0; k < due.length; k++) {
            is(what + ": form " + k / 3 + " " + k % 3, x.form(k / 3, k % 3), due[k]);
        }
    }

    /** The text is s alone. */
    static FewProducts write(FewProducts x, String s) {
        x.end(0);
        for (int k = 0; k < s.length(); k += 4) {
            int v = 0;
            for (int c = k; c < k + 4; c++) {
                v = v << 8 | (c < s.length() ? s.charAt(c) : 'x');
            }
            x.sign(v);
        }
        is("end of a text", x.end(s.length()), true);
        return x;
    }

    static FewProducts made(int n, int m, int p, int q) {
        FewProducts x = new FewProducts();
        is("format", x.format(n, m, p, q), n * m * p);
        return x;
    }

    static FewProducts made(int n, int m, int p, int q, String scheme) {
        FewProducts x = write(made(n, m, p, q), scheme);
        is("scheme " + scheme, x.scheme(), scheme.split(";").length);
        return x;
    }

    /** A form told as a text, of its code. */
    static String formText(int code, int table, int columns, int q) {
        StringBuilder s = new StringBuilder();
        for (int place = 0, rest = code; rest > 0; place++, rest /= q) {
            if (rest % q != 0) {
                s.append(rest % q == 2 ? "-" : s.length() > 0 ? "+" : "").append("abc".charAt(table));
                s.append(place / columns + 1).append(place % columns + 1);
            }
        }
        return s.toString();
    }

    /** A scheme of 3, 3, 3 over the field of two, of codes, three a product. */
    static FewProducts coded(int[] codes) {
        String[] products = new String[codes.length / 3];
        for (int k = 0; k < codes.length; k += 3) {
            products[k / 3] = formText(codes[k], 0, 3, 2) + "*" + formText(codes[k + 1], 1, 3, 2) + "*"
                + formText(codes[k + 2], 2, 3, 2);
        }
        FewProducts x = made(3, 3, 3, 2, products[0]);
        for (int k = 1; k < products.length; k++) {
            is("adds", write(x, products[k]).adds(), k + 1);
        }
        return x;
    }

    static void over() {
        System.out.println(asked + " answers, " + wrong + " not as due");
        if (wrong > 0) {
            System.exit(1);
        }
    }

    private Due() {
    }
}
