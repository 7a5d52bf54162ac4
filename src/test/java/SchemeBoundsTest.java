/** The boundary cases of promises 1 to 13, sentence by sentence. */
public final class SchemeBoundsTest {
    private static final int[] SIZES_REFUSED = {0, 4, -1, Integer.MIN_VALUE, Integer.MAX_VALUE};

    public static void main(String[] args) {
        newObject();
        formatSizes();
        formatRefused();
        formatForgets();
        signBytes();
        signFull();
        end();
        schemeCounts();
        schemeSigns();
        schemeTerms();
        schemeLines();
        schemeEndsTooEarly();
        schemeReplaces();
        adds();
        drops();
        forms();
        numbers();
        checks();
        checksInOrder();
        given();
        multiplies();
        multipliesFaults();
        sums();
        Bounds.over(1, 13);
    }

    // ---- promise 1

    private static void newObject() {
        Bounds.says(1, "n, m, p, q 2; PLAIN.");
        FewProducts x = new FewProducts();
        for (int what = 0; what < 4; what++) {
            Bounds.is("count " + what, x.count(what), 2);
        }
        Bounds.forms("plain", x, 1, 1, 1, 1, 2, 4, 2, 4, 1, 2, 8, 4, 4, 1, 2, 4, 2, 8, 8, 4, 2, 8, 8, 8);
        Bounds.says(1, "at first it has none");
        Bounds.row("the row", x);
        Bounds.is("no sign is there", x.count(7), 0);
        Bounds.is("nothing is kept", x.count(5), FewProducts.NONE);
        Bounds.is("nothing is kept: others", x.others(), -2);
        Bounds.is("nothing is kept: unlikes", x.unlikes(), -2);
        Bounds.is("nothing is kept: back", x.back(), -2);
        x.format(1, 1, 1, 3);
        x.keeps();
        x.sums();
        x.sign(0);
        FewProducts y = new FewProducts();
        Bounds.is("another object is new", y.count(4), 8);
        Bounds.is("another object is new", y.count(5), -1);
        Bounds.is("another object is new", y.count(7), 0);
        Bounds.row("another object is new", y);
    }

    // ---- promise 2

    private static void formatSizes() {
        Bounds.says(2, "n, m, p 1 .. 3");
        for (int k = 0; k < 54; k++) {
            int n = 1 + k % 3;
            int m = 1 + k / 3 % 3;
            int p = 1 + k / 9 % 3;
            int q = 2 + k / 27;
            FewProducts x = new FewProducts();
            Bounds.is("taken", x.format(n, m, p, q), n * m * p);
            Bounds.is("n", x.count(0), n);
            Bounds.is("m", x.count(1), m);
            Bounds.is("p", x.count(2), p);
            Bounds.is("q", x.count(3), q);
            Bounds.is("plain is right", x.checks(), 0);
            Bounds.is("plain has ones alone", x.count(13), n * m * p);
        }
        Bounds.says(2, "n, m, p, q are these, the SCHEME is PLAIN");
        FewProducts x = new FewProducts();
        x.format(1, 3, 2, 2);
        Bounds.forms("1 3 2", x, 1, 1, 1, 1, 2, 2, 2, 4, 1, 2, 8, 2, 4, 16, 1, 4, 32, 2);
        x.format(2, 1, 1, 3);
        Bounds.forms("2 1 1, in place of more", x, 1, 1, 1, 3, 1, 3);
        x.format(1, 1, 1, 2);
        Bounds.forms("the smallest", x, 1, 1, 1);
        x.format(3, 3, 3, 3);
        Bounds.is("the largest, last of a", x.form(26, 0), 6561);
        Bounds.is("the largest, last of b", x.form(26, 1), 6561);
        Bounds.is("the largest, last of c", x.form(26, 2), 6561);
    }

    private static void formatRefused() {
        Bounds.says(2, "NONE: no such ones.");
        for (int v : SIZES_REFUSED) {
            Bounds.refused("n " + v, Bounds::rich, x -> x.format(v, 3, 1, 2), -1);
            Bounds.refused("m " + v, Bounds::rich, x -> x.format(1, v, 3, 2), -1);
            Bounds.refused("p " + v, Bounds::rich, x -> x.format(3, 1, v, 2), -1);
            Bounds.refused("all " + v, Bounds::full, x -> x.format(v, v, v, v), -1);
        }
        Bounds.says(2, "FIELD: q, 2 or 3");
        for (int v : new int[] {0, 1, 4, -1, -2, Integer.MIN_VALUE, Integer.MAX_VALUE}) {
            Bounds.refused("q " + v, Bounds::rich, x -> x.format(2, 3, 2, v), -1);
        }
    }

    private static void formatForgets() {
        Bounds.says(2, "nothing is KEPT");
        FewProducts x = Bounds.rich();
        Bounds.is("five are kept", x.count(5), 5);
        Bounds.is("the same n, m, p, q", x.format(2, 3, 2, 3), 12);
        Bounds.is("count 5", x.count(5), -1);
        Bounds.is("others", x.others(), -2);
        Bounds.is("unlikes", x.unlikes(), -2);
        Bounds.is("back", x.back(), -2);
        Bounds.says(2, "The ROW stays with each answer below 0, and with calls that do not tell of it.");
        Bounds.row("the row", x, 2, 0, 0);
        Bounds.says(2, "change nothing but THE TEXT, which a call that can read it empties");
        Bounds.is("format can't: the text stays", x.adds(), 13);
    }

    // ---- promises 3 and 4

    private static void signBytes() {
        Bounds.says(3, "of v the highest byte first");
        FewProducts x = new FewProducts();
        x.sign(0x6131312a);
        x.sign(0x6231312a);
        x.sign(0x6331310a);
        x.end(11);
        Bounds.is("a11*b11*c11", x.adds(), 9);
        for (int k = 0; k < 4; k++) {
            FewProducts y = new FewProducts();
            y.sign(0x6131312a ^ 0x80 << 24 - 8 * k);
            Bounds.is("a sign above 127 is another one, place " + k, y.adds(), -21 - k);
        }
        FewProducts y = new FewProducts();
        Bounds.is("least v", y.sign(Integer.MIN_VALUE), 4);
        Bounds.is("most v", y.sign(Integer.MAX_VALUE), 8);
        Bounds.is("0", y.sign(0), 12);
        Bounds.is("-1", y.sign(-1), 16);
        Bounds.says(3, "Four signs come behind THE TEXT");
        Due.write(y, "a11*b1");
        Bounds.is("six and four", y.sign(0x312a6331), 10);
        Bounds.is("ten and four", y.sign(0x31000000), 14);
        y.end(11);
        Bounds.is("all together", y.adds(), 9);
        Bounds.is("a text that was read is empty: it starts again", y.sign(0), 4);
    }

    /** A right scheme of 33 products in 395 .. 400 signs, a - or a term for each that is wanted more. */
    private static String long33(int signs) {
        String first = signs == 395 ? "" : signs == 399 ? "a12+" : signs == 400 ? "-a12+" : "-";
        String second = signs == 397 || signs == 398 ? "-" : "";
        String third = signs == 398 ? "-" : "";
        return first + "a11*" + second + "b11*" + third + "c11;" + Bounds.times(Bounds.ONE, 32);
    }

    private static void signFull() {
        Bounds.says(3, "Refused: there would be more than 400.");
        FewProducts x = new FewProducts();
        for (int k = 1; k <= 100; k++) {
            Bounds.is("how many it has", x.sign(k), 4 * k);
        }
        Bounds.is("400 and 4", x.sign(0), -1);
        for (int signs = 395; signs <= 400; signs++) {
            String text = long33(signs);
            Bounds.is("the test's own text", text.length(), signs);
            FewProducts y = Due.write(new FewProducts(), text);
            Bounds.is(signs + " and 4", y.sign(0x78787878), signs > 396 ? -1 : signs + 4);
            Bounds.is(signs + ": as many signs", y.count(7), signs > 396 ? signs : signs + 4);
            y.end(signs);
            Bounds.is(signs + ": the signs are the same", y.scheme(), 33);
            Bounds.is(signs + ": it starts again", y.sign(0), 4);
        }
        Bounds.refused("a full text", () -> fullText(), y -> y.sign(5), -1);
    }

    private static FewProducts fullText() {
        FewProducts x = Bounds.rich();
        for (int k = 3; k < 100; k++) {
            x.sign(0);
        }
        x.sign(0);
        Due.is("400 signs", x.count(7) > 396, true);
        return x;
    }

    private static void end() {
        Bounds.says(4, "THE TEXT has its first n signs alone: true");
        FewProducts x = new FewProducts();
        Bounds.is("0 of none", x.end(0), true);
        Bounds.is("0 of none", x.count(7), 0);
        Due.write(x, Bounds.ONE + "*");
        Bounds.is("all of them", x.end(12), true);
        Bounds.is("all of them", x.count(7), 12);
        Bounds.is("but one", x.end(11), true);
        Bounds.is("but one", x.count(7), 11);
        Bounds.is("the first ones", x.adds(), 9);
        Due.write(x, Bounds.ONE);
        Bounds.is("none of them", x.end(0), true);
        Bounds.is("none of them", x.count(7), 0);
        Bounds.is("nothing is left to read", x.adds(), -21);
        for (int k = 0; k < 100; k++) {
            x.sign(0x61313161);
        }
        Bounds.is("all of 400", x.end(400), true);
        Bounds.is("399 of 400", x.end(399), true);
        Bounds.is("399 of 400", x.count(7), 399);
        Bounds.is("1", x.end(1), true);
        Bounds.is("1: a", x.adds(), -22);
        Bounds.says(4, "false if it has not so many, or n is below 0");
        Bounds.refused("1 of none", FewProducts::new, y -> y.end(1) ? 1 : 0, 0);
        for (int n : new int[] {-1, -12, 13, 400, Integer.MIN_VALUE, Integer.MAX_VALUE}) {
            Bounds.refused(n + " of 12", Bounds::rich, y -> y.end(n) ? 1 : 0, 0);
        }
        Bounds.refused("-1 of none", FewProducts::new, y -> y.end(-1) ? 1 : 0, 0);
        Bounds.is("a sign that is cut off is gone", Bounds.rich().end(11), true);
        FewProducts y = Bounds.rich();
        y.end(11);
        Bounds.is("a sign that is cut off is gone", y.end(12), false);
    }

    // ---- promise 5

    private static void schemeFault(String text, int place) {
        Bounds.refusedText("a fault", Bounds::rich, text, x -> x.scheme(), -21 - place);
    }

    private static void schemeCounts() {
        Bounds.says(5, "1 .. 40 PRODUCTS with ; between");
        schemeFault("", 0);
        schemeFault(";", 0);
        schemeFault(";" + Bounds.ONE, 0);
        schemeFault(Bounds.ONE + ";", 12);
        schemeFault(Bounds.ONE + ";;" + Bounds.ONE, 12);
        schemeFault(Bounds.ONE + "," + Bounds.ONE, 11);
        schemeFault(Bounds.ONE + Bounds.ONE, 11);
        for (int many : new int[] {1, 2, 32, 33}) {
            FewProducts x = Due.write(new FewProducts(), Bounds.times(Bounds.ONE, many));
            Bounds.is(many + " products", x.scheme(), many);
            Bounds.is(many + " products", x.count(4), many);
        }
        // 34 products, and so a 41st, take more than the 400 signs of a text; this one is cut off in the 34th
        String longest = Bounds.times(Bounds.ONE, 34).substring(0, 400);
        Bounds.refusedText("the 34th is cut off", Bounds::rich, longest, x -> x.scheme(), -21 - 400);
        Bounds.refusedText("400 signs, the last a fault", Bounds::rich, long33(399) + ".", x -> x.scheme(), -21 - 399);
    }

    /** At each place of a text all 256 signs: those that can stand there, and no others, are taken. */
    private static void schemeSigns() {
        Bounds.says(5, "the first sign with which no text as told can begin so far");
        String text = "-a32+a11*b21*c13;a12*-b11*c12-c11";
        String[] can = {"-a", "a", "123", "12", "+-*", "a", "123", "12", "+-*", "-b", "12", "1", "+-*", "-c", "1", "123",
            "+-;", "-a", "123", "12", "+-*", "-b", "b", "12", "1", "+-*", "-c", "1", "123", "+-;", "c", "1", "13"};
        for (int k = 0; k < text.length(); k++) {
            for (char c = 0; c < 256; c++) {
                FewProducts x = Due.write(Due.made(3, 2, 1, 3), text.substring(0, k) + c);
                boolean stands = can[k].indexOf(c) >= 0;
                int products = k == 15 ? 1 : k == 28 || k == 32 ? 2 : 0;
                long due = !stands ? -21 - k : products > 0 ? products : -22 - k;
                Bounds.is("sign " + (int) c + " behind " + text.substring(0, k), x.scheme(), due);
            }
        }
    }

    private static void schemeTerms() {
        Bounds.says(5, "each FORM * FORM * FORM, of TABLES 0, 1, 2");
        schemeFault("a11", 3);
        schemeFault("a11*b11", 7);
        schemeFault("a11*b11;", 7);
        schemeFault(Bounds.ONE + "*", 11);
        schemeFault(Bounds.ONE + "*a11", 11);
        schemeFault("b11*a11*c11", 0);
        schemeFault("a11*c11*b11", 4);
        schemeFault("a11*b11*a11", 8);
        schemeFault("a11**c11", 4);
        schemeFault("*b11*c11", 0);
        Bounds.says(5, "all without blanks");
        schemeFault(" " + Bounds.ONE, 0);
        schemeFault("a11 *b11*c11", 3);
        schemeFault("a11* b11*c11", 4);
        schemeFault("a 11*b11*c11", 1);
        schemeFault(Bounds.ONE + " ", 11);
        schemeFault(Bounds.ONE + "; " + Bounds.ONE, 12);
        Bounds.says(5, "TERMS with + or - between, a - ahead of the first one or not");
        schemeFault("+" + Bounds.ONE, 0);
        schemeFault("--" + Bounds.ONE, 1);
        schemeFault("a11+-a12*b11*c11", 4);
        schemeFault("a11-+a12*b11*c11", 4);
        schemeFault("a11--a12*b11*c11", 4);
        schemeFault("a11a12*b11*c11", 3);
        schemeFault("a11+*b11*c11", 4);
        schemeFault("a11-*b11*c11", 4);
        schemeFault("a11+b12*b11*c11", 4);
        Bounds.says(5, "1 there, q - 1 behind a -");
        for (int q = 2; q <= 3; q++) {
            FewProducts x = Due.made(1, 3, 1, q, "-a11+a12-a13*b11-b21+b31*-c11");
            Bounds.forms("q " + q, x, q - 1 + q + (q - 1) * q * q, 1 + (q - 1) * q + q * q, q - 1);
        }
        Bounds.says(5, "each at most once in a FORM");
        Bounds.forms("each of nine once", Due.made(3, 3, 3, 2, Bounds.whole(3, 3, 3)), 511, 511, 511);
        Bounds.forms("again in another form, another product",
            Due.made(3, 3, 3, 2, "a12*b12*c12;a12+a11*b12*c12+c11"), 2, 2, 2, 3, 2, 3);
    }

    private static void schemeLines() {
        Bounds.says(5, "a row, a column that is not there: it");
        for (int k = 0; k < 27; k++) {
            int[] size = {1 + k % 3, 1 + k / 3 % 3, 1 + k / 9};
            for (int t = 0; t < 3; t++) {
                String ahead = Bounds.ONE.substring(0, 4 * t);
                String behind = Bounds.ONE.substring(4 * t + 3);
                String letter = Bounds.ONE.substring(4 * t, 4 * t + 1);
                int rows = size[t];
                int columns = size[(t + 1) % 3];
                for (int line = 0; line <= 9; line++) {
                    FewProducts x = Due.write(Due.made(size[0], size[1], size[2], 2), ahead + letter + line + 1 + behind);
                    boolean isThere = line >= 1 && line <= rows;
                    Bounds.is("row " + line + " of " + rows, x.scheme(), isThere ? 1 : -22 - 4 * t);
                    x = Due.write(Due.made(size[0], size[1], size[2], 2), ahead + letter + 1 + line + behind);
                    isThere = line >= 1 && line <= columns;
                    Bounds.is("column " + line + " of " + columns, x.scheme(), isThere ? 1 : -23 - 4 * t);
                }
            }
        }
        Bounds.says(5, "a TERM told again: its column");
        schemeFault("a11+a11*b11*c11", 6);
        schemeFault("a11-a11*b11*c11", 6);
        schemeFault("-a11-a11*b11*c11", 7);
        schemeFault("a23+a11-a23*b11*c11", 10);
        schemeFault("a11*b32-b31+b32*c11", 14);
        schemeFault("a11*b11*c22+c22", 14);
        schemeFault(Bounds.ONE + ";a12*b12*c12+c12", 12 + 14);
        schemeFault("a11+a12+a13+a21+a22+a23+a13*b11*c11", 26);
        Bounds.refusedText("the one place told again", () -> Due.made(1, 1, 1, 3), "a11+a11", x -> x.scheme(), -27);
    }

    private static void schemeEndsTooEarly() {
        Bounds.says(5, "p is the number of its signs, if it ends too early");
        String text = "-a11+a23*b12-b31*-c21;a13*b22*c22+c11;a11*b11*c11";
        for (int signs = 0; signs <= text.length(); signs++) {
            boolean isWhole = signs == 21 || signs == 33 || signs == 37 || signs == text.length();
            if (isWhole) {
                FewProducts x = Due.write(Bounds.rich(), text.substring(0, signs));
                Bounds.is("products in " + signs, x.scheme(), signs == 21 ? 1 : signs < 40 ? 2 : 3);
            } else {
                schemeFault(text.substring(0, signs), signs);
            }
        }
    }

    private static void schemeReplaces() {
        Bounds.says(5, "THE TEXT is the SCHEME, in place of the one there was");
        FewProducts x = Bounds.full();
        Due.write(x, "a21*b12*c21");
        Bounds.is("one for forty", x.scheme(), 1);
        Bounds.forms("one for forty", x, 2, 2, 4);
        Bounds.is("what is kept stays", x.count(5), 1);
        x = Bounds.ones(2, 2, 2, 3, 0);
        Due.write(x, "a21*b12*c21;a22*b22*-c22");
        Bounds.is("two for none", x.scheme(), 2);
        Bounds.forms("two for none", x, 9, 3, 9, 27, 27, 54);
        Bounds.says(5, "THE TEXT, which a call that can read it empties, whatever it answers");
        Bounds.is("it was read", x.count(7), 0);
        Bounds.is("it was read: again", x.scheme(), -21);
        Bounds.is("it was read: adds", x.adds(), -21);
        Bounds.says(5, "The ROW stays with each answer below 0, and with calls that do not tell of it.");
        x = Bounds.rich();
        Bounds.is("read", x.scheme(), 1);
        Bounds.row("read", x, 2, 0, 0);
    }

    // ---- promises 6 to 9

    private static void adds() {
        Bounds.says(6, "THE TEXT is one PRODUCT, told likewise");
        String[] texts = {"", "a", "a11", "a11*b11*", Bounds.ONE + ";", Bounds.ONE + ";" + Bounds.ONE, Bounds.ONE + "*",
            Bounds.ONE + " ", "b11", "a31", "a14", "a11+a11", "a11*b41", "a11*b13", "a11*b11*c31", "a11*b11*c13"};
        int[] places = {0, 1, 3, 8, 11, 11, 11, 11, 0, 1, 2, 6, 5, 6, 9, 10};
        for (int k = 0; k < texts.length; k++) {
            int place = places[k];
            Bounds.refusedText("a fault", Bounds::rich, texts[k], x -> x.adds(), -21 - place);
        }
        Bounds.says(6, "it comes behind all others: how many");
        FewProducts x = Bounds.ones(2, 2, 2, 3, 0);
        Due.write(x, "-a21*b12*c21");
        Bounds.is("the first", x.adds(), 1);
        Bounds.forms("the first", x, 18, 3, 9);
        x = Bounds.ones(2, 1, 2, 2, 38);
        Due.write(x, "a21*b11*c21");
        Bounds.is("the 39th", x.adds(), 39);
        Due.write(x, "a21*b12*c22");
        Bounds.is("the 40th", x.adds(), 40);
        Bounds.is("the 38th", x.form(37, 0), 1);
        Bounds.is("the 39th", x.form(38, 2), 4);
        Bounds.is("the 40th", x.form(39, 2), 8);
        Bounds.is("the text is read", x.count(7), 0);
        Bounds.says(6, "-2: there are 40.");
        Bounds.refusedText("a 41st", Bounds::full, "a21*b12*c21", y -> y.adds(), -2);
        Bounds.says(6, "-21 - p comes first, then NONE, then the others as they are told");
        Bounds.refusedText("a fault, and 40", Bounds::full, "a21*b12*c2", y -> y.adds(), -31);
        Bounds.refusedText("none, and 40", Bounds::full, "", y -> y.adds(), -21);
        x = Bounds.full();
        x.drops(0);
        Bounds.is("40 again", x.adds(), 40);
    }

    private static void drops() {
        Bounds.says(7, "A PRODUCT goes: how many are left.");
        FewProducts x = Bounds.full();
        Bounds.is("the last of 40", x.drops(39), 39);
        Bounds.is("all that are left are ones", x.count(10), 1);
        x = Due.made(1, 3, 1, 2, "a11*b11*c11;a12*b21*c11;a13*b31*c11");
        Bounds.is("the first", x.drops(0), 2);
        Bounds.forms("those behind get a number less", x, 2, 2, 1, 4, 4, 1);
        Bounds.is("the last", x.drops(1), 1);
        Bounds.forms("the last", x, 2, 2, 1);
        Bounds.is("the only one", x.drops(0), 0);
        Bounds.forms("the only one", x);
        Bounds.says(7, "NONE: no such PRODUCT, TABLE, PLACE, too.");
        Bounds.refused("0 of none", Bounds::empty, y -> y.drops(0), -1);
        Bounds.refused("40 of 40", Bounds::full, y -> y.drops(40), -1);
        for (int i : new int[] {-1, 4, 5, Integer.MIN_VALUE, Integer.MAX_VALUE}) {
            Bounds.refused(i + " of 4", Bounds::rich, y -> y.drops(i), -1);
        }
    }

    private static void forms() {
        Bounds.says(8, "its CODE: the sum of NUMBER times q to the PLACE");
        String twos = Bounds.whole(3, 3, 3).replace("a", "-a").replace("b", "-b").replace("c", "-c").replace("+", "");
        Bounds.forms("the greatest over 3", Due.made(3, 3, 3, 3, twos), 19682, 19682, 19682);
        Bounds.forms("the greatest over 2", Due.made(3, 3, 3, 2, twos), 511, 511, 511);
        Bounds.forms("first and last", Due.made(3, 3, 3, 3, "a11*b33*-c33"), 1, 6561, 2 * 6561);
        FewProducts zero = Due.made(2, 1, 1, 3, "a21*b11*c12");
        zero.narrows(0, 2);
        Bounds.forms("0", zero, 0, 1, 0);
        Bounds.says(8, "NONE: no such PRODUCT, TABLE, PLACE, too.");
        Bounds.asks("the last", Bounds::full, x -> x.form(39, 2), 8);
        Bounds.refused("40 of 40", Bounds::full, x -> x.form(40, 2), -1);
        Bounds.refused("0 of none", Bounds::empty, x -> x.form(0, 0), -1);
        for (int v : Bounds.BELOW) {
            Bounds.refused("product " + v, Bounds::rich, x -> x.form(v, 0), -1);
            Bounds.refused("table " + v, Bounds::rich, x -> x.form(0, v), -1);
        }
        Bounds.refused("product 4 of 4", Bounds::rich, x -> x.form(4, 0), -1);
        Bounds.refused("table 3", Bounds::rich, x -> x.form(0, 3), -1);
        Bounds.refused("far", Bounds::rich, x -> x.form(Bounds.FAR, 0), -1);
        Bounds.refused("far", Bounds::rich, x -> x.form(0, Bounds.FAR), -1);
    }

    private static void numbers() {
        Bounds.says(9, "NUMBER of that FORM at a PLACE.");
        for (int k = 0; k < 27; k++) {
            int[] size = {1 + k % 3, 1 + k / 3 % 3, 1 + k / 9};
            FewProducts x = Due.made(size[0], size[1], size[2], 3);
            int last = size[0] * size[1] * size[2] - 1;
            for (int t = 0; t < 3; t++) {
                int places = size[t] * size[(t + 1) % 3];
                Bounds.is("first of all", x.number(0, t, 0), 1);
                Bounds.is("last of all", x.number(last, t, places - 1), 1);
                Bounds.is("one behind", x.number(last, t, places), -1);
                Bounds.is("one ahead", x.number(last, t, -1), -1);
            }
        }
        FewProducts x = Due.made(2, 2, 2, 3, "a11-a22*b11*c11");
        Bounds.is("0", x.number(0, 0, 1), 0);
        Bounds.is("1", x.number(0, 0, 0), 1);
        Bounds.is("2", x.number(0, 0, 3), 2);
        Bounds.says(9, "NONE: no such PRODUCT, TABLE, PLACE, too.");
        for (int v : new int[] {-1, 9, Integer.MIN_VALUE, Integer.MAX_VALUE}) {
            Bounds.refused("product " + v, Bounds::rich, y -> y.number(v, 0, 0), -1);
            Bounds.refused("table " + v, Bounds::rich, y -> y.number(0, v, 0), -1);
            Bounds.refused("place " + v, Bounds::rich, y -> y.number(0, 0, v), -1);
        }
        Bounds.refused("product 4 of 4", Bounds::rich, y -> y.number(4, 0, 0), -1);
        Bounds.refused("table 3", Bounds::rich, y -> y.number(0, 3, 0), -1);
        Bounds.refused("place 6 of 6", Bounds::rich, y -> y.number(0, 0, 6), -1);
        Bounds.refused("place 4 of 4", Bounds::rich, y -> y.number(0, 2, 4), -1);
        Bounds.refused("0 of none", Bounds::empty, y -> y.number(0, 0, 0), -1);
    }

    // ---- promises 10 and 11

    private static void checks() {
        Bounds.says(10, "(0: RIGHT)");
        FewProducts x = Due.made(1, 1, 1, 2);
        x.sums();
        Bounds.is("the smallest", x.checks(), 0);
        Bounds.row("none, if there is none", x);
        x = Bounds.ones(1, 1, 1, 2, 39);
        Bounds.is("39 modulo 2", x.checks(), 0);
        x = Bounds.ones(1, 1, 1, 3, 40);
        Bounds.is("40 modulo 3", x.checks(), 0);
        x = Bounds.ones(1, 1, 1, 2, 40);
        Bounds.is("40 modulo 2", x.checks(), 1);
        Bounds.row("40 modulo 2", x, 0, 0, 0, 0, 1);
        Bounds.asks("changes nothing else", Bounds::full, y -> y.checks(), 3);
        Bounds.says(10, "At how many PLACES x, y, z GIVEN is not NEEDED");
        x = Bounds.ones(3, 3, 3, 3, 0);
        Bounds.is("no product: all that are NEEDED", x.checks(), 27);
        Bounds.row("no product", x, 0, 0, 0, 0, 1);
        Due.write(x, twos(3, 3, 3));
        x.scheme();
        Bounds.is("2 everywhere", x.checks(), 729);
        Bounds.row("2 everywhere", x, 0, 0, 0, 2, 1);
        Bounds.is("of all FORMS", x.count(9), 27);
        for (int k = 0; k < 27; k++) {
            int n = 1 + k % 3;
            int m = 1 + k / 3 % 3;
            int p = 1 + k / 9;
            x = Due.made(n, m, p, 3, twos(n, m, p));
            Bounds.is("2 at all PLACES", x.checks(), n * m * m * p * p * n);
            Bounds.row("2 at all PLACES", x, 0, 0, 0, 2, 1);
        }
    }

    /** A product whose numbers are 2 at table 0, 1 at the others. */
    private static String twos(int n, int m, int p) {
        return "-" + Bounds.whole(n, m, p).replace("+a", "-a");
    }

    private static void checksInOrder() {
        Bounds.says(10, "the first such by x, then y, then z");
        FewProducts x = new FewProducts();
        for (String more : new String[] {"a22*b22*c22", "a12*b11*c11", "a11*b12*c11", "a11*b11*c12"}) {
            Due.write(x, more);
            x.adds();
        }
        Bounds.is("four", x.checks(), 4);
        Bounds.row("z is the last to go on", x, 0, 0, 1, 1, 0);
        x.drops(11);
        Bounds.is("three", x.checks(), 3);
        Bounds.row("then y", x, 0, 1, 0, 1, 0);
        x.drops(10);
        Bounds.is("two", x.checks(), 2);
        Bounds.row("then x", x, 1, 0, 0, 1, 0);
        x.drops(9);
        Bounds.is("the last PLACES alone", x.checks(), 1);
        Bounds.row("the last PLACES alone", x, 3, 3, 3, 0, 1);
        x = Due.made(3, 3, 3, 3);
        Due.write(x, "a33*b33*c33");
        x.adds();
        Bounds.is("the last PLACES of 3", x.checks(), 1);
        Bounds.row("the last PLACES of 3", x, 8, 8, 8, 2, 1);
    }

    private static void given() {
        Bounds.says(11, "all reckoned modulo q");
        int[] many = {0, 1, 2, 3, 39, 40};
        for (int q = 2; q <= 3; q++) {
            for (int products : many) {
                FewProducts x = Bounds.ones(1, 1, 1, q, products);
                Bounds.is(products + " modulo " + q, x.given(0, 0, 0), products % q);
                Bounds.row("all of them", x, 1, products);
            }
        }
        FewProducts x = Due.made(1, 1, 1, 3, "-a11*-b11*-c11");
        Bounds.is("8 modulo 3", x.given(0, 0, 0), 2);
        Bounds.says(11, "NEEDED there, in how many PRODUCTS none of the three NUMBERS is 0");
        Bounds.asks("given, not needed", Bounds::rich, y -> y.given(0, 0, 1), 0);
        x = Bounds.rich();
        Bounds.is("given, not needed", x.given(1, 1, 1), 1);
        Bounds.row("given, not needed", x, 0, 1);
        Bounds.is("needed, not given", x.given(2, 4, 0), 0);
        Bounds.row("needed, not given", x, 1, 0);
        Bounds.says(11, "NONE: no such PRODUCT, TABLE, PLACE, too.");
        for (int k = 0; k < 27; k++) {
            int n = 1 + k % 3;
            int m = 1 + k / 3 % 3;
            int p = 1 + k / 9;
            FewProducts y = Due.made(n, m, p, 2);
            Bounds.is("last of all", y.given(n * m - 1, m * p - 1, p * n - 1), 1);
            Bounds.is("x one behind", y.given(n * m, 0, 0), -1);
            Bounds.is("y one behind", y.given(0, m * p, 0), -1);
            Bounds.is("z one behind", y.given(0, 0, p * n), -1);
            Bounds.row("the row stays", y, 1, 1);
        }
        for (int v : new int[] {-1, 6, Integer.MIN_VALUE, Integer.MAX_VALUE}) {
            Bounds.refused("x " + v, Bounds::rich, y -> y.given(v, 0, 0), -1);
            Bounds.refused("y " + v, Bounds::rich, y -> y.given(0, v, 0), -1);
            Bounds.refused("z " + v, Bounds::rich, y -> y.given(0, 0, v), -1);
        }
        Bounds.refused("z 4 of 4", Bounds::rich, y -> y.given(0, 0, 4), -1);
    }

    // ---- promise 12

    private static void multiplies() {
        Bounds.says(12, "THE TEXT is two tables, of NUMBERS with , between (a digit each)");
        for (int k = 0; k < 54; k++) {
            int n = 1 + k % 3;
            int m = 1 + k / 3 % 3;
            int p = 1 + k / 9 % 3;
            int q = 2 + k / 27;
            String text = Bounds.times("1", n * m + m * p).replace(';', ',');
            for (int signs = 0; signs < text.length(); signs++) {
                FewProducts x = Due.write(Due.made(n, m, p, q), text.substring(0, signs));
                Bounds.is("ends too early", x.multiplies(), -21 - signs);
            }
            FewProducts x = Due.write(Due.made(n, m, p, q), text);
            Bounds.is("as many as there are", x.multiplies(), 0);
            long[] row = new long[p * n];
            java.util.Arrays.fill(row, m % q);
            Bounds.row("what comes, by PLACES", x, row);
            Bounds.is("the text is emptied", x.count(7), 0);
            Due.write(x, text + ",1");
            Bounds.is("too many: the , ahead", x.multiplies(), -21 - text.length());
            Due.write(x, text + ",");
            Bounds.is("too many: the , ahead", x.multiplies(), -21 - text.length());
        }
        Bounds.says(12, "at how many PLACES of TABLE 2 it is not what the two tables multiplied give");
        FewProducts x = Bounds.ones(2, 2, 2, 3, 0);
        Due.write(x, "1,1,2,2,1,2,0,1");
        // 1 3, 2 6: by columns of the tables multiplied, of 3, 6 modulo 3 nothing is missing
        Bounds.is("no product", x.multiplies(), 2);
        Bounds.row("no product", x, 0, 0, 0, 0);
        x = Due.made(1, 2, 3, 3);
        Due.write(x, "1,2,1,2,0,0,1,1");
        Bounds.is("1 2 3", x.multiplies(), 0);
        Bounds.row("1 2 3: 1, 2 + 2, 2", x, 1, 1, 2);
        Due.write(x, "1,2,1,2,0,0,1,1");
        x.drops(3);
        Bounds.is("1 2 3, without a12 b21 c11", x.multiplies(), 0);
        x.drops(3);
        Due.write(x, "1,2,1,2,0,0,1,1");
        Bounds.is("1 2 3, without a12 b22 c21", x.multiplies(), 1);
        Bounds.row("1 2 3, without a12 b22 c21", x, 1, 2, 2);
        x = Due.made(3, 2, 1, 2);
        Due.write(x, "1,0,0,1,1,1,1,0");
        Bounds.is("3 2 1", x.multiplies(), 0);
        Bounds.row("3 2 1", x, 1, 0, 1);
        x = Due.made(2, 2, 2, 2);
        Due.write(x, "0,0,0,0,0,0,0,0");
        Bounds.is("all 0", x.multiplies(), 0);
        Bounds.row("all 0", x, 0, 0, 0, 0);
        x = Bounds.ones(1, 1, 1, 2, 40);
        Due.write(x, "1,1");
        Bounds.is("40 modulo 2", x.multiplies(), 1);
        Bounds.row("40 modulo 2", x, 0);
        x = Due.made(3, 3, 3, 3);
        Due.write(x, "2,2,2,2,2,2,2,2,2,1,1,1,1,1,1,1,1,1");
        Bounds.is("the largest", x.multiplies(), 0);
        Bounds.row("6 modulo 3", x, 0, 0, 0, 0, 0, 0, 0, 0, 0);
    }

    private static void multipliesFault(String text, int place) {
        Bounds.refusedText("a fault", Bounds::rich, text, x -> x.multiplies(), -21 - place);
    }

    private static void multipliesFaults() {
        Bounds.says(12, "a digit that is q or more");
        for (int q = 2; q <= 3; q++) {
            for (char c = 0; c < 256; c++) {
                boolean isNumber = c >= '0' && c < '0' + q;
                FewProducts x = Due.write(Due.made(1, 1, 1, q), c + ",1");
                Bounds.is("sign " + (int) c + " first", x.multiplies(), isNumber ? 0 : -21);
                x = Due.write(Due.made(1, 1, 1, q), "1," + c);
                Bounds.is("sign " + (int) c + " last", x.multiplies(), isNumber ? 0 : -23);
                x = Due.write(Due.made(1, 1, 1, q), "1" + c + "1");
                Bounds.is("sign " + (int) c + " between", x.multiplies(), c == ',' ? 0 : -22);
                x = Due.write(Due.made(1, 1, 1, q), "1,1" + c);
                Bounds.is("sign " + (int) c + " behind", x.multiplies(), -24);
            }
        }
        Bounds.says(12, "which a call that can read it empties, whatever it answers");
        multipliesFault("", 0);
        multipliesFault("-1", 0);
        multipliesFault("1;1", 1);
        multipliesFault("1,,1", 2);
        multipliesFault("1,1,1,3", 6);
        multipliesFault("1,2,0,1,2,0,1,2,0,1,2,01", 23);
        multipliesFault("1,2,0,1,2,0,1,2,0,1,2,0,", 23);
        multipliesFault("1,2,0,1,2,0,1,2,0,1,2,0,1", 23);
        multipliesFault("1,2,0,1,2,0,1,2,0,1,2,0;", 23);
        multipliesFault("1,2,0,1,2,0,1,2,0,1,2,3", 22);
        Bounds.refusedText("400 signs", Bounds::rich, "1".repeat(400), x -> x.multiplies(), -22);
    }

    // ---- promise 13

    private static void sums() {
        Bounds.says(13, "less 1 (0, if none is)");
        FewProducts x = Due.made(1, 1, 1, 3);
        Bounds.is("one each", x.sums(), 0);
        Bounds.row("one each", x, 0, 0, 0);
        x = Bounds.ones(3, 3, 3, 2, 0);
        Bounds.is("no product", x.sums(), 0);
        Bounds.row("no product", x, 0, 0, 0);
        x = Due.made(2, 2, 2, 3, "a11-a12*b11+b21*c11;a11-a12*b21-b22*c11;a11*b11*c12");
        Bounds.is("two each", x.sums(), 2 + 2 + 1);
        Bounds.row("two each", x, 2, 2, 1);
        x.narrows(1, 1);
        // a12, a12, 0; b21, b21 - b22, 0: none below 0
        Bounds.is("none of a FORM", x.sums(), 2);
        Bounds.row("none of a FORM", x, 0, 1, 1);
        x = Bounds.ones(1, 1, 2, 2, 40);
        Bounds.is("40 at a PLACE of TABLE 2, none at the other", x.sums(), 39);
        Bounds.row("40 at a PLACE of TABLE 2", x, 0, 0, 39);
        for (int k = 0; k < 27; k++) {
            int n = 1 + k % 3;
            int m = 1 + k / 3 % 3;
            int p = 1 + k / 9;
            x = Due.made(n, m, p, 2, Bounds.whole(n, m, p) + ";" + Bounds.whole(n, m, p));
            x.sums();
            Bounds.row("all PLACES, twice", x, 2 * (n * m - 1), 2 * (m * p - 1), p * n);
        }
        String all = Bounds.whole(3, 3, 3);
        x = Due.made(3, 3, 3, 3, all + ";" + all + ";" + all);
        Bounds.is("nine each", x.sums(), 3 * 8 + 3 * 8 + 9 * 2);
        Bounds.row("nine each", x, 24, 24, 18);
        Bounds.asks("changes nothing else", Bounds::rich, y -> y.sums(), 3);
    }

    private SchemeBoundsTest() {
    }
}
