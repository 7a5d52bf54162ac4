/** The boundary cases of promises 14 to 24, sentence by sentence. */
public final class FlipsBoundsTest {
    private static final int[] NO_PRODUCT = {-1, 4, Integer.MIN_VALUE, Integer.MAX_VALUE};
    private static final int[] NO_TABLE = {-1, 3, Integer.MIN_VALUE, Integer.MAX_VALUE};
    private static final long MODULUS = 2147483647L;

    public static void main(String[] args) {
        like();
        flips();
        flip();
        flipRefused();
        joins();
        joinsZeros();
        sheds();
        shedsZeros();
        splits();
        splitsRefused();
        plus();
        plusRefused();
        scales();
        narrows();
        narrowsRefused();
        widens();
        widensRefused();
        walksTaken();
        walksRefused();
        walksWithoutFlips();
        Bounds.over(14, 24);
    }

    // ---- promises 14 to 16

    private static void like() {
        Bounds.says(14, "if neither is 0 and the second is f times the first, f 1 .. q - 1");
        FewProducts x = Due.made(1, 2, 1, 3, "a11-a12*b11*c11;-a11+a12*b21*-c11;a11+a12*b11*c11");
        Bounds.is("by 1", x.like(0, 2, 1), 1);
        Bounds.is("by 2", x.like(0, 1, 0), 2);
        Bounds.is("by 2, the other way", x.like(1, 0, 0), 2);
        Bounds.is("itself", x.like(2, 2, 0), 1);
        Bounds.says(14, "-2: they are not.");
        Bounds.asks("other ones", Bounds::rich, y -> y.like(0, 2, 0), -2);
        x.narrows(1, 1);
        Bounds.is("0 and 0", x.like(0, 2, 1), -2);
        Bounds.is("0 and itself", x.like(0, 0, 1), -2);
        Bounds.is("0 and another", x.like(0, 1, 1), -2);
        Bounds.is("another and 0", x.like(1, 0, 1), -2);
        Bounds.says(14, "NONE: no such PRODUCT, TABLE, PLACE, too.");
        for (int v : NO_PRODUCT) {
            Bounds.refused("i " + v, Bounds::rich, y -> y.like(v, 0, 0), -1);
            Bounds.refused("j " + v, Bounds::rich, y -> y.like(0, v, 0), -1);
            Bounds.refused("i, j " + v, Bounds::rich, y -> y.like(v, v, 0), -1);
        }
        for (int v : NO_TABLE) {
            Bounds.refused("table " + v, Bounds::rich, y -> y.like(0, 1, v), -1);
        }
        Bounds.asks("the last ones", Bounds::rich, y -> y.like(3, 3, 2), 1);
        Bounds.refused("0 of none", Bounds::empty, y -> y.like(0, 0, 0), -1);
    }

    private static void flips() {
        Bounds.says(15, "How many FLIPS there are (i, j, w)");
        FewProducts x = Bounds.ones(1, 1, 1, 3, 0);
        Bounds.is("no product", x.flips(), 0);
        Bounds.row("no product", x, 0, 0, 0);
        x = Bounds.ones(1, 1, 1, 3, 1);
        Bounds.is("a PRODUCT with itself is none", x.flips(), 0);
        Bounds.row("a PRODUCT with itself is none", x, 0, 0, 0);
        x = Bounds.ones(1, 1, 1, 3, 2);
        Bounds.is("i, j and j, i", x.flips(), 6);
        Bounds.row("i, j and j, i", x, 2, 2, 2);
        x = Due.made(2, 2, 2, 3, "a11*b11*c11;-a11*b11*c11;a12*-b11*c11;a21*b12*-c11");
        Bounds.is("of TABLE 0, of 1, of 2", x.flips(), 20);
        Bounds.row("of TABLE 0, of 1, of 2", x, 2, 6, 12);
        x = Bounds.ones(1, 1, 1, 2, 40);
        Bounds.is("all of 40", x.flips(), 3 * 40 * 39);
        Bounds.row("all of 40", x, 40 * 39, 40 * 39, 40 * 39);
        x = Due.made(2, 1, 1, 3, "a21*b11*c11;a21*b11*c11");
        x.narrows(0, 2);
        Bounds.is("FORMS that are 0 are not LIKE", x.flips(), 4);
        Bounds.row("FORMS that are 0 are not LIKE", x, 0, 2, 2);
        Bounds.asks("changes nothing else", Bounds::rich, y -> y.flips(), 2);
    }

    private static void flip() {
        Bounds.says(16, "u, v are the TABLES behind w, round (0, 1, 2, 0, 1)");
        FewProducts x = Due.made(2, 2, 2, 3, "a11*b11*c11;-a11*b22*c22");
        Bounds.is("w 0: u 1, v 2", x.flip(0, 1, 0), 0);
        Bounds.forms("w 0", x, 1, 1 + 54, 1, 1, 54, 27 + 2);
        x = Due.made(2, 2, 2, 3, "a11*b11*c11;a22*-b11*c22");
        Bounds.is("w 1: u 2, v 0", x.flip(0, 1, 1), 0);
        Bounds.forms("w 1", x, 1, 1, 1 + 54, 27 + 2, 1, 54);
        x = Due.made(2, 2, 2, 3, "a11*b11*c11;a22*b22*-c11");
        Bounds.is("w 2: u 0, v 1", x.flip(0, 1, 2), 0);
        Bounds.forms("w 2", x, 1 + 54, 1, 1, 54, 27 + 2, 1);
        x = Due.made(2, 2, 2, 3, "a11*b11*c11;a22*b22*-c11;a12*b12*c12");
        Bounds.is("the second with the first", x.flip(1, 0, 2), 0);
        Bounds.forms("all others stay", x, 2, 1 + 54, 2, 27 + 2, 27, 2, 3, 3, 3);
        Bounds.says(16, "how many PRODUCTS have a FORM that is 0 then");
        x = Due.made(1, 1, 1, 2, "a11*b11*c11;a11*b11*c11");
        Bounds.is("two of two", x.flip(0, 1, 0), 2);
        Bounds.forms("two of two", x, 1, 0, 1, 1, 1, 0);
        x = Due.made(2, 1, 1, 3, "a11*b11*c11;a11*b11*c12;a21*b11*c11");
        x.narrows(0, 2);
        Bounds.is("c of 1 had 0 and has it no more, a of 2 stays", x.flip(0, 1, 0), 1);
        Bounds.forms("c of 1 had 0 and has it no more", x, 1, 2, 1, 1, 1, 2, 0, 1, 1);
        x = Due.made(2, 1, 1, 2, "a11*b11*c11;a11*b11*c11;a21*b11*c11");
        x.narrows(0, 2);
        Bounds.is("those that had it count, too", x.flip(0, 1, 0), 3);
    }

    private static void flipRefused() {
        Bounds.says(16, "-2: i and j are one");
        for (int i = 0; i < 4; i++) {
            int one = i;
            Bounds.refused("i, j " + i, Bounds::rich, x -> x.flip(one, one, 0), -2);
        }
        FewProducts zero = Due.made(2, 1, 1, 2);
        zero.narrows(0, 1);
        Bounds.is("one that has 0 there", zero.flip(0, 0, 0), -2);
        Bounds.says(16, "-3: they are not LIKE there.");
        Bounds.refused("others", Bounds::rich, x -> x.flip(0, 2, 0), -3);
        Bounds.refused("LIKE at another TABLE alone", Bounds::rich, x -> x.flip(0, 1, 1), -3);
        Bounds.is("one that is 0", zero.flip(0, 1, 0), -3);
        Bounds.is("one that is 0, the other way", zero.flip(1, 0, 0), -3);
        FewProducts zeros = Due.made(2, 1, 1, 2, "a21*b11*c11;a21*b11*c12");
        zeros.narrows(0, 2);
        Bounds.is("two that are 0", zeros.flip(0, 1, 0), -3);
        Bounds.says(16, "-21 - p comes first, then NONE, then the others as they are told");
        for (int v : NO_PRODUCT) {
            Bounds.refused("i " + v, Bounds::rich, x -> x.flip(v, 0, 0), -1);
            Bounds.refused("j " + v, Bounds::rich, x -> x.flip(0, v, 0), -1);
            Bounds.refused("i, j " + v, Bounds::rich, x -> x.flip(v, v, 0), -1);
        }
        for (int v : NO_TABLE) {
            Bounds.refused("table " + v, Bounds::rich, x -> x.flip(0, 1, v), -1);
            Bounds.refused("table " + v + ", i and j one", Bounds::rich, x -> x.flip(1, 1, v), -1);
            Bounds.refused("table " + v + ", not LIKE", Bounds::rich, x -> x.flip(0, 2, v), -1);
        }
        Bounds.refused("0 of none", Bounds::empty, x -> x.flip(0, 0, 0), -1);
    }

    // ---- promises 17 and 18

    private static void joins() {
        Bounds.says(17, "JOINED: how many went; the ROW: how many of these by 1, by 2.");
        FewProducts x = Bounds.ones(1, 1, 1, 3, 0);
        Bounds.is("no product", x.joins(), 0);
        Bounds.row("no product", x, 0, 0);
        x = Bounds.ones(1, 1, 1, 3, 1);
        Bounds.is("one product", x.joins(), 0);
        Bounds.row("one product", x, 0, 0);
        Bounds.forms("one product", x, 1, 1, 1);
        Bounds.refused("nothing can be joined: then a ROW alone", () -> joinedRich(), y -> y.joins(), 0);
        Bounds.says(17, "as long as can be, the first of these");
        x = Bounds.ones(1, 1, 1, 2, 40);
        Bounds.is("all of 40 go", x.joins(), 40);
        Bounds.row("all of 40 go", x, 20, 20);
        x = Bounds.ones(1, 1, 1, 3, 40);
        // two make one by 2, three make one that is 0: of 40 one is left
        Bounds.is("39 of 40 go", x.joins(), 39);
        Bounds.row("39 of 40 go", x, 13, 26);
        Bounds.forms("one is left", x, 1, 1, 1);
        x = Due.made(1, 3, 1, 2, "a11*b11*c11;a12*b11*c11;a13*b11*c11;a11*b21*c11;a11*b31*c11");
        Bounds.is("a chain", x.joins(), 3);
        Bounds.row("a chain", x, 0, 3);
        Bounds.forms("a chain", x, 7, 1, 1, 1, 6, 1);
        Bounds.is("the count starts again", x.joins(), 0);
        Bounds.row("the count starts again", x, 0, 0);
        Due.write(x, "-a11-a12-a13*b11*c11");
        x.adds();
        Bounds.is("then two go over 2", x.joins(), 2);
        Bounds.row("then two go over 2", x, 1, 1);
        Bounds.is("the count starts again", x.joins(), 0);
        Bounds.row("the count starts again", x, 0, 0);
    }

    /** The rich state, of which nothing can be joined, with the row that joins() tells then. */
    private static FewProducts joinedRich() {
        FewProducts x = Bounds.rich();
        Bounds.is("nothing can be joined", x.joins(), 0);
        return x;
    }

    private static void joinsZeros() {
        Bounds.says(17, "1 the first PRODUCT of which a FORM is 0 goes");
        for (int t = 0; t < 3; t++) {
            FewProducts x = Due.made(1, 1, 1, 2, "a11*b11*c11;a11*b11*c11");
            x.flip(0, 1, t);
            Bounds.is("both have a FORM that is 0", x.joins(), 2);
            Bounds.row("both by 1, at " + t, x, 2, 0);
        }
        FewProducts x = Due.made(2, 1, 1, 3, "a21*b11*c11;a11*b11*c11;a21*b11*c11;a11*b11*c11");
        x.narrows(0, 2);
        Bounds.is("1 ahead of 2", x.joins(), 3);
        Bounds.row("1 ahead of 2", x, 2, 1);
        Bounds.forms("1 ahead of 2", x, 2, 1, 1);
        Bounds.says(17, "(Those behind one that goes get a number less.)");
        x = Due.made(2, 2, 1, 2, "a21*b11*c11;a11*b11*c11;a12*b21*c11");
        x.narrows(0, 2);
        Bounds.is("the first goes", x.joins(), 1);
        Bounds.forms("the first goes", x, 1, 1, 1, 2, 2, 1);
        Bounds.says(17, "the first i, then the first j above i, then the first TABLE w");
        x = Bounds.ones(1, 1, 1, 3, 2);
        Bounds.is("w 0", x.joins(), 1);
        Bounds.forms("w 0", x, 2, 1, 1);
        Bounds.says(17, "at w that of i becomes the SUM of it and f g times that of j");
        String[] texts = {"a11*b11*-c11;a12*b11*c11", "a11*-b11*c11;a12*b11*c11", "a11*-b11*-c11;a12*b11*c11",
            "a11*b11*c11;-a12*b11*c11"};
        int[] due = {1 + 6, 1 + 6, 1 + 3, 1 + 6};
        for (int k = 0; k < texts.length; k++) {
            x = Due.made(1, 2, 1, 3, texts[k]);
            x.keeps();
            Bounds.is(texts[k], x.joins(), 1);
            Bounds.is(texts[k], x.form(0, 0), due[k]);
            Bounds.is(texts[k] + " gives the same", x.unlikes(), 0);
        }
    }

    private static void sheds() {
        Bounds.says(18, "How many went; the ROW: of w 0, 1, 2.");
        FewProducts x = Bounds.ones(1, 1, 1, 3, 0);
        Bounds.is("no product", x.sheds(), 0);
        Bounds.row("no product", x, 0, 0, 0);
        x = Bounds.ones(1, 1, 1, 3, 1);
        Bounds.is("one product", x.sheds(), 0);
        Bounds.row("one product", x, 0, 0, 0);
        for (int k = 0; k < 3; k++) {
            x = Due.made(2, 2, 2, 2, "a11*b11*c11;a12*b11*c12;a21*b11*c11+c12");
            x.keeps();
            for (int turn = 0; turn < k; turn++) {
                x.rolls();
            }
            Bounds.is("one goes", x.sheds(), 1);
            // b is at 1, then at 0, then at 2
            Bounds.row("by w", x, k == 1 ? 1 : 0, k == 0 ? 1 : 0, k == 2 ? 1 : 0);
        }
        for (int w = 0; w < 3; w++) {
            for (int turn = 1; turn < 3; turn++) {
                int u = (w + turn) % 3;
                int v = 3 - w - u;
                x = Due.made(2, 2, 2, 3, sharing(w, u, v));
                x.keeps();
                Bounds.is("of w " + w + ", u " + u, x.sheds(), 1);
                Bounds.row("of w " + w + ", u " + u, x, w == 0 ? 1 : 0, w == 1 ? 1 : 0, w == 2 ? 1 : 0);
                Bounds.is("v of the first", x.form(0, v), 1 + 9);
                Bounds.is("v of the second", x.form(1, v), 3 + 9);
                Bounds.is("v of one between, unlike at w", x.form(2, v), 27);
                Bounds.is("gives the same", x.unlikes(), 0);
                Bounds.is("the count starts again", x.sheds(), 0);
                Bounds.row("the count starts again", x, 0, 0, 0);
            }
        }
        Bounds.says(18, "SHED: as long as can be");
        x = Due.made(1, 1, 2, 2, Bounds.times("a11*b11*c11", 32) + ";a11*b11*c21");
        while (x.count(4) < 40) {
            Due.write(x, "a11*b11*c21");
            x.adds();
        }
        // the c of the first is 0 when one like it has gone into it, and it is aside from then on
        x.keeps();
        int went = x.sheds();
        Bounds.is("gives the same", x.unlikes(), 0);
        Bounds.is("as many are left", x.count(4), 40 - went);
        Bounds.is("no more can go", x.sheds(), 0);
        x = Due.made(1, 1, 2, 2, "a11*b11*c11+c21;" + Bounds.times("a11*b11*c11", 27));
        Bounds.is("27 into the first", x.sheds(), 27);
        Bounds.row("27 into the first", x, 27, 0, 0);
        Bounds.forms("27 into the first", x, 1, 1, 2);
        Bounds.says(18, "then of the first PRODUCT j that can");
        x = Due.made(2, 2, 2, 3, "a11*b11*c11;a11*b11*c12;a11*b11*c21;a22*b22*c22");
        Bounds.is("two", x.sheds(), 2);
        Bounds.forms("two", x, 1, 1, 1 + 3 + 9, 27, 27, 27);
    }

    /** Three that share 11 at w, the last at u the sum of the first two; one between that does not. */
    private static String sharing(int w, int u, int v) {
        String[] at = {"abc".substring(w, w + 1), "abc".substring(u, u + 1), "abc".substring(v, v + 1)};
        String[][] forms = {{"#11", "#11", "#11"}, {"#11", "#12", "#12"}, {"#22", "#22", "#22"}, {"#11", "#11+#12", "#21"}};
        StringBuilder s = new StringBuilder();
        for (String[] form : forms) {
            String[] product = new String[3];
            for (int k = 0; k < 3; k++) {
                product[at[k].charAt(0) - 'a'] = form[k].replace("#", at[k]);
            }
            s.append(s.length() > 0 ? ";" : "").append(String.join("*", product));
        }
        return s.toString();
    }

    private static void shedsZeros() {
        Bounds.says(18, "PRODUCTS of which a FORM is 0 are left aside.");
        FewProducts x = Due.made(1, 1, 1, 2, "a11*b11*c11;a11*b11*c11");
        x.flip(0, 1, 0);
        Bounds.is("all have 0", x.sheds(), 0);
        Bounds.row("all have 0", x, 0, 0, 0);
        Bounds.forms("all have 0", x, 1, 0, 1, 1, 1, 0);
        x = Due.made(1, 1, 2, 2, "a11*b11*c21;a11*b11*c11;a11*b11*c11+c21;a11*b11*c21");
        x.narrows(2, 2);
        // the first and the last have c 0: the second gets c11 of the third, and has 0 then
        Bounds.is("one goes", x.sheds(), 1);
        Bounds.forms("one goes", x, 1, 1, 0, 1, 1, 0, 1, 1, 0);
        Bounds.says(18, "each whose FORM at u (times the f by which its FORM at w is f times that of j)");
        x = Due.made(2, 2, 2, 3, "-a11*b11*c11;a11*b11*c12");
        x.keeps();
        Bounds.is("f 2", x.sheds(), 1);
        Bounds.forms("f 2", x, 2, 1, 1 + 6);
        Bounds.is("gives the same", x.unlikes(), 0);
        x = Due.made(2, 2, 2, 3, "a11*-b11*c11;-a11*b11*c12");
        x.keeps();
        Bounds.is("f 2, of a FORM that is twice", x.sheds(), 1);
        Bounds.forms("f 2, of a FORM that is twice", x, 1, 2, 1 + 3);
        Bounds.is("gives the same", x.unlikes(), 0);
        Bounds.says(18, "(v of none that is not in the sum changes)");
        x = Due.made(2, 2, 2, 3, "a11*b11*c11;a11*b12*c12;a11*b21*c21;a11*-b11+b21*c22");
        Bounds.is("the second is not in the sum", x.sheds(), 1);
        Bounds.forms("the second is not in the sum", x, 1, 1, 1 + 54, 1, 3, 3, 1, 9, 9 + 27);
        Bounds.says(18, "those ahead of j");
        x = Due.made(2, 2, 2, 3, "a11*b11+b12*c11;a11*b11*c12;a11*b12*c21");
        Bounds.is("the last is the first less the second", x.sheds(), 1);
        Bounds.forms("the last is the first less the second", x, 1, 4, 1 + 9, 1, 1, 3 + 18);
        Bounds.says(18, "is no sum of those TAKEN so far, each times a NUMBER, is TAKEN");
        String nine = "";
        for (int r = 1; r <= 3; r++) {
            for (int c = 1; c <= 3; c++) {
                nine += "a11*b" + r + c + "*c" + r + c + ";";
            }
        }
        x = Due.made(3, 3, 3, 3, nine + "a11*b11+b12+b13+b21+b22+b23+b31+b32+b33*c22");
        Bounds.is("nine are TAKEN, the tenth goes into all", x.sheds(), 1);
        int own = 1;
        for (int i = 0; i < 9; i++) {
            Bounds.is("c of " + i, x.form(i, 2), own + 81);
            own *= 3;
        }
    }

    // ---- promises 19 and 20

    private static void splits() {
        Bounds.says(19, "How many PRODUCTS.");
        FewProducts x = Due.made(1, 1, 1, 3);
        Due.write(x, "-a11");
        Bounds.is("one of one", x.splits(0, 0), 2);
        Bounds.forms("one of one", x, 2, 1, 1, 2, 1, 1);
        Bounds.is("the text is emptied", x.count(7), 0);
        x = Bounds.ones(2, 1, 2, 2, 39);
        Due.write(x, "c12");
        Bounds.is("the 40th", x.splits(38, 2), 40);
        Bounds.is("part", x.form(38, 2), 2);
        Bounds.is("less that", x.form(39, 2), 1 + 2);
        Bounds.is("as i", x.form(39, 0), 1);
        Bounds.is("as i", x.form(39, 1), 1);
        x = Due.made(2, 1, 1, 3, "a21*b11*c12");
        x.narrows(0, 2);
        Due.write(x, "a11");
        Bounds.is("one that is 0", x.splits(0, 0), 2);
        Bounds.forms("one that is 0", x, 1, 1, 0, 2, 1, 0);
        Bounds.says(19, "-2: there are 40");
        Bounds.refusedText("a 41st", Bounds::full, "c12", y -> y.splits(0, 2), -2);
        Bounds.says(19, "-3: it is what it was.");
        Bounds.refusedText("itself", Bounds::rich, "a11-a12", y -> y.splits(0, 0), -3);
        Bounds.refusedText("itself, in another order", Bounds::rich, "-a12+a11", y -> y.splits(0, 0), -3);
        Bounds.refusedText("itself", Bounds::rich, "b22", y -> y.splits(3, 1), -3);
        FewProducts z = Bounds.rich();
        Due.write(z, "-a11+a12");
        Bounds.is("LIKE it, but another", z.splits(0, 0), 5);
        Bounds.is("LIKE it, but another", z.form(4, 0), 2 + 3);
    }

    private static void splitsRefused() {
        Bounds.says(19, "-21 - p (of no such TABLE 0)");
        String[] texts = {"", "-", "b", "b1", "b43", "b13", "b11+", "b11-b11", "b11+b12+b11", "b11;", "b11*", "b11*c11",
            "a11", "+b11", "b11 ", "--b11"};
        int[] places = {0, 1, 1, 2, 1, 2, 4, 6, 10, 3, 3, 3, 0, 0, 3, 1};
        for (int k = 0; k < texts.length; k++) {
            int place = places[k];
            Bounds.refusedText("a fault", Bounds::rich, texts[k], x -> x.splits(0, 1), -21 - place);
        }
        for (int v : NO_TABLE) {
            Bounds.refusedText("table " + v + ", read at 0", Bounds::rich, "b11", x -> x.splits(0, v), -21);
            Bounds.refusedText("table " + v + ", read at 0", Bounds::rich, "c11", x -> x.splits(0, v), -21);
            Bounds.refusedText("table " + v + ", a row of 0", Bounds::rich, "a31", x -> x.splits(0, v), -22);
            Bounds.refusedText("table " + v + ", a column of 0", Bounds::rich, "a14", x -> x.splits(0, v), -23);
            Bounds.refusedText("table " + v, Bounds::rich, "a23", x -> x.splits(0, v), -1);
            Bounds.refusedText("table " + v + ", 40", Bounds::full, "a21", x -> x.splits(0, v), -1);
        }
        Bounds.says(19, "-21 - p comes first, then NONE, then the others as they are told");
        for (int v : NO_PRODUCT) {
            Bounds.refusedText("product " + v, Bounds::rich, "c11", x -> x.splits(v, 2), -1);
            Bounds.refusedText("product " + v + ", a fault", Bounds::rich, "c11+", x -> x.splits(v, 2), -25);
            Bounds.refusedText("product and table " + v, Bounds::rich, "c11", x -> x.splits(v, 3), -21);
        }
        Bounds.refusedText("0 of none", Bounds::empty, "a11", x -> x.splits(0, 0), -1);
        Bounds.refusedText("a fault, and 40", Bounds::full, "a12", x -> x.splits(0, 0), -23);
        Bounds.refusedText("product 40 of 40", Bounds::full, "a21", x -> x.splits(40, 0), -1);
        Bounds.refusedText("40, and what it was", Bounds::full, "a11", x -> x.splits(0, 0), -2);
        Bounds.refusedText("400 signs", Bounds::rich, "a11+a12+".repeat(50), x -> x.splits(0, 0), -21 - 10);
    }

    private static void plus() {
        Bounds.says(20, "at w FORM of j less that of i, at u, v those of j");
        String[] due = {"a22-a11*b22*c22", "a22*b22-b11*c22", "a22*b22*c22-c11"};
        for (int w = 0; w < 3; w++) {
            FewProducts x = Due.made(2, 2, 2, 3, "a11*b11*c11;a22*b22*c22");
            x.keeps();
            Bounds.is("two", x.plus(0, 1, w), 3);
            FewProducts y = Due.made(2, 2, 2, 3, due[w]);
            for (int t = 0; t < 3; t++) {
                int u = (w + 1) % 3;
                Bounds.is("the new one at " + t, x.form(2, t), y.form(0, t));
                Bounds.is("i at " + t + ": at u its own and that of j", x.form(0, t), t == u ? 28 : 1);
                Bounds.is("j at " + t + ": at w of i, at v less that of i", x.form(1, t), t == w ? 1 : t == u ? 27 : 29);
            }
            Bounds.is("gives the same", x.unlikes(), 0);
        }
        FewProducts x = Bounds.ones(1, 1, 1, 2, 38);
        Bounds.is("the 39th", x.plus(37, 0, 0), 39);
        Bounds.is("the 40th", x.plus(0, 38, 2), 40);
        Bounds.is("gives the same", x.checks(), 1);
    }

    private static void plusRefused() {
        Bounds.says(20, "-2: i and j are one; -3: there are 40.");
        Bounds.refused("one", Bounds::rich, x -> x.plus(0, 0, 0), -2);
        Bounds.refused("one, the last", Bounds::rich, x -> x.plus(3, 3, 2), -2);
        Bounds.refused("40", Bounds::full, x -> x.plus(0, 39, 0), -3);
        Bounds.says(20, "-21 - p comes first, then NONE, then the others as they are told");
        Bounds.refused("one, and 40", Bounds::full, x -> x.plus(39, 39, 0), -2);
        Bounds.refused("no such i, and 40", Bounds::full, x -> x.plus(40, 0, 0), -1);
        Bounds.refused("no such j, and 40", Bounds::full, x -> x.plus(0, 40, 0), -1);
        Bounds.refused("no such table, and 40", Bounds::full, x -> x.plus(0, 1, 3), -1);
        Bounds.refused("0 of none", Bounds::empty, x -> x.plus(0, 0, 0), -1);
        for (int v : NO_PRODUCT) {
            Bounds.refused("i " + v, Bounds::rich, x -> x.plus(v, 0, 0), -1);
            Bounds.refused("j " + v, Bounds::rich, x -> x.plus(0, v, 0), -1);
            Bounds.refused("i, j " + v, Bounds::rich, x -> x.plus(v, v, 0), -1);
        }
        for (int v : NO_TABLE) {
            Bounds.refused("table " + v, Bounds::rich, x -> x.plus(0, 1, v), -1);
            Bounds.refused("table " + v + ", one", Bounds::rich, x -> x.plus(1, 1, v), -1);
        }
    }

    // ---- promises 21 to 23

    private static void scales() {
        Bounds.says(21, "that at the TABLE behind w, round, too");
        FewProducts x = Due.made(2, 2, 2, 3, "a11*b11*c11");
        Bounds.is("0 and 1", x.scales(0, 0, 2), 1);
        Bounds.forms("0 and 1", x, 2, 2, 1);
        Bounds.is("1 and 2", x.scales(0, 1, 2), 1);
        Bounds.forms("1 and 2", x, 2, 1, 2);
        Bounds.is("2 and 0", x.scales(0, 2, 2), 1);
        Bounds.forms("2 and 0", x, 1, 1, 1);
        Bounds.says(21, "1, if the PRODUCT is LIKE what it was, else 0");
        FewProducts zero = Due.made(2, 1, 1, 3, "a21*b11*c11;a11*b11*c11");
        zero.narrows(0, 2);
        for (int w = 0; w < 3; w++) {
            Bounds.is("one that has 0, by 2", zero.scales(0, w, 2), 0);
            Bounds.is("one that has 0, by 1", zero.scales(0, w, 1), 0);
            Bounds.is("one that has not, by 2", zero.scales(1, w, 2), 1);
        }
        Bounds.says(21, "f (1 .. q - 1)");
        Bounds.refused("1 changes nothing", Bounds::rich, y -> y.scales(0, 0, 1), 1);
        Bounds.refused("1 over 2 changes nothing", Bounds::full, y -> y.scales(39, 2, 1), 1);
        Bounds.says(21, "NONE: another f, too.");
        Bounds.refused("2 over 2", Bounds::full, y -> y.scales(0, 0, 2), -1);
        for (int f : new int[] {0, 3, 4, -1, -2, Integer.MIN_VALUE, Integer.MAX_VALUE}) {
            Bounds.refused("f " + f, Bounds::rich, y -> y.scales(0, 0, f), -1);
        }
        for (int v : NO_PRODUCT) {
            Bounds.refused("product " + v, Bounds::rich, y -> y.scales(v, 0, 2), -1);
        }
        for (int v : NO_TABLE) {
            Bounds.refused("table " + v, Bounds::rich, y -> y.scales(0, v, 2), -1);
        }
        Bounds.refused("0 of none", Bounds::empty, y -> y.scales(0, 0, 1), -1);
    }

    private static void narrows() {
        Bounds.says(22, "n, m or p is one less: how many PRODUCTS have a FORM that is 0 then");
        for (int space = 0; space < 3; space++) {
            for (int r = 1; r <= 3; r++) {
                FewProducts x = Due.made(3, 3, 3, 3);
                x.keeps();
                Bounds.is("3 to 2: line " + r, x.narrows(space, r), 9);
                for (int t = 0; t < 3; t++) {
                    Bounds.is("3 to 2", x.count(t), t == space ? 2 : 3);
                }
                Bounds.is("still right", x.checks(), 0);
                Bounds.is("what is kept stays", x.count(5), 27);
                Bounds.is("2 to 1", x.narrows(space, 2), 18);
                Bounds.is("2 to 1", x.count(space), 1);
                Bounds.is("still right", x.checks(), 0);
                Bounds.is("-2: there is but one", x.narrows(space, 1), -2);
                Bounds.is("still one", x.count(space), 1);
            }
        }
        FewProducts x = Bounds.ones(2, 2, 2, 2, 0);
        Bounds.is("no product", x.narrows(2, 2), 0);
        Bounds.is("no product", x.count(2), 1);
        Bounds.says(22, "Row and column r of a space (as shears()) go out of all FORMS");
        String text = "a11-a12+a13-a21+a22-a23*b11-b12+b21-b22+b31-b32*c11-c12-c21+c22";
        // of 2, 3, 2: rows of a and columns of c; rows of b and columns of a; rows of c and columns of b
        String[] due = {"-a11+a12-a13*b11-b12+b21-b22+b31-b32*-c11+c21", "a11+a12-a21-a22*b11-b12+b21-b22*c11-c12-c21+c22",
            "a11-a12+a13-a21+a22-a23*-b11-b21-b31*-c11+c12"};
        int[] lines = {1, 2, 1};
        for (int space = 0; space < 3; space++) {
            FewProducts y = Due.made(2, 3, 2, 3, text);
            Bounds.is("none is 0", y.narrows(space, lines[space]), 0);
            FewProducts z = Due.made(y.count(0), y.count(1), y.count(2), 3, due[space]);
            Bounds.forms("space " + space, y, z.form(0, 0), z.form(0, 1), z.form(0, 2));
        }
    }

    private static void narrowsRefused() {
        Bounds.says(22, "-2: there is but one; NONE: no such ones.");
        Bounds.refused("but one", Bounds::full, x -> x.narrows(1, 1), -2);
        Bounds.refused("but one: no such line comes first", Bounds::full, x -> x.narrows(1, 2), -1);
        Bounds.refused("but one: no such line comes first", Bounds::full, x -> x.narrows(1, 0), -1);
        for (int v : NO_TABLE) {
            Bounds.refused("space " + v, Bounds::rich, x -> x.narrows(v, 1), -1);
        }
        for (int r : new int[] {0, 3, -1, Integer.MIN_VALUE, Integer.MAX_VALUE}) {
            Bounds.refused("line " + r + " of 2", Bounds::rich, x -> x.narrows(0, r), -1);
            Bounds.refused("line " + r + " of 2", Bounds::rich, x -> x.narrows(2, r), -1);
        }
        Bounds.refused("line 4 of 3", Bounds::rich, x -> x.narrows(1, 4), -1);
        Bounds.is("line 3 of 3", Bounds.rich().narrows(1, 3), 2);
    }

    private static void widens() {
        Bounds.says(23, "n, m or p is one more");
        for (int space = 0; space < 3; space++) {
            FewProducts x = Due.made(1, 1, 1, 3);
            x.keeps();
            Bounds.is("1 to 2", x.widens(space), 2);
            Bounds.is("1 to 2", x.count(space), 2);
            Bounds.is("right", x.checks(), 0);
            Bounds.is("2 to 3", x.widens(space), 3);
            Bounds.is("2 to 3", x.count(space), 3);
            Bounds.is("right", x.checks(), 0);
            Bounds.is("-2: there are three", x.widens(space), -2);
            Bounds.is("still three", x.count(space), 3);
            Bounds.is("what is kept stays", x.count(5), 1);
        }
        FewProducts x = Due.made(2, 3, 3, 2);
        Bounds.is("18 to 27", x.widens(0), 27);
        x = Bounds.ones(1, 1, 1, 2, 0);
        Bounds.is("those of the PLAIN SCHEME that have it, behind none", x.widens(1), 1);
        Bounds.forms("those of the PLAIN SCHEME that have it, behind none", x, 2, 2, 1);
        Bounds.says(23, "A space gets one more row and column, the last ones, 0 in all FORMS");
        String text = "a11-a12-a21+a22*b11-b12-b21+b22*c11-c12-c21+c22";
        for (int space = 0; space < 3; space++) {
            x = Due.made(2, 2, 2, 3, text);
            Bounds.is("four more", x.widens(space), 5);
            FewProducts y = Due.made(x.count(0), x.count(1), x.count(2), 3, text);
            Bounds.is("the same NUMBERS", x.form(0, space), y.form(0, space));
            Bounds.is("the same NUMBERS", x.form(0, (space + 1) % 3), y.form(0, (space + 1) % 3));
            Bounds.is("the same NUMBERS", x.form(0, (space + 2) % 3), y.form(0, (space + 2) % 3));
            y = Due.made(x.count(0), x.count(1), x.count(2), 3);
            for (int i = 0, k = 1; i < 12; i++) {
                // plain i, j, k of 3, 2, 2, of 2, 3, 2, or of 2, 2, 3
                boolean isLast = space == 0 ? i >= 8 : space == 1 ? i % 6 >= 4 : i % 3 == 2;
                for (int t = 0; isLast && t < 3; t++) {
                    Bounds.is("in its order", x.form(k, t), y.form(i, t));
                }
                k += isLast ? 1 : 0;
            }
        }
    }

    private static FewProducts many(int n, int m, int p, int products) {
        FewProducts x = Bounds.ones(n, m, p, 2, products);
        x.flips();
        return x;
    }

    private static void widensRefused() {
        Bounds.says(23, "-3: there would be more than 40 PRODUCTS");
        Bounds.is("39 and 1", many(1, 1, 1, 39).widens(0), 40);
        Bounds.is("39 and 1", many(1, 1, 1, 39).widens(1), 40);
        Bounds.is("39 and 1", many(1, 1, 1, 39).widens(2), 40);
        for (int space = 0; space < 3; space++) {
            int one = space;
            Bounds.refused("40 and 1", () -> many(1, 1, 1, 40), x -> x.widens(one), -3);
            Bounds.refused("37 and 4", () -> many(2, 2, 2, 37), x -> x.widens(one), -3);
            Bounds.is("36 and 4", many(2, 2, 2, 36).widens(one), 40);
            // space 0 of 1, 2, 3; 1 of 3, 1, 2; 2 of 2, 3, 1: six are new
            int n = space == 0 ? 1 : space == 1 ? 3 : 2;
            int m = space == 0 ? 2 : space == 1 ? 1 : 3;
            Bounds.refused("35 and 6", () -> many(n, m, 6 - n - m, 35), x -> x.widens(one), -3);
            Bounds.is("34 and 6", many(n, m, 6 - n - m, 34).widens(one), 40);
        }
        Bounds.is("31 and 9", many(2, 3, 3, 31).widens(0), 40);
        Bounds.refused("32 and 9", () -> many(2, 3, 3, 32), x -> x.widens(0), -3);
        Bounds.says(23, "-2: there are three");
        Bounds.refused("three", Bounds::rich, x -> x.widens(1), -2);
        Bounds.refused("three ahead of too many", () -> many(1, 3, 1, 40), x -> x.widens(1), -2);
        Bounds.says(23, "NONE: no such space.");
        for (int v : NO_TABLE) {
            Bounds.refused("space " + v, Bounds::rich, x -> x.widens(v), -1);
            Bounds.refused("space " + v + " of 40", Bounds::full, x -> x.widens(v), -1);
        }
    }

    // ---- promise 24

    private static long step(long x) {
        return x * 16807 % MODULUS;
    }

    private static void walksTaken() {
        Bounds.says(24, "x is the seed; n times (1 .. 100)");
        for (int seed : new int[] {1, 2, 2147483645, 2147483646}) {
            for (int n : new int[] {1, 2, 99, 100}) {
                FewProducts x = Due.made(1, 2, 1, 2);
                long last = seed;
                for (int k = 0; k < n; k++) {
                    last = step(last);
                }
                Bounds.is("seed " + seed + ", n " + n, x.walks(seed, n), 2);
                Bounds.row("seed " + seed + ", n " + n, x, n, last);
            }
        }
        FewProducts x = Bounds.ones(1, 1, 1, 2, 0);
        long last = 1;
        for (int k = 0; k < 100; k++) {
            x.walks((int) last, 100);
            last = Due.numberOf(x, 1);
        }
        Bounds.is("10,000 steps from 1", last, 1043618065);
        Bounds.says(24, "x becomes the remainder of x times 16807 by 2147483647");
        x = Due.made(3, 3, 3, 3);
        FewProducts y = Due.made(3, 3, 3, 3);
        Bounds.is("50 at once", x.walks(77, 50) > 0, true);
        last = 77;
        long done = 0;
        for (int k = 0; k < 50; k++) {
            y.walks((int) last, 1);
            done += Due.numberOf(y, 0);
            last = Due.numberOf(y, 1);
        }
        Bounds.row("50 at once, 50 times one", x, done, last);
        y.keeps();
        Bounds.is("50 at once, 50 times one", x.count(4), y.count(4));
        for (int i = 0; i < y.count(4); i++) {
            Bounds.is("50 at once, 50 times one", x.form(i, 0) + 1000L * x.form(i, 1), y.form(i, 0) + 1000L * y.form(i, 1));
        }
        Bounds.says(24, "the k-th of them, by w, then i, then j (from 0 on), k being the remainder of x by how many there are");
        // alike at 0: 0, 1; at 1: 2, 3, 4; at 2: 5, 6, 7, 8
        String text = "a11*b12*c12;-a11*b21*c21;a12*b11*c22;a21*-b11*c11+c12;a22*b11*c11+c21;a11+a12*b22*c11;"
            + "a11+a21*b11+b12*-c11;a11+a22*b11+b21*c11;a12+a21*b11+b22*-c11";
        int[] first = {0, 2, 5, 9};
        int k = 0;
        for (int w = 0; w < 3; w++) {
            for (int i = first[w]; i < first[w + 1]; i++) {
                for (int j = first[w]; j < first[w + 1]; j++) {
                    if (i != j) {
                        walksAs(text, k, i, j, w);
                        k++;
                    }
                }
            }
        }
        Bounds.is("all FLIPS", k, 20);
    }

    /** A walk of one step that draws the k-th of 20 flips, beside that flip. */
    private static void walksAs(String text, int k, int i, int j, int w) {
        int seed = 1;
        while (step(seed) % 20 != k) {
            seed++;
        }
        FewProducts x = Due.made(2, 2, 2, 3, text);
        Bounds.is("20 FLIPS", x.flips(), 20);
        FewProducts due = Due.made(2, 2, 2, 3, text);
        Bounds.is("the FLIP", due.flip(i, j, w), 0);
        due.joins();
        Bounds.is("k " + k, x.walks(seed, 1), due.count(4));
        Bounds.row("k " + k, x, 1, step(seed));
        for (int at = 0; at < 3 * due.count(4); at++) {
            Bounds.is("k " + k + " form " + at, x.form(at / 3, at % 3), due.form(at / 3, at % 3));
        }
    }

    private static void walksRefused() {
        Bounds.says(24, "NONE: another n, a seed that is not 1 .. 2147483646.");
        for (int n : new int[] {0, 101, -1, 102, Integer.MIN_VALUE, Integer.MAX_VALUE}) {
            Bounds.refused("n " + n, Bounds::rich, x -> x.walks(1, n), -1);
        }
        for (int seed : new int[] {0, 2147483647, -1, -2147483646, Integer.MIN_VALUE}) {
            Bounds.refused("seed " + seed, Bounds::rich, x -> x.walks(seed, 1), -1);
            Bounds.refused("seed and n", Bounds::full, x -> x.walks(seed, 101), -1);
        }
    }

    private static void walksWithoutFlips() {
        Bounds.says(24, "if there are FLIPS");
        FewProducts x = Bounds.ones(2, 2, 2, 3, 0);
        Bounds.is("no product", x.walks(2147483646, 1), 0);
        Bounds.row("no product", x, 0, 2147483647L - 16807);
        x = Bounds.ones(2, 2, 2, 3, 1);
        Bounds.is("one product", x.walks(1, 2), 1);
        Bounds.row("one product", x, 0, 282475249);
        x = Due.made(2, 2, 2, 2, Due.STRASSEN);
        Bounds.is("Strassen has none", x.walks(1, 100), 7);
        Bounds.is("none is done", Due.numberOf(x, 0), 0);
        Bounds.forms("none is done", x, 9, 9, 9, 12, 1, 10, 1, 10, 12, 8, 5, 3, 3, 8, 5, 5, 3, 8, 10, 12, 1);
        Bounds.says(24, "is done, and then it is JOINED");
        x = Due.made(3, 1, 1, 3, "a31*b11*c13;a11*b11*c11");
        x.narrows(0, 3);
        Bounds.is("a FLIP there, then that which has 0 goes", x.walks(1, 1), 1);
        Bounds.row("a FLIP there, then that which has 0 goes", x, 1, 16807);
        x = Due.made(2, 1, 1, 3, "a21*b11*c12");
        x.narrows(0, 2);
        Bounds.is("no FLIP: it is not JOINED either", x.walks(1, 1), 1);
        Bounds.row("no FLIP", x, 0, 16807);
        Bounds.says(24, "how many FLIPS were done, the last x");
        x = Bounds.ones(1, 1, 1, 2, 2);
        Bounds.is("one FLIP leaves none", x.walks(5, 100), 0);
        Bounds.is("one FLIP leaves none", Due.numberOf(x, 0), 1);
        x = Bounds.ones(1, 1, 1, 2, 40);
        Bounds.is("of 40 none or few are left", x.walks(2147483646, 100) <= 1, true);
        Bounds.is("of 40 modulo 2 nothing is given", x.checks(), 1);
    }

    private FlipsBoundsTest() {
    }
}
