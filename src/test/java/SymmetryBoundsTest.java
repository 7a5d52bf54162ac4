/** The boundary cases of promises 25 to 33, sentence by sentence. */
public final class SymmetryBoundsTest {
    private static final int[] NO_TABLE = {-1, 3, Integer.MIN_VALUE, Integer.MAX_VALUE};
    private static final long ALL_40 = (1L << 40) - 1;

    public static void main(String[] args) {
        rolls();
        mirrors();
        shears();
        shearsRefused();
        swaps();
        swapsRefused();
        uses();
        round();
        roundRefused();
        mirrored();
        groups();
        spans();
        Bounds.over(25, 33);
    }

    private static void sizes(String what, FewProducts x, int n, int m, int p) {
        Bounds.is(what + ": n", x.count(0), n);
        Bounds.is(what + ": m", x.count(1), m);
        Bounds.is(what + ": p", x.count(2), p);
    }

    // ---- promises 25 and 26

    private static void rolls() {
        Bounds.says(25, "n, m, p are m, p, n: how many PRODUCTS");
        FewProducts x = Bounds.ones(1, 2, 3, 3, 0);
        Bounds.is("no product", x.rolls(), 0);
        sizes("no product", x, 2, 3, 1);
        x = Due.made(1, 2, 3, 2);
        x.keeps();
        Bounds.is("once", x.rolls(), 6);
        sizes("once", x, 2, 3, 1);
        Bounds.is("what is kept stays", x.back(), -3);
        Bounds.is("right", x.checks(), 0);
        Bounds.is("twice", x.rolls(), 6);
        sizes("twice", x, 3, 1, 2);
        Bounds.is("three times: as at first", x.rolls(), 6);
        sizes("three times", x, 1, 2, 3);
        Bounds.is("three times", x.others(), 0);
        Bounds.is("of 40", Bounds.full().rolls(), 40);
        Bounds.says(25, "at TABLE 0 is what was at 1, at 1 what was at 2, at 2 what was at 0");
        x = Due.made(3, 3, 3, 3, "-a33*b33*c12");
        x.rolls();
        Bounds.forms("the last PLACES", x, 6561, 3, 2 * 6561);
    }

    private static void mirrors() {
        Bounds.says(26, "n, m, p are n, p, m: how many PRODUCTS");
        FewProducts x = Bounds.ones(1, 2, 3, 3, 0);
        Bounds.is("no product", x.mirrors(), 0);
        sizes("no product", x, 1, 3, 2);
        x = Due.made(1, 2, 3, 2);
        x.keeps();
        Bounds.is("once", x.mirrors(), 6);
        sizes("once", x, 1, 3, 2);
        Bounds.is("what is kept stays", x.back(), -3);
        Bounds.is("right", x.checks(), 0);
        Bounds.is("twice: as at first", x.mirrors(), 6);
        sizes("twice", x, 1, 2, 3);
        Bounds.is("twice", x.others(), 0);
        Bounds.is("of 40", Bounds.full().mirrors(), 40);
        Bounds.says(26, "each with rows and columns exchanged");
        x = Due.made(3, 3, 3, 3, "-a13+a33*b21*c11-c32");
        x.mirrors();
        Bounds.forms("c, b, a turned over", x, 1 + 2 * 243, 3, 2 * 729 + 6561);
        x = Due.made(1, 1, 1, 3, "-a11*b11*c11");
        x.mirrors();
        Bounds.forms("the smallest", x, 1, 1, 2);
    }

    // ---- promises 27 and 28

    private static void shears() {
        Bounds.says(27, "To each FORM's row s comes f (1 .. q - 1) times its row r");
        FewProducts x = Bounds.ones(2, 2, 2, 3, 0);
        Bounds.is("no product", x.shears(0, 1, 2, 1), 0);
        x = Due.made(2, 1, 1, 3, "a21*b11*c11");
        Bounds.is("row 1 and column 2 are 0", x.shears(0, 1, 2, 2), 0);
        Bounds.forms("row 1 and column 2 are 0", x, 3, 1, 1);
        Bounds.is("row 2 and column 1 are not", x.shears(0, 2, 1, 2), 2);
        Bounds.forms("row 2 and column 1 are not", x, 2 + 3, 1, 1 + 3);
        for (int f = 1; f <= 2; f++) {
            for (int q = f + 1; q <= 3; q++) {
                for (int space = 0; space < 3; space++) {
                    FewProducts y = Due.made(3, 3, 3, q);
                    Bounds.is("the first and the last line", y.shears(space, 1, 3, f), 18);
                    Bounds.is("still right", y.checks(), 0);
                    y.keeps();
                    // f times q times the line is nothing
                    for (int k = 1; k < q; k++) {
                        Bounds.is("the last and the first line", y.shears(space, 3, 1, f) > 0, true);
                    }
                    Bounds.is("the last and the first line", y.shears(space, 3, 1, f) > 0, true);
                    Bounds.is("q times: as it was", y.others(), 0);
                }
            }
        }
        Bounds.says(27, "how many FORMS are others then (of PRODUCTS, each TABLE)");
        x = Due.made(2, 2, 1, 3);
        // n: both of row 1 of a (j 1, 2), both of column 2 of c (i 2)
        Bounds.is("2 2 1, space 0", x.shears(0, 1, 2, 1), 4);
        x = Due.made(1, 2, 2, 2);
        // m: both of row 1 of b (k 1, 2), both of column 2 of a (j 2)
        Bounds.is("1 2 2, space 1", x.shears(1, 1, 2, 1), 4);
        x = Due.made(2, 1, 3, 2);
        // p: both of row 3 of c (i 1, 2), both of column 1 of b (k 1)
        Bounds.is("2 1 3, space 2", x.shears(2, 3, 1, 1), 4);
    }

    private static void shearsRefused() {
        Bounds.says(27, "NONE: no such ones.");
        for (int v : NO_TABLE) {
            Bounds.refused("space " + v, Bounds::rich, x -> x.shears(v, 1, 2, 1), -1);
        }
        for (int v : new int[] {0, 4, -1, Integer.MIN_VALUE, Integer.MAX_VALUE}) {
            Bounds.refused("r " + v + " of 3", Bounds::rich, x -> x.shears(1, v, 2, 1), -1);
            Bounds.refused("s " + v + " of 3", Bounds::rich, x -> x.shears(1, 1, v, 1), -1);
            Bounds.refused("r, s " + v, Bounds::rich, x -> x.shears(1, v, v, 1), -1);
        }
        Bounds.refused("r 3 of 2", Bounds::rich, x -> x.shears(0, 3, 1, 1), -1);
        Bounds.refused("s 3 of 2", Bounds::rich, x -> x.shears(2, 1, 3, 1), -1);
        Bounds.refused("no second line", Bounds::full, x -> x.shears(1, 1, 2, 1), -1);
        Bounds.is("r 3 of 3", Bounds.rich().shears(1, 3, 1, 2) >= 0, true);
        Bounds.says(27, "(r, s unlike, from 1 on)");
        for (int r = 1; r <= 3; r++) {
            int one = r;
            Bounds.refused("r, s " + r, Bounds::rich, x -> x.shears(1, one, one, 1), -1);
        }
        Bounds.says(27, "f (1 .. q - 1)");
        for (int f : new int[] {0, 3, 4, -1, -2, Integer.MIN_VALUE, Integer.MAX_VALUE}) {
            Bounds.refused("f " + f, Bounds::rich, x -> x.shears(0, 1, 2, f), -1);
        }
        for (int f : new int[] {0, 2, 3, -1}) {
            Bounds.refused("f " + f + " over 2", Bounds::full, x -> x.shears(0, 1, 2, f), -1);
        }
    }

    private static void swaps() {
        Bounds.says(28, "(r, s may be one)");
        for (int space = 0; space < 3; space++) {
            int at = space;
            Bounds.refused("1 and 1 change nothing", Bounds::rich, x -> x.swaps(at, 1, 1), 0);
            Bounds.refused("2 and 2 change nothing", Bounds::rich, x -> x.swaps(at, at == 1 ? 3 : 2, at == 1 ? 3 : 2), 0);
        }
        Bounds.refused("the only one", Bounds::full, x -> x.swaps(1, 1, 1), 0);
        Bounds.refused("no product", Bounds::empty, x -> x.swaps(2, 1, 2), 0);
        Bounds.says(28, "how many FORMS are others then");
        for (int space = 0; space < 3; space++) {
            for (int r = 1; r <= 3; r++) {
                for (int s = 1; s <= 3; s++) {
                    FewProducts x = Due.made(3, 3, 3, 3);
                    x.keeps();
                    // of the nine FORMS in each of the two lines all are others, twice
                    Bounds.is("plain", x.swaps(space, r, s), r == s ? 0 : 36);
                    Bounds.is("plain is PLAIN in another order", x.others(), 0);
                    Bounds.is("again: as at first", x.swaps(space, s, r), r == s ? 0 : 36);
                    Bounds.is("again: as at first", x.form(26, 0), 6561);
                }
            }
        }
        FewProducts x = Due.made(2, 2, 2, 3, "a11+a21*b11*c11+c12;a11-a21*b22*c21-c22");
        Bounds.is("two FORMS are as they were", x.swaps(0, 1, 2), 2);
        Bounds.forms("two FORMS are as they were", x, 1 + 9, 1, 1 + 3, 2 + 9, 27, 2 * 9 + 27);
    }

    private static void swapsRefused() {
        Bounds.says(28, "NONE: no such ones.");
        for (int v : NO_TABLE) {
            Bounds.refused("space " + v, Bounds::rich, x -> x.swaps(v, 1, 2), -1);
            Bounds.refused("space " + v, Bounds::rich, x -> x.swaps(v, 1, 1), -1);
        }
        for (int v : new int[] {0, 4, -1, Integer.MIN_VALUE, Integer.MAX_VALUE}) {
            Bounds.refused("r " + v + " of 3", Bounds::rich, x -> x.swaps(1, v, 1), -1);
            Bounds.refused("s " + v + " of 3", Bounds::rich, x -> x.swaps(1, 1, v), -1);
            Bounds.refused("r, s " + v, Bounds::rich, x -> x.swaps(1, v, v), -1);
        }
        Bounds.refused("r 3 of 2", Bounds::rich, x -> x.swaps(0, 3, 1), -1);
        Bounds.refused("s 3 of 2", Bounds::rich, x -> x.swaps(2, 1, 3), -1);
        Bounds.refused("r, s 3 of 2", Bounds::rich, x -> x.swaps(0, 3, 3), -1);
        Bounds.refused("r, s 2 of 1", Bounds::full, x -> x.swaps(1, 2, 2), -1);
    }

    // ---- promise 29

    private static void uses() {
        Bounds.says(29, "of NUMBERS 1 .. q - 1 how many have it");
        FewProducts x = Bounds.ones(1, 1, 1, 2, 40);
        Bounds.is("all of 40 over 2", x.uses(0, 0), 40);
        Bounds.row("all of 40 over 2", x, 40, 0);
        x = Bounds.ones(1, 1, 1, 3, 40);
        Bounds.is("all of 40 over 3", x.uses(2, 0), 40);
        Bounds.row("all of 40 over 3", x, 40, 0, 0);
        x = Due.made(1, 1, 1, 3, "-a11*b11*c11;-a11*b11*c11;a11*b11*c11");
        Bounds.is("1 and 2", x.uses(0, 0), 3);
        Bounds.row("1 and 2", x, 1, 2, 0);
        Bounds.says(29, "how many PLACES of that TABLE no PRODUCT has but with 0");
        x = Bounds.ones(3, 3, 3, 2, 0);
        Bounds.is("no product", x.uses(0, 8), 0);
        Bounds.row("no product", x, 0, 9);
        x = Bounds.ones(1, 2, 3, 3, 0);
        Bounds.is("no product", x.uses(1, 5), 0);
        Bounds.row("six PLACES", x, 0, 0, 6);
        Bounds.is("no product", x.uses(2, 2), 0);
        Bounds.row("three PLACES", x, 0, 0, 3);
        x = Due.made(3, 3, 3, 2);
        Bounds.is("plain", x.uses(0, 0), 3);
        Bounds.row("plain: none", x, 3, 0);
        x = Due.made(1, 2, 1, 3, "a11*b11*c11;-a12*b11*c11");
        Bounds.is("by 1 or by 2", x.uses(0, 1), 1);
        Bounds.row("by 1 or by 2", x, 0, 1, 0);
        Bounds.asks("changes nothing else", Bounds::rich, y -> y.uses(0, 0), 2);
        Bounds.says(29, "NONE: no such PRODUCT, TABLE, PLACE, too.");
        for (int v : NO_TABLE) {
            Bounds.refused("table " + v, Bounds::rich, y -> y.uses(v, 0), -1);
        }
        for (int v : new int[] {-1, 6, 9, Integer.MIN_VALUE, Integer.MAX_VALUE}) {
            Bounds.refused("place " + v, Bounds::rich, y -> y.uses(0, v), -1);
        }
        Bounds.refused("place 4 of 4", Bounds::rich, y -> y.uses(2, 4), -1);
        Bounds.refused("place 2 of 2", Bounds::full, y -> y.uses(1, 2), -1);
        Bounds.asks("place 3 of 4", Bounds::rich, y -> y.uses(2, 3), 1);
        Bounds.asks("place 5 of 6", Bounds::rich, y -> y.uses(1, 5), 1);
    }

    // ---- promises 30 and 31

    private static void round() {
        Bounds.says(30, "Whether it is as rolls() would make it, PRODUCTS in any order");
        FewProducts x = Bounds.ones(2, 2, 2, 3, 0);
        Bounds.is("no product", x.round(), 1);
        Bounds.row("no product", x, 0);
        x = Bounds.ones(1, 1, 1, 2, 40);
        Bounds.is("all of 40", x.round(), 1);
        Bounds.row("all of 40", x, 40);
        x = Due.made(3, 3, 3, 3);
        Bounds.is("plain", x.round(), 1);
        Bounds.row("i, j, k one", x, 3);
        x.drops(26);
        Bounds.is("without one that is turned into itself", x.round(), 1);
        Bounds.row("without one that is turned into itself", x, 2);
        x.drops(1);
        Bounds.is("without one that is not", x.round(), 0);
        Bounds.row("without one that is not", x, 2);
        Bounds.asks("changes nothing else", SymmetryBoundsTest::strassen, y -> y.round(), 1);
        Bounds.says(30, "LIKE ones being the same, each as often: 1, else 0");
        String turns = "a11*b11*c12;a11*b12*c11;a12*b11*c11";
        Bounds.is("once each", Due.made(2, 2, 2, 3, turns).round(), 1);
        Bounds.is("twice each", Due.made(2, 2, 2, 3, turns + ";" + turns).round(), 1);
        Bounds.is("one of them twice", Due.made(2, 2, 2, 3, turns + ";a11*b11*c12").round(), 0);
        Bounds.is("one of them with -, -", Due.made(2, 2, 2, 3, "a11*b11*c12;-a11*-b12*c11;a12*b11*c11").round(), 1);
        Bounds.is("one of them with -", Due.made(2, 2, 2, 3, "a11*b11*c12;-a11*b12*c11;a12*b11*c11").round(), 0);
        Bounds.says(30, "of which a FORM is 0 is LIKE none, itself neither");
        x = Due.made(2, 1, 1, 3, "a21*b11*c12;a11*b11*c11");
        x.narrows(0, 2);
        Bounds.is("one that has 0", x.round(), 0);
        Bounds.row("one that has 0", x, 1);
        x.drops(1);
        Bounds.is("it alone", x.round(), 0);
        Bounds.row("it alone", x, 0);
    }

    private static FewProducts strassen() {
        FewProducts x = Due.made(2, 2, 2, 2, Due.STRASSEN);
        x.keeps();
        x.sums();
        return Due.write(x, "a11+a12*b21*c22");
    }

    private static FewProducts sized(int n, int m, int p) {
        FewProducts x = Due.made(n, m, p, 2);
        x.keeps();
        x.sums();
        return Due.write(x, Bounds.ONE);
    }

    private static void roundRefused() {
        Bounds.says(30, "-2: n, m, p are not one.");
        for (int k = 0; k < 27; k++) {
            int n = 1 + k % 3;
            int m = 1 + k / 3 % 3;
            int p = 1 + k / 9;
            if (n == m && m == p) {
                Bounds.asks("they are one", () -> sized(n, m, p), x -> x.round(), 1);
            } else {
                Bounds.refused("they are not", () -> sized(n, m, p), x -> x.round(), -2);
            }
        }
        Bounds.refused("of 40", Bounds::full, x -> x.round(), -2);
    }

    private static void mirrored() {
        Bounds.says(31, "-2: m and p are not one.");
        for (int k = 0; k < 27; k++) {
            int n = 1 + k % 3;
            int m = 1 + k / 3 % 3;
            int p = 1 + k / 9;
            if (m == p) {
                Bounds.asks("they are one", () -> sized(n, m, p), x -> x.mirrored(), 1);
                FewProducts x = sized(n, m, p);
                x.mirrored();
                Bounds.row("j, k one", x, n * m);
            } else {
                Bounds.refused("they are not", () -> sized(n, m, p), x -> x.mirrored(), -2);
            }
        }
        Bounds.refused("of 40", Bounds::full, x -> x.mirrored(), -2);
        Bounds.says(31, "Likewise by mirrors()");
        FewProducts x = Bounds.ones(3, 2, 2, 3, 0);
        Bounds.is("no product", x.mirrored(), 1);
        Bounds.row("no product", x, 0);
        x = Bounds.ones(2, 1, 1, 3, 40);
        Bounds.is("all of 40", x.mirrored(), 1);
        Bounds.row("all of 40", x, 40);
        String turns = "a12*b11*c11;a11*b11*c21";
        Bounds.is("once each", Due.made(1, 2, 2, 3, turns).mirrored(), 1);
        Bounds.is("one of them twice", Due.made(1, 2, 2, 3, turns + ";a12*b11*c11").mirrored(), 0);
        Bounds.is("one of them with -", Due.made(1, 2, 2, 3, "-a12*b11*c11;a11*b11*c21").mirrored(), 0);
        x = Due.made(1, 1, 1, 3, "a11*b11*c11;a11*b11*-c11");
        x.flip(0, 1, 1);
        Bounds.is("two that have 0", x.mirrored(), 0);
        Bounds.row("two that have 0", x, 0);
    }

    // ---- promises 32 and 33

    private static void groups() {
        Bounds.says(32, "(bits; 0, 0 without)");
        FewProducts x = Bounds.ones(2, 2, 2, 3, 0);
        for (int t = 0; t < 3; t++) {
            Bounds.is("no product", x.groups(t), 0);
            Bounds.row("no product", x, 0, 0);
        }
        Bounds.says(32, "How many groups of two or more PRODUCTS have LIKE FORMS at a TABLE");
        x = Due.made(1, 3, 1, 3, "a11*b11*c11;a12*b21*c11;-a11*b31*c11");
        Bounds.is("two, and one alone", x.groups(0), 1);
        Bounds.row("two, and one alone", x, 2, 5);
        Bounds.is("each alone", x.groups(1), 0);
        Bounds.row("each alone", x, 0, 0);
        Bounds.is("all three", x.groups(2), 1);
        Bounds.row("all three", x, 3, 7);
        x = Bounds.ones(1, 1, 1, 3, 40);
        Bounds.is("all of 40", x.groups(0), 1);
        Bounds.row("all of 40", x, 40, ALL_40);
        x = Bounds.full();
        Bounds.is("39, and one alone", x.groups(2), 1);
        Bounds.row("39, and one alone", x, 39, ALL_40 >> 1);
        x.drops(0);
        Due.write(x, "a21*b11*c22");
        x.adds();
        Bounds.is("38, and the last two", x.groups(0), 2);
        Bounds.row("38, and the last two", x, 38, ALL_40 >> 2);
        Due.write(x, Bounds.ONE + ";a21*b12*c11;" + Bounds.times(Bounds.ONE, 30));
        x.scheme();
        for (int k = 33; k <= 40; k++) {
            Due.write(x, k == 40 ? "a21*b11*c22" : Bounds.ONE);
            x.adds();
        }
        Bounds.is("a group with the last", x.groups(0), 2);
        Bounds.row("a group with the last", x, 38, ALL_40 - 2 - (1L << 39));
        Bounds.says(32, "PRODUCTS of the first of the greatest");
        x = Due.made(1, 3, 1, 3, "a11*b11*c11;a12*b21*c11;a12*b11*c11;-a11*b21*c11");
        Bounds.is("two of two", x.groups(0), 2);
        Bounds.row("two of two: that of 0", x, 2, 9);
        x = Due.made(1, 3, 1, 3, "a13*b11*c11;a13*b21*c11;a12*b11*c11;-a12*b21*c11;a12*b31*c11");
        Bounds.is("three behind two", x.groups(0), 2);
        Bounds.row("three behind two", x, 3, 28);
        Bounds.says(32, "Two FORMS of a TABLE are LIKE (by f), if neither is 0");
        x = Due.made(2, 1, 1, 3, "a21*b11*c11;a21*b11*c11;a11*b11*c11;a11*b11*c12;a11*b11*c12");
        x.narrows(0, 2);
        Bounds.is("those that are 0 are no group", x.groups(0), 1);
        Bounds.row("those that are 0 are no group", x, 3, 28);
        Bounds.is("those that are 0 are no group", x.groups(2), 1);
        Bounds.row("those that are 0 are no group", x, 3, 7);
        Bounds.says(32, "NONE: no such PRODUCT, TABLE, PLACE, too.");
        for (int v : NO_TABLE) {
            Bounds.refused("table " + v, Bounds::rich, y -> y.groups(v), -1);
        }
        Bounds.asks("changes nothing else", Bounds::rich, y -> y.groups(0), 1);
    }

    private static void spans() {
        Bounds.says(33, "so that none is a sum of others taken, each times a NUMBER: the most");
        FewProducts x = Bounds.ones(2, 2, 2, 3, 0);
        for (int t = 0; t < 3; t++) {
            Bounds.is("no product", x.spans(t), 0);
            Bounds.row("no product", x, 0);
        }
        x = Bounds.ones(1, 1, 1, 2, 40);
        Bounds.is("40 that are one", x.spans(1), 1);
        Bounds.row("40 that are one", x, 1);
        x = Due.made(3, 3, 3, 3);
        for (int t = 0; t < 3; t++) {
            Bounds.is("nine PLACES", x.spans(t), 9);
        }
        Bounds.row("nine PLACES of c", x, 1 + 2 + 4 + (1 << 9) + (1 << 10) + (1 << 11) + (1 << 18) + (1 << 19) + (1 << 20));
        x = Bounds.full();
        Bounds.is("the last of 40", x.spans(0), 2);
        Bounds.row("the last of 40", x, 1 + (1L << 39));
        Bounds.says(33, "PRODUCTS, the first ones first, of which the FORM is no such sum of those of PRODUCTS ahead of it");
        x = Due.made(1, 2, 1, 3, "a11+a12*b11*c11;-a11-a12*b11*c11;a11-a12*b11*c11;a11*b11*c11");
        Bounds.is("two of four", x.spans(0), 2);
        Bounds.row("two of four", x, 5);
        x = Due.made(2, 1, 1, 3, "a21*b11*c11;a11*b11*c11;a11*b11*c12");
        x.narrows(0, 2);
        Bounds.is("0 is a sum of none", x.spans(0), 1);
        Bounds.row("0 is a sum of none", x, 2);
        Bounds.is("0 at the end", x.spans(2), 1);
        Bounds.row("0 at the end", x, 1);
        x.drops(1);
        x.drops(1);
        Bounds.is("0 alone", x.spans(0), 0);
        Bounds.row("0 alone", x, 0);
        Bounds.says(33, "NONE: no such PRODUCT, TABLE, PLACE, too.");
        for (int v : NO_TABLE) {
            Bounds.refused("table " + v, Bounds::rich, y -> y.spans(v), -1);
        }
        Bounds.asks("changes nothing else", Bounds::rich, y -> y.spans(0), 3);
    }

    private SymmetryBoundsTest() {
    }
}
