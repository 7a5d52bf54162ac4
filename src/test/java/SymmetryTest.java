/** Promises 25 to 33: turned round, mirrored, sheared, exchanged, used, grouped, spanned. */
public final class SymmetryTest {
    private static final int[] NONE_SUCH = {-1, 3, Integer.MIN_VALUE, Integer.MAX_VALUE};
    private static final String TWO_ONE_THREE =
        "a11*b12-b13*c31;-a11+a21*b11*c22+c31-c32";

    public static void main(String[] args) {
        rolls();
        mirrors();
        shears();
        shearsRefused();
        swaps();
        uses();
        round();
        mirrored();
        groups();
        spans();
        Due.over();
    }

    private static void rolls() {
        FewProducts x = Due.made(2, 1, 3, 3, TWO_ONE_THREE);
        x.sums();
        Due.is("rolls", x.rolls(), 2);
        Due.is("n", x.count(0), 1);
        Due.is("m", x.count(1), 3);
        Due.is("p", x.count(2), 2);
        int c22 = 27;
        int c31 = 81;
        int c32 = 243;
        Due.forms("rolls", x, 3 + 18, c31, 1, 1, c22 + c31 + 2 * c32, 2 + 3);
        Due.is("again", x.rolls(), 2);
        Due.is("n", x.count(0), 3);
        Due.is("m", x.count(1), 2);
        Due.is("p", x.count(2), 1);
        Due.is("again", x.rolls(), 2);
        Due.forms("three times", x, 1, 3 + 18, c31, 2 + 3, 1, c22 + c31 + 2 * c32);
        Due.is("n", x.count(0), 2);
        Due.row("the row stays", x, 1, 1, 1);
        FewProducts y = Due.made(1, 2, 3, 2);
        y.rolls();
        Due.is("still right", y.checks(), 0);
        y = Due.made(1, 1, 1, 2, "a11*b11*c11");
        y.drops(0);
        Due.is("of none", y.rolls(), 0);
    }

    private static void mirrors() {
        FewProducts x = Due.made(2, 1, 3, 3, TWO_ONE_THREE);
        x.sums();
        Due.is("mirrors", x.mirrors(), 2);
        Due.is("n", x.count(0), 2);
        Due.is("m", x.count(1), 3);
        Due.is("p", x.count(2), 1);
        // c31 is a13 now, c22 a22, c32 a23; b12 b21, b13 b31; a21 c12
        Due.forms("mirrors", x, 9, 3 + 18, 1, 81 + 9 + 2 * 243, 1, 2 + 3);
        Due.is("again", x.mirrors(), 2);
        Due.forms("again", x, 1, 3 + 18, 81, 2 + 3, 1, 27 + 81 + 2 * 243);
        Due.is("m", x.count(1), 1);
        Due.is("p", x.count(2), 3);
        Due.row("the row stays", x, 1, 1, 1);
        FewProducts y = Due.made(3, 2, 3, 2);
        y.mirrors();
        Due.is("still right", y.checks(), 0);
    }

    private static void shears() {
        FewProducts x = Due.made(2, 2, 2, 3, "a11-a12+a22*b11-b22*c11+c12-c21;a21*b21*c22;a11*b12*c21");
        x.sums();
        // row 2 of a gets twice row 1: a21 + 2, a22 1 + 4; column 1 of c loses twice column 2
        Due.is("n", x.shears(0, 1, 2, 2), 4);
        int a = 1 + 6 + 2 * 9 + 2 * 27;
        int c = 2 + 3 + 2 * 9;
        Due.forms("n", x, a, 1 + 54, c, 9, 9, 27 + 9, 1 + 18, 3, 9);
        Due.is("back by 1", x.shears(0, 1, 2, 1), 4);
        Due.forms("back by 1", x, 1 + 6 + 27, 1 + 54, 1 + 3 + 18, 9, 9, 27, 1, 3, 9);
        // row 1 of b gets row 2, column 2 of a loses column 1
        Due.is("m", x.shears(1, 2, 1, 1), 5);
        Due.forms("m", x, 1 + 3 + 27, 1 + 6 + 54, 1 + 3 + 18, 9 + 54, 9 + 1, 27, 1 + 6, 3, 9);
        // row 1 of c gets twice row 2, column 2 of b loses twice column 1
        Due.is("p", x.shears(2, 2, 1, 2), 5);
        int b0 = 1 + 0 + 54;
        int c0 = 2 + 3 + 18;
        Due.forms("p", x, 31, b0, c0, 63, 1 + 3 + 9 + 27, 6 + 27, 7, 3, 2 + 9);
        Due.row("the row stays", x, 2, 1, 1);
        for (int space = 0; space < 3; space++) {
            for (int r = 1; r <= 3; r++) {
                int s = r == 3 ? 1 : r + 1;
                FewProducts y = Due.made(3, 3, 3, 3);
                Due.is("plain: nine rows, nine columns", y.shears(space, r, s, 2), 18);
                Due.is("still right", y.checks(), 0);
                Due.is("back: all that are in one of the two lines", y.shears(space, s, r, 1), 36);
                Due.is("still right", y.checks(), 0);
            }
        }
        FewProducts y = Due.made(2, 3, 1, 2, "a11+a22*b21+b31*c11+c12");
        Due.is("over 2", y.shears(1, 3, 1, 1), 2);
        Due.forms("b11 and a13 come", y, 1 + 4 + 16, 1 + 2 + 4, 3);
        Due.is("over 2", y.shears(1, 1, 2, 1), 2);
        Due.forms("b21 goes, a21 comes", y, 1 + 4 + 8 + 16, 1 + 4, 3);
    }

    private static void shearsRefused() {
        FewProducts x = Due.made(1, 2, 3, 3);
        for (int v : NONE_SUCH) {
            Due.is("no such space", x.shears(v, 1, 2, 1), -1);
            Due.is("no such r", x.shears(1, v, 2, 1), -1);
            Due.is("no such s", x.shears(1, 1, v, 1), -1);
            Due.is("no such f", x.shears(1, 1, 2, v), -1);
        }
        Due.is("f 0", x.shears(1, 1, 2, 0), -1);
        Due.is("r 0", x.shears(1, 0, 2, 1), -1);
        Due.is("s 0", x.shears(1, 1, 0, 1), -1);
        Due.is("r, s alike", x.shears(1, 2, 2, 1), -1);
        Due.is("n has no 2", x.shears(0, 1, 2, 1), -1);
        Due.is("m has no 3", x.shears(1, 3, 1, 1), -1);
        Due.is("p has no 4", x.shears(2, 4, 1, 1), -1);
        Due.is("p has 3", x.shears(2, 3, 1, 1), 4);
        Due.is("f 2 over 2", new FewProducts().shears(0, 1, 2, 2), -1);
    }

    private static void swaps() {
        FewProducts x = Due.made(2, 2, 2, 3, "a11-a12+a22*b11-b22*c11+c12-c21;a21*b21*c22;a11*b12*c21");
        x.sums();
        Due.is("n: c11 + c12 is in part the same", x.swaps(0, 2, 1), 6);
        Due.forms("n", x, 9 + 54 + 3, 1 + 54, 1 + 3 + 54, 1, 9, 9, 9, 3, 27);
        Due.is("m", x.swaps(1, 1, 2), 6);
        Due.forms("m", x, 27 + 18 + 1, 9 + 6, 1 + 3 + 54, 3, 1, 9, 27, 27, 27);
        Due.is("p", x.swaps(2, 1, 2), 6);
        Due.forms("p", x, 46, 27 + 2, 9 + 27 + 6, 3, 3, 1, 27, 9, 3);
        Due.is("r, s one", x.swaps(2, 2, 2), 0);
        Due.forms("r, s one", x, 46, 27 + 2, 9 + 27 + 6, 3, 3, 1, 27, 9, 3);
        Due.row("the row stays", x, 2, 1, 1);
        for (int v : NONE_SUCH) {
            Due.is("no such space", x.swaps(v, 1, 2), -1);
            Due.is("no such r", x.swaps(0, v, 1), -1);
            Due.is("no such s", x.swaps(0, 1, v), -1);
            Due.is("no such, one", x.swaps(0, v, v), -1);
        }
        Due.is("r 0", x.swaps(0, 0, 1), -1);
        Due.is("s 0", x.swaps(0, 1, 0), -1);
        FewProducts y = Due.made(3, 1, 2, 2, "a11*b11*c11;a31*b12*c23;a21*b11*c12");
        Due.is("1 and 3 of n", y.swaps(0, 1, 3), 4);
        Due.forms("1 and 3 of n", y, 4, 1, 4, 1, 2, 8, 2, 1, 2);
        Due.is("m has no 2", y.swaps(1, 1, 2), -1);
        Due.is("m has one", y.swaps(1, 1, 1), 0);
        Due.is("p has no 3", y.swaps(2, 3, 1), -1);
        y = Due.made(3, 2, 1, 2);
        Due.is("plain", y.swaps(0, 1, 2), 8);
        Due.is("still right", y.checks(), 0);
    }

    private static void uses() {
        FewProducts x = Due.made(2, 2, 1, 3, "a11-a12*b11*c11;-a11*b11-b21*c11;-a11+a22*b21*c12");
        Due.is("a11", x.uses(0, 0), 3);
        Due.row("a11: 1, 2, a21 has none", x, 1, 2, 1);
        Due.is("a21", x.uses(0, 2), 0);
        Due.row("a21", x, 0, 0, 1);
        Due.is("b21", x.uses(1, 1), 2);
        Due.row("b21", x, 1, 1, 0);
        Due.is("c12", x.uses(2, 1), 1);
        Due.row("c12", x, 1, 0, 0);
        for (int v : NONE_SUCH) {
            Due.is("no such table", x.uses(v, 0), -1);
        }
        for (int v : new int[] {-1, 2, Integer.MIN_VALUE, Integer.MAX_VALUE}) {
            Due.is("no such place", x.uses(1, v), -1);
        }
        Due.row("the row stays", x, 1, 0, 0);
        x = Due.made(3, 3, 3, 2, "a11+a33*b11*c11;a33*b11*c11");
        Due.is("over 2", x.uses(0, 8), 2);
        Due.row("over 2", x, 2, 7);
        x.drops(0);
        Due.is("the first place is unused", x.uses(0, 0), 0);
        Due.row("the first place is unused", x, 0, 8);
        x.drops(0);
        Due.is("no product", x.uses(2, 3), 0);
        Due.row("no product", x, 0, 9);
    }

    private static void round() {
        FewProducts x = Due.made(2, 2, 2, 2, Due.STRASSEN);
        Due.is("Strassen", x.round(), 1);
        Due.row("the first alone stays", x, 1);
        x = Due.made(2, 2, 2, 3, "a11*-b12*c12-c11;-a12+a11*b11*c12;a12*b11-b12*c11;a11-a22*b11-b22*-c11+c22");
        // turned round they are like one another by 2, 2, 1 in some order; the last is itself by 1, 2, 2
        Due.is("round, like by signs", x.round(), 1);
        Due.row("round, like by signs", x, 1);
        x = Due.made(1, 1, 1, 3, "-a11*b11*c11;a11*b11*c11");
        Due.is("each like itself turned", x.round(), 1);
        Due.row("each like itself turned", x, 2);
        x = Due.made(2, 2, 2, 2, "a11*b11*c12;a11*b12*c11;a12*b11*c11;a11*b11*c12");
        Due.is("each as often", x.round(), 0);
        Due.row("each as often", x, 0);
        x = Due.made(2, 2, 2, 2, "a11*b11*c12;a11*b11*c12;a11*b12*c11;a11*b12*c11;a12*b11*c11;a12*b11*c11;a22*b22*c22");
        Due.is("each twice", x.round(), 1);
        Due.row("each twice", x, 1);
        x = Due.made(3, 3, 3, 2);
        Due.is("plain 3", x.round(), 1);
        Due.row("plain 3", x, 3);
        x.shears(0, 1, 2, 1);
        Due.is("sheared in one space", x.round(), 0);
        x.sums();
        x.widens(0);
        x.narrows(2, 1);
        Due.is("n, m, p are not one", x.round(), -2);
        Due.row("the row stays", x, 9, 0, 27);
        Due.is("2 1 1", Due.made(2, 1, 1, 2).round(), -2);
        Due.is("1 2 1", Due.made(1, 2, 1, 2).round(), -2);
        Due.is("1 1 2", Due.made(1, 1, 2, 2).round(), -2);
        x = new FewProducts();
        x.narrows(0, 1);
        x.narrows(1, 1);
        x.narrows(2, 1);
        Due.is("those with 0 are like none", x.round(), 0);
        Due.row("those with 0 are like none", x, 1);
        x.joins();
        Due.is("one is left", x.round(), 1);
        x.drops(0);
        Due.is("none is left", x.round(), 1);
        Due.row("none is left", x, 0);
        Due.is("changes nothing", Due.made(2, 2, 2, 2, Due.STRASSEN).checks(), 0);
    }

    private static void mirrored() {
        FewProducts x = new FewProducts();
        x.keeps();
        Due.is("plain", x.mirrored(), 1);
        Due.row("plain: i j k is k j i turned over: i, k one", x, 4);
        Due.is("changes nothing", x.unlikes(), 0);
        x = Due.made(3, 1, 1, 3);
        Due.is("3 1 1", x.mirrored(), 1);
        Due.row("3 1 1", x, 3);
        x = Due.made(1, 2, 2, 2);
        Due.is("1 2 2", x.mirrored(), 1);
        Due.row("1 2 2: j, k one", x, 2);
        x.drops(1);
        Due.is("without 1 1 2", x.mirrored(), 0);
        Due.row("without 1 1 2", x, 2);
        x = Due.made(2, 2, 2, 3, "a12*b11*c11;-a11*b11*c21;a11-a12*b12+b21*c11-c21");
        Due.is("signs differ", x.mirrored(), 0);
        Due.row("signs differ", x, 1);
        x = Due.made(2, 2, 2, 3, "a12*-b11*c11;-a11*b11*c21;a11-a12*b12+b21*-c11+c21");
        Due.is("signs together are one", x.mirrored(), 1);
        Due.row("signs together are one", x, 1);
        Due.is("1 2 1", Due.made(1, 2, 1, 2).mirrored(), -2);
        Due.is("2 2 1", Due.made(2, 2, 1, 2).mirrored(), -2);
        Due.is("3 1 3", Due.made(3, 1, 3, 2).mirrored(), -2);
        x = Due.made(1, 2, 1, 2);
        x.flips();
        x.mirrored();
        Due.row("the row stays", x, 0, 0, 2);
    }

    private static void groups() {
        FewProducts x = Due.made(2, 2, 2, 3,
            "a11*b11*c11;a12*b12*c11;-a12*b21*-c11;a11*b22*c12;a22*b11+b12*c12;a12*-b22*c12;-a11*b12*c22");
        Due.is("a: a11, a12", x.groups(0), 2);
        Due.row("a: 0 3 6 ahead of 1 2 5", x, 3, 1 + 8 + 64);
        Due.is("b: b12, b22", x.groups(1), 2);
        Due.row("b: 1 6", x, 2, 2 + 64);
        Due.is("c: c11, c12", x.groups(2), 2);
        Due.row("c: 0 1 2", x, 3, 7);
        for (int v : NONE_SUCH) {
            Due.is("no such table", x.groups(v), -1);
        }
        Due.row("the row stays", x, 3, 7);
        x.drops(0);
        Due.is("a: greatest is behind", x.groups(0), 2);
        Due.row("a: 0 1 4", x, 3, 1 + 2 + 16);
        x = Due.made(2, 2, 2, 2, Due.STRASSEN);
        Due.is("Strassen", x.groups(1), 0);
        Due.row("Strassen", x, 0, 0);
        x.narrows(0, 1);
        // rows 2 of a alone: 1 a22, 2 a21+a22, 3 0, 4 a22, 5 0, 6 a21, 7 a22
        Due.is("0 is no group", x.groups(0), 1);
        Due.row("0 is no group", x, 3, 1 + 8 + 64);
        x = Due.made(1, 1, 1, 2);
        for (int k = 0; k < 39; k++) {
            Due.write(x, "a11*b11*c11");
            x.adds();
        }
        Due.is("40", x.groups(2), 1);
        Due.row("40", x, 40, (1L << 40) - 1);
    }

    private static void spans() {
        FewProducts x = Due.made(2, 2, 2, 3,
            "a11-a12*b11*c11;-a11+a12*b11*c11;a11+a12*b11*c12;a12*b12*c12;a22*b21*c12;a21+a22*b22*c11+c12;a21*b22*c22");
        Due.is("a", x.spans(0), 4);
        Due.row("a: 0, 2, 4, 5", x, 1 + 4 + 16 + 32);
        Due.is("b", x.spans(1), 4);
        Due.row("b: 0, 3, 4, 5", x, 1 + 8 + 16 + 32);
        Due.is("c", x.spans(2), 3);
        Due.row("c: 0, 2, 6", x, 1 + 4 + 64);
        for (int v : NONE_SUCH) {
            Due.is("no such table", x.spans(v), -1);
        }
        Due.row("the row stays", x, 1 + 4 + 64);
        x.format(2, 2, 2, 2);
        Due.write(x, "a11+a12*b11*c11;a12+a21*b11*c11;a11+a21*b11*c11;a11+a12+a21*b11*c11");
        x.scheme();
        Due.is("over 2", x.spans(0), 3);
        Due.row("over 2: the third is a sum", x, 1 + 2 + 8);
        x.format(2, 2, 2, 3);
        Due.write(x, "a11+a12*b11*c11;a12+a21*b11*c11;a11+a21*b11*c11;a11+a12+a21*b11*c11");
        x.scheme();
        Due.is("over 3", x.spans(0), 3);
        Due.row("over 3: the third is none", x, 1 + 2 + 4);
        x.narrows(1, 1);
        x.narrows(0, 2);
        // a12 alone is left: 1, 1, 0, 1; b has nothing
        Due.is("with 0", x.spans(0), 1);
        Due.row("with 0", x, 1);
        Due.is("all 0", x.spans(1), 0);
        Due.row("all 0", x, 0);
        x = Due.made(3, 3, 3, 2);
        Due.is("nine", x.spans(0), 9);
        Due.row("nine", x, 0b001001001001001001001001001);
        Due.is("nine", x.spans(1), 9);
        Due.row("nine", x, 0b111111111);
    }
}
