/** Promises 14 to 24: flips, what is joined, shed, split, and sizes that change. */
public final class FlipsTest {
    private static final int[] NONE_SUCH = {-1, 40, Integer.MIN_VALUE, Integer.MAX_VALUE};

    public static void main(String[] args) {
        like();
        flips();
        flip();
        joins();
        joinsInOrder();
        sheds();
        shedsBySums();
        shedsInOrder();
        splits();
        plus();
        scales();
        narrows();
        widens();
        walks();
        Due.over();
    }

    private static void like() {
        FewProducts x = Due.made(1, 2, 1, 3, "a11-a12*b11*c11;-a11+a12*b21*-c11;a11+a12*b11*c11");
        x.sums();
        Due.is("by 2", x.like(0, 1, 0), 2);
        Due.is("by 2, back", x.like(1, 0, 0), 2);
        Due.is("by 1", x.like(0, 2, 1), 1);
        Due.is("itself", x.like(1, 1, 2), 1);
        Due.is("not by any", x.like(0, 2, 0), -2);
        Due.is("not by any", x.like(0, 1, 1), -2);
        x.narrows(1, 1);
        Due.is("0 and 0", x.like(0, 2, 1), -2);
        Due.is("0 and itself", x.like(0, 0, 1), -2);
        Due.is("0 and another", x.like(0, 1, 1), -2);
        for (int v : NONE_SUCH) {
            Due.is("no such i", x.like(v, 0, 0), -1);
            Due.is("no such j", x.like(0, v, 0), -1);
            Due.is("no such table", x.like(0, 0, v), -1);
        }
        Due.is("no such table", x.like(0, 1, 3), -1);
        Due.is("no such product", x.like(3, 0, 0), -1);
        Due.row("the row stays", x, 3, 0, 2);
        Due.is("over 2", Due.made(1, 1, 1, 2, "a11*b11*c11;-a11*b11*c11").like(0, 1, 0), 1);
    }

    private static void flips() {
        FewProducts x = Due.made(2, 2, 2, 2, Due.STRASSEN);
        Due.is("Strassen", x.flips(), 0);
        Due.row("Strassen", x, 0, 0, 0);
        x = Due.made(3, 2, 1, 3);
        // a: none; b: two places, three each; c: three places, two each
        Due.is("plain", x.flips(), 18);
        Due.row("plain", x, 0, 12, 6);
        x = Due.made(1, 2, 1, 3, "a11*b11*c11;-a11*b21*c11;a11*b21*-c11;a12*b11+b21*c11");
        Due.is("like by 2, too", x.flips(), 6 + 2 + 12);
        Due.row("like by 2, too", x, 6, 2, 12);
        x.narrows(1, 1);
        Due.is("none of a form that is 0", x.flips(), 0 + 6 + 12);
        Due.row("none of a form that is 0", x, 0, 6, 12);
    }

    private static void flip() {
        FewProducts x = Due.made(2, 2, 2, 3, "a11-a12*b11*c11;a12-a11*b12*c12;a22*b22*c22");
        x.sums();
        x.keeps();
        // -(a11 - a12) (b12)(c12): f is 2
        Due.is("at 0", x.flip(0, 1, 0), 0);
        Due.forms("at 0", x, 1 + 6, 1 + 6, 1, 1 + 6, 6, 2 + 3, 27, 27, 27);
        Due.is("gives the same", x.unlikes(), 0);
        x.sums();
        Due.is("i, j are one", x.flip(2, 2, 1), -2);
        Due.is("not like", x.flip(0, 1, 1), -3);
        Due.is("not like", x.flip(0, 2, 0), -3);
        for (int v : NONE_SUCH) {
            Due.is("no such i", x.flip(v, 0, 0), -1);
            Due.is("no such j", x.flip(0, v, 0), -1);
            Due.is("no such, both", x.flip(v, v, 0), -1);
            Due.is("no such table", x.flip(0, 1, v), -1);
            Due.is("no such table, one", x.flip(1, 1, v), -1);
        }
        Due.is("no such table", x.flip(0, 1, 3), -1);
        Due.is("no such product", x.flip(3, 0, 0), -1);
        Due.forms("nothing changed", x, 1 + 6, 1 + 6, 1, 1 + 6, 6, 2 + 3, 27, 27, 27);

        x = Due.made(1, 2, 2, 2, "a11*b11*c11;a12*b11*c21;a11*b11*c21");
        Due.is("at 1: u is 2, v is 0", x.flip(0, 1, 1), 0);
        Due.forms("at 1", x, 1, 1, 3, 3, 1, 2, 1, 1, 2);
        Due.is("at 2: u is 0, v is 1", x.flip(1, 2, 2), 1);
        Due.forms("at 2", x, 1, 1, 3, 2, 1, 2, 1, 0, 2);
        Due.is("all that have 0 count", x.flip(0, 1, 1), 1);
        Due.is("one with 0 there", x.flip(0, 2, 1), -3);
        x = Due.made(1, 1, 1, 3, "a11*b11*c11;a11*-b11*c11");
        Due.is("i and j 0 both", x.flip(0, 1, 0), 2);
        Due.forms("i and j 0 both", x, 1, 0, 1, 1, 2, 0);
    }

    private static void joins() {
        FewProducts x = Due.made(2, 2, 2, 2);
        x.flips();
        Due.is("plain", x.joins(), 0);
        Due.row("plain", x, 0, 0);
        x = Due.made(1, 1, 1, 3, "a11*b11*c11;a11*-b11*-c11;-a11*b11*c11");
        // 1 and 1 make 2, 2 and 2 make 1 more: 0
        x.keeps();
        Due.is("1 + 1 - 1", x.joins(), 2);
        Due.row("1 + 1 - 1", x, 0, 2);
        Due.forms("1 + 1 - 1", x, 1, 1, 1);
        Due.is("gives the same", x.unlikes(), 0);
        x = Due.made(1, 1, 1, 3, "a11*b11*c11;-a11*b11*c11");
        Due.is("1 - 1", x.joins(), 2);
        Due.row("1 - 1", x, 1, 1);
        x = Due.made(1, 2, 1, 3, "a11*-b11*c11;a12*b11*-c11;a12*b21*c11");
        Due.is("f 2, g 2", x.joins(), 1);
        Due.row("f 2, g 2", x, 0, 1);
        Due.forms("f 2, g 2: at 0 1 + 1", x, 1 + 3, 2, 1, 3, 3, 1);
        x = Due.made(1, 2, 1, 3, "a11*-b11*c11;a12*b11*c11");
        Due.is("f 2, g 1", x.joins(), 1);
        Due.forms("f 2, g 1: 1 - 1", x, 1 + 6, 2, 1);
        x = Due.made(2, 1, 2, 3, "a11*b11*c11;a11*b11*-c22");
        Due.is("at 2", x.joins(), 1);
        Due.forms("at 2", x, 1, 1, 1 + 54);
        x = Due.made(2, 1, 2, 3, "a11*b11*c11;a11*b12*-c11");
        Due.is("at 1", x.joins(), 1);
        Due.forms("at 1", x, 1, 1 + 6, 1);
        x = Due.made(1, 1, 1, 2);
        while (x.count(4) < 40) {
            Due.write(x, "a11*b11*c11");
            x.adds();
        }
        Due.is("40 that are one", x.joins(), 40);
        Due.row("40 that are one", x, 20, 20);
        Due.is("none is left", x.joins(), 0);
        Due.row("none is left", x, 0, 0);
    }

    private static void joinsInOrder() {
        // 0 with 1 at table 1 comes ahead of 0 with 3 at table 0, which then can be no more
        FewProducts x = Due.made(2, 2, 1, 2, "a12*b21*c11;a12*b11*c11;a21*b21*c12;a11*b21*c11");
        Due.is("0 with 1", x.joins(), 1);
        Due.row("0 with 1", x, 0, 1);
        Due.forms("0 with 1", x, 2, 3, 1, 4, 2, 2, 1, 2, 1);
        x = Due.made(2, 2, 1, 2, "a12*b21*c11;a21*b21*c12;a11*b21*c11;a12*b11*c11");
        Due.is("0 with 2 ahead of 0 with 3", x.joins(), 1);
        Due.forms("0 with 2", x, 3, 2, 1, 4, 2, 2, 2, 1, 1);
        x = Due.made(2, 2, 1, 2, "a11*b11*c11;a12*b21*c11;a12*b11*c11;a11*b21*c11");
        Due.is("0 with 2 at 0, then 1 with 3 at 0, then those", x.joins(), 3);
        Due.row("0 with 2", x, 0, 3);
        Due.forms("0 with 2", x, 3, 3, 1);
        x = Due.made(1, 1, 1, 2, "a11*b11*c11;a11*b11*c11;a11*b11*c11");
        Due.is("two, then one that is 0, one is left", x.joins(), 2);
        Due.row("two, then one that is 0", x, 1, 1);
        x = Due.made(2, 1, 1, 2, "a11*b11*c11;a21*b11*c12;a11*b11*c12");
        // 0 with 2 at 2: a11 b11 (c11 + c12); first of all pairs, though 1 with 2 at 0 could
        Due.is("0 with 2 at 2", x.joins(), 1);
        Due.forms("0 with 2 at 2", x, 1, 1, 3, 2, 1, 2);
        x = Due.made(3, 3, 1, 2, "a11+a21*b11*c11;a33*b31*c13;a22*b11*c12;a12*b11*c11");
        Due.is("narrows", x.narrows(0, 3), 1);
        Due.is("1 goes as 0, then 0 with 3", x.joins(), 2);
        Due.row("1 goes as 0", x, 1, 1);
        Due.forms("1 goes as 0", x, 1 + 2 + 8, 1, 1, 16, 1, 2);
    }

    private static void sheds() {
        FewProducts x = Due.made(2, 2, 2, 2);
        Due.is("plain", x.sheds(), 0);
        Due.row("plain", x, 0, 0, 0);
        x = Due.made(2, 2, 2, 3, "a11*b11*c11;-a11*b12*c12;a11*b11+b12*c22");
        x.keeps();
        Due.is("at 0", x.sheds(), 1);
        Due.row("at 0", x, 1, 0, 0);
        // b11 + b12 is b11 - (-b12): the second gets -c22, as its a is -a11
        Due.forms("at 0", x, 1, 1, 1 + 27, 2, 3, 3 + 54);
        Due.is("gives the same", x.unlikes(), 0);
        x = Due.made(2, 2, 2, 3, "a11*b11*c11;a11*b12*c12;-a11*b11-b12*c22");
        x.keeps();
        Due.is("j is the one with -", x.sheds(), 1);
        Due.forms("j is the one with -", x, 1, 1, 1 + 54, 1, 3, 3 + 27);
        Due.is("gives the same", x.unlikes(), 0);
        x = Due.made(2, 2, 2, 2, "a11*b11*c11;a12*b11*c12;a21*b11*c11+c12");
        x.keeps();
        Due.is("at 1, u is 2", x.sheds(), 1);
        Due.row("at 1", x, 0, 1, 0);
        Due.forms("at 1", x, 1 + 4, 1, 1, 2 + 4, 1, 2);
        Due.is("gives the same", x.unlikes(), 0);
        x = Due.made(2, 2, 2, 2, "a11*b11*c11;a12*b12*c11;a11+a12*b21*c11");
        x.keeps();
        Due.is("at 2, u is 0", x.sheds(), 1);
        Due.row("at 2", x, 0, 0, 1);
        Due.forms("at 2", x, 1, 1 + 4, 1, 2, 2 + 4, 1);
        Due.is("gives the same", x.unlikes(), 0);
        x = Due.made(2, 2, 2, 2, "a11*b11+b12*c11;a11*b11*c12;a11*b12*c22;a11*b21*c21");
        Due.is("v of none that is not in the sum changes", x.sheds(), 1);
        Due.forms("v of none that is not in the sum changes", x, 1, 3, 1 + 8, 1, 1, 2 + 8, 1, 4, 4);
        Due.is("no more", x.sheds(), 0);
        Due.row("no more", x, 0, 0, 0);
        x = Due.made(1, 1, 2, 2, "a11*b11*c11+c21");
        while (x.count(4) < 40) {
            Due.write(x, "a11*b11*c11");
            x.adds();
        }
        Due.is("39 go into the first", x.sheds(), 39);
        Due.row("39 go into the first", x, 39, 0, 0);
        Due.forms("39 go into the first", x, 1, 1, 2);
    }

    private static void shedsBySums() {
        // three of a line over 3: b11 + b12, b11 - b12, then b11 = 2 (both), b12 = 2 first + second
        FewProducts x = Due.made(2, 2, 2, 3, "a11*b11+b12*c11;a11*b11-b12*c12;a11*b11*c21;a11*b12*c22");
        x.keeps();
        Due.is("two go", x.sheds(), 2);
        Due.row("two go", x, 2, 0, 0);
        Due.forms("two go", x, 1, 1 + 3, 1 + 18 + 54, 1, 1 + 6, 3 + 18 + 27);
        Due.is("gives the same", x.unlikes(), 0);
        // the third is the sum of the first two: it is not taken, though the fourth is it, too
        x = Due.made(2, 2, 2, 2, "a11*b11*c11;a11*b12*c12;a12*b22*c22;a11*b11+b12*c21;a11*b11+b12*c22");
        Due.is("both sums go", x.sheds(), 2);
        Due.forms("both sums go", x, 1, 1, 1 + 4 + 8, 1, 2, 2 + 4 + 8, 2, 8, 8);
        // forms that are 0 are left aside, as j and as one ahead
        x = Due.made(3, 2, 2, 2, "a11+a31*b11*c13;a11*b11*c11;a11*b11*c12+c13;a31*b11*c11");
        Due.is("narrows", x.narrows(0, 3), 2);
        Due.is("1 and 2", x.sheds(), 1);
        Due.forms("the first, the last stay", x, 1, 1, 0, 1, 1, 3, 0, 1, 1);
        // one whose v becomes 0 is aside from then on
        x = Due.made(1, 2, 1, 2, "a11*b11*c11;a11*b11*c11;a11*b11*c11");
        Due.is("the second goes, the third stays", x.sheds(), 1);
        Due.forms("the first has 0", x, 1, 1, 0, 1, 1, 1);
    }

    private static void shedsInOrder() {
        // u is 1 first, though at u 2 an earlier j can
        FewProducts x = Due.made(2, 2, 2, 2, "a11*b11*c11;a11*b12*c11;a11*b11*c12;a22*b22*c22");
        Due.is("one at u 1, one at u 2", x.sheds(), 1);
        Due.row("at 0", x, 1, 0, 0);
        Due.forms("2 goes into 0", x, 1, 1, 3, 1, 2, 1, 8, 8, 8);
        // table 0 comes first, though at 1 an earlier one can
        x = Due.made(2, 2, 2, 2, "a11*b11*c11;a12*b11*c11;a22*b12*c12;a22*b12*c21");
        Due.is("two", x.sheds(), 2);
        Due.row("3 at 0, then 1 at 1", x, 1, 1, 0);
        Due.forms("two", x, 3, 1, 1, 8, 2, 6);
        // the first j that can
        x = Due.made(2, 2, 2, 2, "a11*b11*c11;a11*b11*c12;a11*b11*c21");
        Due.is("two", x.sheds(), 2);
        Due.forms("all in the first", x, 1, 1, 7);
        x = Due.made(2, 2, 2, 2, "a11*b11*c11;a11*b12*c12;a11*b11+b12*c12;a11*b12*c11+c12");
        // 2 goes: c12 to both: 1 has 0 then; so at u 1 there is but b11 ahead of the last; at u 2 it goes
        Due.is("two", x.sheds(), 2);
        Due.forms("two", x, 1, 3, 3, 1, 2, 0);
    }

    private static void splits() {
        FewProducts x = Due.made(2, 2, 2, 3);
        x.sums();
        x.keeps();
        Due.write(x, "a11-a22");
        Due.is("splits", x.splits(1, 0), 9);
        Due.is("the text is read", x.count(7), 0);
        Due.is("part", x.form(1, 0), 1 + 54);
        Due.is("rest", x.form(8, 0), 27);
        Due.is("as it was", x.form(8, 1), 3);
        Due.is("as it was", x.form(8, 2), 9);
        Due.is("gives the same", x.unlikes(), 0);
        Due.write(x, "-c21");
        Due.is("at 2", x.splits(1, 2), 10);
        Due.is("part", x.form(1, 2), 18);
        Due.is("rest: 1 - 2", x.form(9, 2), 18);
        x.sums();
        Due.write(x, "-c21");
        Due.is("it is what it was", x.splits(1, 2), -3);
        Due.is("the text is emptied", x.count(7), 0);
        for (int v : new int[] {-1, 10, Integer.MIN_VALUE, Integer.MAX_VALUE}) {
            Due.write(x, "a12");
            Due.is("no such product", x.splits(v, 0), -1);
            Due.write(x, "a12");
            Due.is("no such table, a form of 0", x.splits(0, v == 10 ? 3 : v), -1);
            Due.is("the text is emptied", x.count(7), 0);
            Due.write(x, "b12");
            Due.is("no such table, no form of 0", x.splits(0, v == 10 ? 3 : v), -21);
            Due.write(x, "a12*");
            Due.is("a fault comes first", x.splits(v, 0), -24);
        }
        splitFaults(x);
        Due.is("nothing changed", x.count(4), 10);
        while (x.count(4) < 40) {
            Due.write(x, x.number(0, 1, 3) == 0 ? "b22" : "b11");
            Due.is("more", x.splits(0, 1) > 0, true);
        }
        Due.write(x, "b12");
        Due.is("full", x.splits(0, 1), -2);
        Due.write(x, Due.formText(x.form(0, 1), 1, 2, 3));
        Due.is("full comes ahead of the same", x.splits(0, 1), -2);
        Due.write(x, "b12");
        Due.is("no such ahead of full", x.splits(40, 1), -1);
        Due.write(x, "");
        Due.is("a fault ahead of full", x.splits(0, 1), -21);
        Due.is("gives the same", x.unlikes(), 0);
    }

    private static void splitFaults(FewProducts x) {
        String[] texts = {"", "b", "b1", "b13", "b31", "b11+", "b11-b11", "b11;", "b11*", "c11", "+b11", "b11 "};
        int[] places = {0, 1, 2, 2, 1, 4, 6, 3, 3, 0, 0, 3};
        for (int k = 0; k < texts.length; k++) {
            Due.write(x, texts[k]);
            Due.is("splits " + texts[k], x.splits(0, 1), -21 - places[k]);
            Due.is("the text is emptied", x.count(7), 0);
        }
    }

    private static void plus() {
        FewProducts x = Due.made(2, 2, 2, 3, "a11*b11*c11;a22*b22*c22;a12*b21*c11");
        x.sums();
        x.keeps();
        Due.is("at 0", x.plus(0, 1, 0), 4);
        Due.forms("at 0", x, 1, 1 + 27, 1, 1, 27, 2 + 27, 3, 9, 1, 2 + 27, 27, 27);
        Due.is("gives the same", x.unlikes(), 0);
        Due.is("at 2: u is 0, v is 1", x.plus(1, 2, 2), 5);
        // 1: a11 b22 -c11+c22; 2: a12 b21 c11
        Due.forms("at 2", x, 1, 28, 1, 1 + 3, 27, 29, 3, 9 + 54, 29, 29, 27, 27, 3, 9, 2 + 54);
        Due.is("gives the same", x.unlikes(), 0);
        Due.is("at 1", x.plus(3, 0, 1), 6);
        Due.is("gives the same", x.unlikes(), 0);
        x.sums();
        Due.is("i, j are one", x.plus(2, 2, 0), -2);
        for (int v : NONE_SUCH) {
            Due.is("no such i", x.plus(v, 0, 0), -1);
            Due.is("no such j", x.plus(0, v, 0), -1);
            Due.is("no such table", x.plus(0, 1, v), -1);
            Due.is("no such, both", x.plus(v, v, 0), -1);
        }
        Due.is("no such table", x.plus(0, 1, 3), -1);
        Due.is("no such product", x.plus(6, 0, 0), -1);
        while (x.count(4) < 40) {
            Due.is("more", x.plus(0, 1, x.count(4) % 3) > 0, true);
        }
        Due.is("gives the same", x.unlikes(), 0);
        Due.is("full", x.plus(0, 1, 0), -3);
        Due.is("one ahead of full", x.plus(3, 3, 0), -2);
        Due.is("no such ahead of full", x.plus(0, 40, 0), -1);
    }

    private static void scales() {
        FewProducts x = Due.made(2, 2, 2, 3, "a11-a12*b11*c11;a22*b22*-c22");
        x.sums();
        x.keeps();
        Due.is("0 and 1", x.scales(0, 0, 2), 1);
        Due.forms("0 and 1", x, 2 + 3, 2, 1, 27, 27, 54);
        Due.is("2 and 0", x.scales(1, 2, 2), 1);
        Due.forms("2 and 0", x, 5, 2, 1, 54, 27, 27);
        Due.is("1 and 2", x.scales(0, 1, 2), 1);
        Due.forms("1 and 2", x, 5, 1, 2, 54, 27, 27);
        Due.is("by 1", x.scales(0, 1, 1), 1);
        Due.forms("by 1", x, 5, 1, 2, 54, 27, 27);
        Due.is("all are LIKE", x.others(), 0);
        x.sums();
        for (int v : new int[] {0, 3, 4, -1, Integer.MIN_VALUE, Integer.MAX_VALUE}) {
            Due.is("another f", x.scales(0, 0, v), -1);
        }
        for (int v : NONE_SUCH) {
            Due.is("no such product", x.scales(v, 0, 1), -1);
            Due.is("no such table", x.scales(0, v, 1), -1);
        }
        Due.is("no such table", x.scales(0, 3, 1), -1);
        Due.is("f 2 over 2", new FewProducts().scales(0, 0, 2), -1);
        Due.is("f 1 over 2", new FewProducts().scales(0, 0, 1), 1);
        x.narrows(2, 1);
        // b11 is 0 now: none is like it
        Due.is("one that has 0", x.scales(0, 0, 2), 0);
        Due.is("one that has 0, by 1", x.scales(0, 2, 1), 0);
        Due.is("the other", x.scales(1, 0, 2), 1);
    }

    private static void narrows() {
        FewProducts x = Due.made(3, 2, 3, 3, "a11-a21+a31-a32*b11-b12+b13-b23*c11-c12+c13-c33;a31*b13*c33;a12*b22*c21");
        x.sums();
        Due.is("n: rows of a, columns of c", x.narrows(0, 2), 0);
        Due.is("n", x.count(0), 2);
        Due.forms("n", x, 1 + 9 + 2 * 27, 1 + 6 + 9 + 2 * 243, 1 + 3 + 2 * 243,
                9, 9, 243, 3, 81, 9);
        Due.is("p: rows of c, columns of b", x.narrows(2, 3), 1);
        Due.is("p", x.count(2), 2);
        Due.forms("p", x, 1 + 9 + 54, 1 + 6, 1 + 3, 9, 0, 0, 3, 27, 9);
        Due.is("m: rows of b, columns of a", x.narrows(1, 1), 2);
        Due.is("m", x.count(1), 1);
        Due.forms("m", x, 2 * 3, 0, 1 + 3, 0, 0, 0, 1, 3, 9);
        Due.is("but one", x.narrows(1, 1), -2);
        Due.is("none such ahead of but one", x.narrows(1, 2), -1);
        for (int v : new int[] {-1, 3, Integer.MIN_VALUE, Integer.MAX_VALUE}) {
            Due.is("no such space", x.narrows(v, 1), -1);
            Due.is("no such line", x.narrows(0, v), -1);
        }
        Due.is("lines are from 1 on", x.narrows(0, 0), -1);
        Due.row("the row stays", x, 3, 3, 1);
        for (int space = 0; space < 3; space++) {
            for (int r = 1; r <= 3; r++) {
                FewProducts y = Due.made(3, 3, 3, 2);
                Due.is("plain: nine are 0", y.narrows(space, r), 9);
                Due.is("still right", y.checks(), 0);
            }
        }
    }

    private static void widens() {
        FewProducts x = Due.made(1, 2, 1, 3, "-a11+a12*b11-b21*-c11");
        x.sums();
        Due.is("n: rows of a, columns of c", x.widens(0), 3);
        Due.is("n", x.count(0), 2);
        Due.forms("n", x, 2 + 3, 1 + 6, 2, 9, 1, 3, 27, 3, 3);
        Due.is("p: rows of c, columns of b", x.widens(2), 7);
        Due.is("p", x.count(2), 2);
        Due.forms("p", x, 5, 1 + 2 * 9, 2, 9, 1, 3, 27, 9, 3,
                1, 3, 9, 3, 27, 9, 9, 3, 27, 27, 27, 27);
        Due.is("m: rows of b, columns of a", x.widens(1), 11);
        Due.is("m", x.count(1), 3);
        Due.is("a12 is at place 1, a21 at place 3", x.form(0, 0), 5);
        Due.is("a21 is at place 3", x.form(1, 0), 27);
        Due.is("a13", x.form(7, 0), 9);
        Due.is("b31", x.form(7, 1), 81);
        Due.is("c11", x.form(7, 2), 1);
        Due.is("a23 b32 c22", x.form(10, 0), 243);
        Due.is("a23 b32 c22", x.form(10, 1), 243);
        Due.is("a23 b32 c22", x.form(10, 2), 27);
        Due.is("three", x.widens(1), -2);
        for (int v : new int[] {-1, 3, Integer.MIN_VALUE, Integer.MAX_VALUE}) {
            Due.is("no such space", x.widens(v), -1);
        }
        Due.row("the row stays", x, 1, 1, 0);
        FewProducts y = Due.made(3, 3, 2, 2);
        while (y.count(4) < 31) {
            Due.write(y, "a11*b11*c11");
            y.adds();
        }
        Due.is("31 and 9", y.widens(2), 40);
        Due.is("three ahead of too many", y.widens(2), -2);
        y = Due.made(3, 3, 2, 2);
        while (y.count(4) < 32) {
            Due.write(y, "a11*b11*c11");
            y.adds();
        }
        Due.is("32 and 9", y.widens(2), -3);
        Due.is("nothing changed", y.count(2), 2);
        Due.is("even ones are nothing", y.checks(), 0);
        int[][] sizes = {{1, 2, 3}, {2, 3, 1}, {3, 1, 2}};
        for (int space = 0; space < 3; space++) {
            for (int many = 34; many <= 35; many++) {
                FewProducts z = Due.made(sizes[space][0], sizes[space][2], sizes[space][1], 2);
                // the space of size 1: the others have 2 and 3
                int one = z.count(0) == 1 ? 0 : z.count(1) == 1 ? 1 : 2;
                while (z.count(4) < many) {
                    Due.write(z, "a11*b11*c11");
                    z.adds();
                }
                Due.is("and six", z.widens(one), many == 34 ? 40 : -3);
                // the space of size 2: the others have 1 (or 2) and 3
                int two = z.count(0) == 2 ? 0 : z.count(1) == 2 ? 1 : 2;
                Due.is("and three", z.widens(two), many == 34 ? -3 : 38);
            }
        }
        for (int space = 0; space < 3; space++) {
            FewProducts z = new FewProducts();
            Due.is("plain", z.widens(space), 12);
            Due.is("right", z.checks(), 0);
            Due.is("singles", z.count(13), 12);
        }
    }

    /** Seeds that draw each of the 24 flips of the plain scheme of 2, 2, 2: by w, then i, then j. */
    private static void walkEach() {
        int[] steps = {1, 4, 2};
        for (int k = 0; k < 24; k++) {
            int seed = 1;
            while (seed * 16807L % 2147483647L % 24 != k) {
                seed++;
            }
            FewProducts x = new FewProducts();
            Due.is("a walk of one", x.walks(seed, 1), 8);
            int w = k / 8;
            int i = k % 8;
            // plain i, j, k is product 4 i + 2 j + k: a is shared over k, b over i, c over j
            int j = i ^ steps[w];
            FewProducts y = new FewProducts();
            Due.is("the flip", y.flip(i, j, w), 0);
            y.keeps();
            for (int at = 0; at < 24; at++) {
                Due.is("walk " + k + " form " + at, x.form(at / 3, at % 3), y.form(at / 3, at % 3));
            }
        }
    }

    private static void walks() {
        FewProducts x = new FewProducts();
        x.sums();
        for (int v : new int[] {0, -1, 101, Integer.MIN_VALUE, Integer.MAX_VALUE}) {
            Due.is("another n", x.walks(5, v), -1);
        }
        for (int v : new int[] {0, -1, Integer.MIN_VALUE, Integer.MAX_VALUE}) {
            Due.is("another seed", x.walks(v, 5), -1);
        }
        Due.row("the row stays", x, 0, 0, 4);
        // 16807 modulo 24 is 7: the eighth at a, of 0 1, 1 0, 2 3, 3 2, 4 5, 5 4, 6 7, 7 6
        Due.is("one step", x.walks(1, 1), 8);
        Due.row("one step", x, 1, 16807);
        Due.is("b of 7", x.form(7, 1), 8 + 4);
        Due.is("c of 6", x.form(6, 2), 2 + 8);
        Due.is("right", x.checks(), 0);
        x = new FewProducts();
        // 2 x 16807 modulo 24 is 14: the seventh at b, of 0 4, 1 5, 2 6, 3 7, 4 0, 5 1, 6 2, 7 3
        Due.is("one step", x.walks(2, 1), 8);
        Due.row("one step", x, 1, 33614);
        Due.is("c of 6: u is 2", x.form(6, 2), 2 + 1);
        Due.is("a of 2: v is 0", x.form(2, 0), 2 + 8);
        walkEach();
        x = Due.made(1, 2, 1, 2);
        // two products, c alike: flips 0 1, 1 0 at c
        Due.is("no more than two", x.walks(2147483646, 100), 2);
        Due.is("all were flips", Due.numberOf(x, 0), 100);
        Due.is("right", x.checks(), 0);
        x = Due.made(1, 1, 1, 2, "a11*b11*c11;a11*b11*c11;a11*b11*c11");
        // one flip gives a form 0, then one goes as 0 and so on: none is left to flip
        Due.is("joined", x.walks(1, 2), 1);
        Due.row("x goes on", x, 1, 282475249);
        x = Due.made(2, 1, 1, 2, "a11*b11*c11;a21*b11*c12");
        x.narrows(0, 1);
        x.drops(1);
        Due.is("without a flip none is joined", x.walks(1, 1), 1);
        Due.row("without a flip none is done", x, 0, 16807);
        x = Due.made(3, 3, 3, 3);
        for (int k = 1; k <= 20; k++) {
            Due.is("few", x.walks(k, 100) <= 27, true);
            Due.is("right", x.checks(), 0);
        }
    }
}
