/** Promises 34 to 40: what is kept, whether it lifts, counts, the row. */
public final class KeptTest {
    public static void main(String[] args) {
        keeps();
        others();
        unlikes();
        back();
        lifts();
        liftsNot();
        count();
        row();
        Due.over();
    }

    private static void keeps() {
        FewProducts x = Due.made(1, 2, 1, 3);
        Due.is("none yet", x.count(5), -1);
        x.sums();
        Due.is("keeps", x.keeps(), 2);
        Due.row("the row stays", x, 0, 0, 1);
        Due.is("kept", x.count(5), 2);
        x.drops(1);
        x.scales(0, 0, 2);
        Due.is("what is kept stays", x.count(5), 2);
        Due.is("what is kept stays", x.back(), 2);
        Due.forms("what is kept stays", x, 1, 1, 1, 3, 3, 1);
        x.drops(0);
        x.drops(0);
        Due.is("none, in place of two", x.keeps(), 0);
        Due.is("none, in place of two", x.count(5), 0);
        Due.write(x, "a11*b21*c11");
        x.adds();
        Due.is("none, in place of two", x.back(), 0);
    }

    private static void others() {
        FewProducts x = Due.made(2, 2, 2, 3, "a11*b11*c11;a11*b11*c11;-a12*b21*c11;a11-a22*b22*-c12");
        x.sums();
        Due.is("nothing kept", x.others(), -2);
        Due.row("the row stays", x, 1, 0, 2);
        x.keeps();
        Due.is("all the same", x.others(), 0);
        Due.row("all the same", x, 0);
        Due.write(x, "-a11+a22*-b22*-c12;a12*-b21*c11;-a11*b11*-c11");
        x.scheme();
        Due.is("like by signs, in another order", x.others(), 0);
        Due.row("one is left over", x, 1);
        Due.write(x, "a11*-b11*-c11;a11*b11*c11;-a11*-b11*c11;a12*b21*c11;a22*b22*c22");
        x.scheme();
        Due.is("one too many, one by -1, a new one", x.others(), 3);
        Due.row("two left over", x, 2);
        x.back();
        x.widens(0);
        Due.is("other n: none is like", x.others(), 8);
        Due.row("other n: none is like", x, 4);
        x.narrows(0, 3);
        Due.is("the four that are new have 0", x.others(), 4);
        Due.row("the four that are new have 0", x, 0);
        x.keeps();
        Due.is("what has 0 is like none, itself neither", x.others(), 4);
        Due.row("what has 0 is like none, itself neither", x, 4);
    }

    private static void unlikes() {
        FewProducts x = Due.made(1, 2, 2, 3);
        x.sums();
        Due.is("nothing kept", x.unlikes(), -2);
        Due.row("the row stays", x, 0, 0, 2);
        x.keeps();
        Due.is("the same", x.unlikes(), 0);
        Due.row("the same", x);
        x.flip(0, 1, 0);
        Due.is("a flip gives the same", x.unlikes(), 0);
        Due.write(x, "a12*-b12-b22*c21+c11");
        x.adds();
        Due.is("four places", x.unlikes(), 4);
        Due.row("a12 b12 c11", x, 1, 1, 0);
        x.rolls();
        x.sums();
        Due.is("other n, m, p", x.unlikes(), -3);
        Due.is("the row stays", x.count(6), 3);
        x.rolls();
        x.rolls();
        Due.is("the same n, m, p", x.unlikes(), 4);
        x.format(1, 2, 2, 3);
        Due.is("kept no more", x.unlikes(), -2);
        x = Due.made(2, 2, 2, 2, "a22*b22*c22;a22*b22*c22");
        x.keeps();
        x.drops(0);
        x.drops(0);
        Due.is("two give nothing over 2", x.unlikes(), 0);
        x = Due.made(2, 2, 2, 2, "a22*b22*c22");
        x.keeps();
        x.drops(0);
        Due.is("the last place", x.unlikes(), 1);
        Due.row("the last place", x, 3, 3, 3);
        Due.write(x, "a11*b11*c11");
        x.adds();
        Due.is("the first place, too", x.unlikes(), 2);
        Due.row("the first place, too", x, 0, 0, 0);
    }

    private static void back() {
        FewProducts x = Due.made(2, 2, 2, 3, Due.STRASSEN);
        Due.is("nothing kept", x.back(), -2);
        x.keeps();
        x.widens(1);
        Due.is("other m", x.back(), -3);
        Due.is("other m", x.count(4), 11);
        x.narrows(1, 1);
        x.sums();
        Due.is("m again", x.back(), 7);
        Due.is("right", x.checks(), 0);
        Due.is("first", x.form(0, 0), 28);
        Due.is("still kept", x.count(5), 7);
        x.drops(0);
        Due.is("again", x.back(), 7);
        x.format(2, 2, 2, 3);
        Due.is("kept no more", x.back(), -2);
        x = Due.made(1, 2, 3, 2);
        x.keeps();
        x.mirrors();
        Due.is("other p", x.back(), -3);
        x.mirrors();
        x.sums();
        Due.is("the same", x.back(), 6);
        Due.row("the row stays", x, 0, 0, 3);
    }

    private static void lifts() {
        FewProducts x = Due.made(1, 1, 1, 2);
        Due.is("one", x.lifts(), 1);
        Due.row("one equation, three unknowns", x, 1, 3);
        Due.write(x, "a11*b11*c11;a11*b11*c11;a11*b11*c11");
        x.scheme();
        Due.is("three: 3 and 2 is 5", x.lifts(), 1);
        Due.row("three", x, 1, 9);
        x = Due.made(1, 1, 2, 2);
        // a line of n 1 meets everywhere: all four places are reached
        Due.is("1 1 2", x.lifts(), 1);
        Due.row("1 1 2", x, 4, 2 * 5);
        x.sums();
        x.drops(0);
        Due.is("not right", x.lifts(), -3);
        Due.row("the row stays", x, 0, 0, 0);
        Due.is("over 3", Due.made(2, 2, 2, 3).lifts(), -2);
        x = Due.made(2, 2, 2, 3);
        x.drops(0);
        Due.is("over 3, and not right", x.lifts(), -2);
        x = Due.made(2, 2, 2, 2, Due.STRASSEN);
        Due.is("Strassen", x.lifts(), 1);
        Due.is("Strassen: unknowns", Due.numberOf(x, 1), 84);
        x = Due.made(3, 3, 3, 2);
        Due.is("plain 3", x.lifts(), 1);
        // of 729 places those where one of the three lines meets are reached: all but 8 of 27
        Due.row("plain 3", x, 513, 729);
        x = new FewProducts();
        Due.is("plain 2", x.lifts(), 1);
        Due.row("plain 2: all but 1 of 8", x, 56, 96);
        x.narrows(0, 2);
        Due.is("with those that have 0", x.lifts(), 1);
        Due.is("with those that have 0: unknowns", Due.numberOf(x, 1), 8 * 8);
    }

    private static void liftsNot() {
        FewProducts x = Due.coded(Due.LIFTLESS_23);
        Due.is("23: right", x.checks(), 0);
        Due.is("23", x.lifts(), 0);
        Due.row("23", x, 538, 621);
        x = Due.coded(Due.LIFTLESS_24);
        Due.is("24: right", x.checks(), 0);
        Due.is("24", x.lifts(), 0);
        Due.row("24", x, 553, 648);
        Due.is("turned round it is the same", x.rolls(), 24);
        Due.is("turned round it is the same", x.lifts(), 0);
        Due.row("turned round it is the same", x, 553, 648);
    }

    private static void count() {
        FewProducts x = Due.made(1, 2, 3, 3, "a11-a12*b11*c11;a12-a11*b11*c31;a12*-b11+b12*c11;a11*b11*-c31");
        int[] due = {1, 2, 3, 3, 4, -1, 0, 0, 0, 15, 3, 2, 2, 1};
        for (int what = 0; what < due.length; what++) {
            Due.is("count " + what, x.count(what), due[what]);
        }
        for (int what : new int[] {14, -1, Integer.MIN_VALUE, Integer.MAX_VALUE}) {
            Due.is("count " + what, x.count(what), -1);
        }
        x.keeps();
        x.sums();
        x.sign(1);
        x.narrows(2, 1);
        // b11, c11 are gone: b of all but the third, c of the first and third
        int[] then = {1, 2, 2, 3, 4, 4, 3, 4, 4, 9, 3, 1, 1, 0};
        for (int what = 0; what < then.length; what++) {
            Due.is("then count " + what, x.count(what), then[what]);
        }
        x = Due.made(2, 2, 2, 2, "a11*b11*c11;a11*b12*c11+c12;a12*b12*c12");
        Due.is("over 2: a", x.count(10), 2);
        Due.is("over 2: b", x.count(11), 2);
        Due.is("over 2: c", x.count(12), 3);
        Due.is("over 2: singles", x.count(13), 2);
    }

    private static void row() {
        FewProducts x = new FewProducts();
        Due.row("at first", x);
        x.flips();
        Due.row("told", x, 8, 8, 8);
        x.keeps();
        x.rolls();
        x.count(9);
        Due.row("calls that tell nothing", x, 8, 8, 8);
        x.format(1, 1, 1, 2);
        Due.row("a new format", x, 8, 8, 8);
        x.given(9, 9, 9);
        x.groups(-1);
        Due.row("refused", x, 8, 8, 8);
        x.checks();
        Due.row("nothing to tell", x);
    }
}
