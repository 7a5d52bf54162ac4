import java.util.function.Supplier;
import java.util.function.ToLongFunction;

/** The boundary cases of promises 34 to 40, sentence by sentence, and of the terms on the row and the text. */
public final class KeptBoundsTest {
    public static void main(String[] args) {
        keeps();
        others();
        othersRefused();
        unlikes();
        unlikesRefused();
        back();
        backRefused();
        lifts();
        liftsRefused();
        countBounds();
        countEmptyAndFull();
        row();
        rowTold();
        rowStays();
        asks();
        textStays();
        Bounds.over(34, 40);
    }

    // ---- promises 34 and 35

    private static void keeps() {
        Bounds.says(34, "The SCHEME is KEPT (in place of another one): how many PRODUCTS.");
        FewProducts x = Bounds.ones(1, 1, 1, 2, 40);
        Bounds.is("nothing yet", x.count(5), -1);
        Bounds.is("40", x.keeps(), 40);
        Bounds.is("40", x.count(5), 40);
        Due.write(x, "a11*b11*c11;a11*b11*c11");
        x.scheme();
        Bounds.is("40 stay kept", x.count(5), 40);
        Bounds.is("two in place of 40", x.keeps(), 2);
        Bounds.is("two in place of 40", x.count(5), 2);
        x.drops(1);
        x.drops(0);
        Bounds.is("none in place of two", x.keeps(), 0);
        Bounds.is("none is not NONE", x.count(5), 0);
        Bounds.is("none is kept all the same", x.others(), 0);
        x.format(2, 1, 1, 2);
        Bounds.is("again behind format", x.keeps(), 2);
        x.narrows(0, 1);
        Bounds.is("with other n, m, p in place of it", x.keeps(), 2);
        Bounds.is("with other n, m, p in place of it", x.unlikes(), 0);
        Bounds.asks("changes nothing but what is kept", () -> keptRich(), y -> y.keeps(), 4);
    }

    private static FewProducts keptRich() {
        FewProducts x = Bounds.rich();
        x.keeps();
        return x;
    }

    private static void others() {
        Bounds.says(35, "(each KEPT one counts for one that is LIKE it; none is LIKE one of other n, m, p)");
        FewProducts x = Bounds.ones(1, 1, 1, 3, 2);
        x.keeps();
        Bounds.is("two of two", x.others(), 0);
        Bounds.row("two of two", x, 0);
        x = Bounds.ones(1, 1, 1, 3, 1);
        x.keeps();
        Due.write(x, "a11*b11*c11;-a11*-b11*c11;-a11*b11*-c11");
        x.scheme();
        Bounds.is("three LIKE the one that is kept", x.others(), 2);
        Bounds.row("three LIKE the one that is kept", x, 0);
        x.keeps();
        x.drops(0);
        x.drops(0);
        Bounds.is("one of three", x.others(), 0);
        Bounds.row("one of three", x, 2);
        x.drops(0);
        Bounds.is("none of three", x.others(), 0);
        Bounds.row("none of three", x, 3);
        x.keeps();
        Bounds.is("none of none", x.others(), 0);
        Bounds.row("none of none", x, 0);
        Due.write(x, "a11*b11*c11");
        x.adds();
        Bounds.is("one of none", x.others(), 1);
        Bounds.row("one of none", x, 0);
        x = Bounds.ones(1, 1, 1, 2, 40);
        x.keeps();
        Bounds.is("40 of 40", x.others(), 0);
        Bounds.row("40 of 40", x, 0);
        Due.write(x, Bounds.ONE);
        x.scheme();
        Bounds.is("one of 40", x.others(), 0);
        Bounds.row("one of 40", x, 39);
        for (int space = 0; space < 3; space++) {
            FewProducts y = Due.made(1, 1, 1, 2);
            y.keeps();
            y.widens(space);
            Bounds.is("other n, m, p", y.others(), 2);
            Bounds.row("other n, m, p", y, 1);
            y.narrows(space, 2);
            Bounds.is("n, m, p again: the new one has 0", y.others(), 1);
            Bounds.row("n, m, p again", y, 0);
        }
        Bounds.says(35, "of which a FORM is 0 is LIKE none, itself neither");
        x = Due.made(2, 1, 1, 3);
        x.narrows(0, 1);
        x.keeps();
        Bounds.is("one that has 0", x.others(), 1);
        Bounds.row("one that has 0", x, 1);
        Bounds.asks("changes nothing else", Bounds::rich, y -> y.others(), 0);
    }

    private static void othersRefused() {
        Bounds.says(35, "-2: nothing is KEPT.");
        Bounds.refused("a new object", FewProducts::new, x -> x.others(), -2);
        Bounds.refused("no product", Bounds::empty, x -> x.others(), -2);
        FewProducts x = Bounds.full();
        x.format(2, 1, 2, 2);
        Bounds.is("behind format", x.others(), -2);
        Bounds.row("behind format", x, 2 - 1 + (1L << 39));
    }

    // ---- promises 36 and 37

    private static void unlikes() {
        Bounds.says(36, "the first such by x, then y, then z (none, if there is none)");
        FewProducts x = Due.made(2, 2, 2, 2);
        x.keeps();
        x.flips();
        Bounds.is("the same", x.unlikes(), 0);
        Bounds.row("the same", x);
        for (String more : new String[] {"a22*b22*c22", "a12*b11*c11", "a11*b12*c11", "a11*b11*c12"}) {
            Due.write(x, more);
            x.adds();
        }
        Bounds.is("four", x.unlikes(), 4);
        Bounds.row("z is the last to go on", x, 0, 0, 1);
        x.drops(11);
        Bounds.is("three", x.unlikes(), 3);
        Bounds.row("then y", x, 0, 1, 0);
        x.drops(10);
        Bounds.is("two", x.unlikes(), 2);
        Bounds.row("then x", x, 1, 0, 0);
        x.drops(9);
        Bounds.is("the last PLACES alone", x.unlikes(), 1);
        Bounds.row("the last PLACES alone", x, 3, 3, 3);
        x = Bounds.ones(3, 3, 3, 3, 0);
        x.keeps();
        Bounds.is("none and none", x.unlikes(), 0);
        for (int k = 0; k < 27; k++) {
            int n = 1 + k % 3;
            int m = 1 + k / 3 % 3;
            int p = 1 + k / 9;
            x = Bounds.ones(n, m, p, 3, 0);
            x.keeps();
            Due.write(x, "-" + Bounds.whole(n, m, p));
            x.adds();
            Bounds.is("all PLACES", x.unlikes(), n * m * m * p * p * n);
            Bounds.row("all PLACES", x, 0, 0, 0);
        }
        x = Bounds.ones(1, 1, 1, 3, 40);
        x.keeps();
        Due.write(x, Bounds.ONE);
        x.scheme();
        Bounds.is("40 modulo 3 and 1", x.unlikes(), 0);
        Bounds.asks("changes nothing else", Bounds::rich, y -> y.unlikes(), 1);
    }

    private static FewProducts otherShape(int space) {
        FewProducts x = Due.made(2, 2, 2, 3);
        x.keeps();
        x.sums();
        x.narrows(space, 2);
        return Due.write(x, Bounds.ONE);
    }

    private static void unlikesRefused() {
        Bounds.says(36, "-2: nothing is KEPT; -3: it was KEPT with other n, m, p.");
        Bounds.refused("a new object", FewProducts::new, x -> x.unlikes(), -2);
        Bounds.refused("no product", Bounds::empty, x -> x.unlikes(), -2);
        for (int space = 0; space < 3; space++) {
            int at = space;
            Bounds.refused("another size of " + space, () -> otherShape(at), x -> x.unlikes(), -3);
            FewProducts x = otherShape(space);
            x.narrows((space + 1) % 3, 1);
            Bounds.is("two other sizes", x.unlikes(), -3);
            x = otherShape(space);
            x.widens(space);
            Bounds.is("the same again", x.unlikes() >= 0, true);
        }
        FewProducts x = Due.made(1, 2, 3, 2);
        x.keeps();
        x.rolls();
        Bounds.is("the sizes in another order", x.unlikes(), -3);
        x.format(1, 2, 3, 2);
        Bounds.is("the same sizes behind format: nothing is KEPT", x.unlikes(), -2);
    }

    private static void back() {
        Bounds.says(37, "The SCHEME is the one KEPT: how many PRODUCTS.");
        FewProducts x = Bounds.ones(1, 1, 1, 2, 40);
        x.keeps();
        Due.write(x, Bounds.ONE);
        x.scheme();
        Bounds.is("40 for one", x.back(), 40);
        Bounds.is("40 for one", x.count(4), 40);
        x = Bounds.ones(1, 2, 1, 2, 0);
        x.keeps();
        Due.write(x, Bounds.ONE + ";" + Bounds.ONE);
        x.scheme();
        Bounds.is("none for two", x.back(), 0);
        Bounds.is("none for two", x.count(4), 0);
        Bounds.is("it stays kept", x.count(5), 0);
        x = Due.made(2, 2, 2, 3, "-a21*b12*c22;a11*b11*c11");
        x.keeps();
        x.shears(0, 2, 1, 1);
        x.swaps(2, 1, 2);
        x.drops(0);
        Bounds.is("back", x.back(), 2);
        Bounds.forms("as it was kept", x, 18, 3, 27, 1, 1, 1);
        x.drops(1);
        Bounds.is("what is done then does not change what is kept", x.back(), 2);
        Bounds.forms("as it was kept", x, 18, 3, 27, 1, 1, 1);
        FewProducts y = Bounds.rich();
        y.back();
        Bounds.row("the row stays", y, 2, 0, 0);
        Bounds.is("the text stays", y.count(7), 12);
    }

    private static void backRefused() {
        Bounds.says(37, "-2: nothing is KEPT; -3: it was KEPT with other n, m, p.");
        Bounds.refused("a new object", FewProducts::new, x -> x.back(), -2);
        Bounds.refused("no product", Bounds::empty, x -> x.back(), -2);
        for (int space = 0; space < 3; space++) {
            int at = space;
            Bounds.refused("another size of " + space, () -> otherShape(at), x -> x.back(), -3);
            FewProducts x = otherShape(space);
            x.widens(space);
            Bounds.is("the same again: it is still kept", x.back(), 8);
            Bounds.is("the same again", x.checks(), 0);
        }
        FewProducts x = Due.made(1, 2, 3, 2);
        x.keeps();
        x.rolls();
        Bounds.is("the sizes in another order", x.back(), -3);
        x.rolls();
        x.rolls();
        Bounds.is("in that order again", x.back(), 6);
    }

    // ---- promise 38

    private static void lifts() {
        Bounds.says(38, "by which GIVEN is NEEDED modulo 4: 1, else 0");
        for (int many = 1; many <= 39; many += 2) {
            FewProducts x = Bounds.ones(1, 1, 1, 2, many);
            Bounds.is(many + " modulo 4", x.lifts(), 1);
            Bounds.row("one equation", x, 1, 3 * many);
        }
        FewProducts x = Due.made(2, 1, 1, 2, "a11*b11*c11;a21*b11*c12;a21*b11*c11;a21*b11*c11");
        x.narrows(0, 2);
        Bounds.is("with those that have 0", x.lifts(), 1);
        Bounds.row("with those that have 0", x, 1, 3 * 4);
        x = Due.coded(Due.LIFTLESS_23);
        for (int k = 0; k < 2; k++) {
            Bounds.is("RIGHT, but not to be lifted", x.lifts(), 0);
            Bounds.row("RIGHT, but not to be lifted: the rank starts again", x, 538, 621);
        }
        x.format(1, 2, 3, 2);
        Bounds.is("smaller ones then", x.lifts(), 1);
        Bounds.row("smaller ones then", x, 36, 6 * 11);
        Bounds.says(38, "the rank of their left sides, how many unknowns there are");
        for (int k = 0; k < 27; k++) {
            int n = 1 + k % 3;
            int m = 1 + k / 3 % 3;
            int p = 1 + k / 9;
            x = Due.made(n, m, p, 2);
            Bounds.is("plain", x.lifts(), 1);
            // an unknown of product i j k is in one equation: x, y, z of it, but for one of the three; all others have 0
            int reached = 0;
            for (int e = 0; e < n * m * m * p * p * n; e++) {
                int a = e % (n * m);
                int b = e / (n * m) % (m * p);
                int c = e / (n * m * m * p);
                boolean ab = a % m == b / p;
                boolean bc = b % p == c / n;
                boolean ca = c % n == a / m;
                reached += ab || bc || ca ? 1 : 0;
            }
            Bounds.row("plain", x, reached, (long) n * m * p * (n * m + m * p + p * n));
        }
        Bounds.asks("changes nothing else", KeptBoundsTest::right, y -> y.lifts(), 1);
    }

    private static FewProducts right() {
        FewProducts x = Due.made(2, 2, 2, 2, Due.STRASSEN);
        x.keeps();
        x.sums();
        return Due.write(x, "a11+a12*b21*c22");
    }

    private static FewProducts wrong(int q) {
        FewProducts x = Due.made(2, 2, 2, q);
        x.keeps();
        x.drops(7);
        x.sums();
        return Due.write(x, "a11+a12*b21*c22");
    }

    private static void liftsRefused() {
        Bounds.says(38, "-2: q is not 2");
        Bounds.refused("3", Bounds::rich, x -> x.lifts(), -2);
        Bounds.is("3, and RIGHT", Due.made(1, 1, 1, 3).lifts(), -2);
        Bounds.refused("3, and not RIGHT: the first told", () -> wrong(3), x -> x.lifts(), -2);
        Bounds.says(38, "-3: it is not RIGHT.");
        Bounds.refused("the last PLACES are missing", () -> wrong(2), x -> x.lifts(), -3);
        Bounds.refused("of 40", Bounds::full, x -> x.lifts(), -3);
        Bounds.is("no product", Bounds.ones(1, 1, 1, 2, 0).lifts(), -3);
        Bounds.is("two that are one", Bounds.ones(1, 1, 1, 2, 2).lifts(), -3);
        FewProducts x = Due.write(new FewProducts(), "a11*b11*c12");
        x.adds();
        Bounds.is("one too many", x.lifts(), -3);
        for (int k = 0; k < 27; k++) {
            int n = 1 + k % 3;
            int m = 1 + k / 3 % 3;
            int p = 1 + k / 9;
            x = Due.made(n, m, p, 2);
            Due.write(x, "a" + n + m + "*b" + m + p + "*c" + p + n);
            x.adds();
            Bounds.is("the last PLACES alone are not RIGHT", x.lifts(), -3);
            x.drops(0);
            Due.write(x, Bounds.ONE);
            x.adds();
            x.drops(x.count(4) - 2);
            Bounds.is("RIGHT again", x.lifts(), 1);
        }
    }

    // ---- promise 39

    private static void countBounds() {
        Bounds.says(39, "NONE for another what.");
        for (int what : new int[] {-1, -2, 14, 15, 40, Integer.MIN_VALUE, Integer.MAX_VALUE}) {
            Bounds.refused("what " + what, Bounds::rich, x -> x.count(what), -1);
        }
        int[] due = {2, 3, 2, 3, 4, 5, 3, 12, 0, 15, 3, 4, 4, 1};
        for (int what = 0; what <= 13; what++) {
            int at = what;
            Bounds.refused("what " + what, Bounds::rich, x -> x.count(at), due[what]);
        }
        Bounds.says(39, "5: PRODUCTS that are KEPT (NONE)");
        Bounds.is("nothing is KEPT", new FewProducts().count(5), -1);
        FewProducts x = Bounds.ones(1, 1, 1, 2, 0);
        x.keeps();
        Bounds.is("none is KEPT", x.count(5), 0);
        x.format(1, 1, 1, 2);
        Bounds.is("nothing is KEPT again", x.count(5), -1);
    }

    private static void countEmptyAndFull() {
        Bounds.says(39, "4: PRODUCTS");
        int[] none = {2, 2, 2, 3, 0, -1, 3, 12, 0, 0, 0, 0, 0, 0};
        int[] all = {2, 1, 2, 2, 40, 1, 1, 11, 0, 121, 2, 2, 2, 39};
        for (int what = 0; what <= 13; what++) {
            Bounds.is("no product, what " + what, Bounds.empty().count(what), none[what]);
            Bounds.is("40 products, what " + what, Bounds.full().count(what), all[what]);
        }
        Bounds.says(39, "unlike FORMS (LIKE ones being one, those that are 0 aside)");
        FewProducts x = Due.made(2, 2, 1, 3, "a11*b11*c11;-a11*b21*-c11;a21*-b11*c12;a12*b21*c11+c12");
        int[] ahead = {3, 2, 3};
        for (int t = 0; t < 3; t++) {
            Bounds.is("table " + t, x.count(10 + t), ahead[t]);
        }
        x.narrows(0, 2);
        int[] then = {2, 2, 1};
        for (int t = 0; t < 3; t++) {
            Bounds.is("with 0, table " + t, x.count(10 + t), then[t]);
        }
        Bounds.says(39, "8: PRODUCTS of which a FORM is 0");
        Bounds.is("one, by two FORMS", x.count(8), 1);
        Bounds.says(39, "13: PRODUCTS each of whose FORMS has just one NUMBER that is not 0");
        Bounds.is("three; 0 is not one", x.count(13), 3);
        String[] twos = {"a11+a12*b11*c11", "a11*b11+b21*c11", "a11*b11*c11+c21", "a11*b11*-c11", "a12*b22*c21"};
        for (int k = 0; k < twos.length; k++) {
            Bounds.is(twos[k], Due.made(2, 2, 2, 3, twos[k]).count(13), k < 3 ? 0 : 1);
        }
        Bounds.says(39, "7: signs of THE TEXT");
        for (int k = 0; k < 100; k++) {
            Bounds.is("signs", x.count(7), 4 * k);
            x.sign(k);
        }
        Bounds.is("full", x.count(7), 400);
        x.sign(0);
        Bounds.is("one more is refused", x.count(7), 400);
        x.scheme();
        Bounds.is("it starts again", x.count(7), 0);
    }

    // ---- promise 40, the row

    private static void row() {
        Bounds.says(40, "NoSuchElementException: none such.");
        Bounds.row("at first", new FewProducts());
        Bounds.row("three", Bounds.rich(), 2, 0, 0);
        FewProducts x = Due.made(3, 3, 3, 3);
        Due.write(x, "1,0,0,0,1,0,0,0,1,0,1,2,0,1,2,0,1,2");
        Bounds.is("the longest", x.multiplies(), 0);
        Bounds.row("the longest", x, 0, 0, 0, 1, 1, 1, 2, 2, 2);
        x.spans(0);
        Bounds.row("one behind nine", x, 1 + 8 + 64 + (1 << 9) + (1 << 12) + (1 << 15) + (1 << 18) + (1 << 21) + (1 << 24));
        x.checks();
        Bounds.row("none behind one", x);
        x = Bounds.ones(1, 1, 1, 2, 40);
        x.groups(0);
        Bounds.row("40 bits", x, 40, (1L << 40) - 1);
        for (int i : new int[] {-1, 3, Integer.MIN_VALUE, Integer.MAX_VALUE}) {
            Bounds.refused("row " + i + " throws", Bounds::rich, y -> Due.numberOf(y, i), Long.MIN_VALUE);
        }
        Bounds.refused("row 2", Bounds::rich, y -> Due.numberOf(y, 2), 0);
        Bounds.refused("row 0", Bounds::rich, y -> Due.numberOf(y, 0), 2);
    }

    private static void told(String what, Supplier<FewProducts> make, ToLongFunction<FewProducts> call, int numbers) {
        FewProducts x = make.get();
        Bounds.is(what, call.applyAsLong(x) >= 0, true);
        Bounds.is(what + ": numbers of the ROW", x.count(6), numbers);
    }

    private static void rowTold() {
        Bounds.says(40, "ROW of numbers: told last by a call that says so");
        told("checks", KeptBoundsTest::right, x -> x.checks(), 0);
        told("checks", Bounds::rich, x -> x.checks(), 5);
        told("given", Bounds::rich, x -> x.given(0, 0, 0), 2);
        told("multiplies", Bounds::rich, x -> Due.write(x, "1,1,1,1,1,1,1,1,1,1,1,1").multiplies(), 4);
        told("sums", Bounds::full, x -> x.sums(), 3);
        told("flips", Bounds::full, x -> x.flips(), 3);
        told("joins", Bounds::rich, x -> x.joins(), 2);
        told("sheds", Bounds::full, x -> x.sheds(), 3);
        told("walks", Bounds::rich, x -> x.walks(1, 1), 2);
        told("uses", Bounds::full, x -> x.uses(0, 0), 2);
        told("uses", Bounds::empty, x -> x.uses(0, 0), 3);
        told("round", KeptBoundsTest::right, x -> x.round(), 1);
        told("mirrored", KeptBoundsTest::right, x -> x.mirrored(), 1);
        told("groups", Bounds::rich, x -> x.groups(0), 2);
        told("spans", Bounds::rich, x -> x.spans(0), 1);
        told("others", Bounds::rich, x -> x.others(), 1);
        told("unlikes", Bounds::rich, x -> x.unlikes(), 3);
        told("unlikes", KeptBoundsTest::right, x -> x.unlikes(), 0);
        told("lifts", KeptBoundsTest::right, x -> x.lifts(), 2);
    }

    private static void stays(String what, ToLongFunction<FewProducts> call) {
        FewProducts x = Bounds.rich();
        Bounds.is(what, call.applyAsLong(x) >= 0, true);
        Bounds.row(what, x, 2, 0, 0);
    }

    private static void rowStays() {
        Bounds.says(40, "The ROW stays with each answer below 0, and with calls that do not tell of it.");
        stays("format", x -> x.format(1, 1, 1, 2));
        stays("sign", x -> x.sign(1));
        stays("end", x -> x.end(0) ? 1 : -1);
        stays("end, refused", x -> x.end(-1) ? -1 : 1);
        stays("scheme", x -> x.scheme());
        stays("adds", x -> x.adds());
        stays("drops", x -> x.drops(0));
        stays("form", x -> x.form(0, 0));
        stays("number", x -> x.number(0, 0, 0));
        stays("like", x -> x.like(0, 1, 0));
        stays("flip", x -> x.flip(0, 1, 0));
        stays("splits", x -> Due.write(x, "a11").splits(0, 0));
        stays("plus", x -> x.plus(0, 1, 0));
        stays("scales", x -> x.scales(0, 0, 2));
        stays("narrows", x -> x.narrows(0, 1));
        stays("widens", x -> x.widens(0));
        stays("rolls", x -> x.rolls());
        stays("mirrors", x -> x.mirrors());
        stays("shears", x -> x.shears(0, 1, 2, 1));
        stays("swaps", x -> x.swaps(0, 1, 2));
        stays("keeps", x -> x.keeps());
        stays("back", x -> x.back());
        stays("count", x -> x.count(0));
        stays("row", x -> Due.numberOf(x, 0));
    }

    private static void asks() {
        Bounds.says(40, "Calls that ask change nothing but the ROW.");
        Bounds.asks("form", Bounds::rich, x -> x.form(3, 2), 27);
        Bounds.asks("number", Bounds::rich, x -> x.number(2, 1, 5), 2);
        Bounds.asks("checks", Bounds::rich, x -> x.checks(), 6 + 11);
        Bounds.asks("given", Bounds::full, x -> x.given(0, 0, 0), 1);
        Bounds.asks("sums", Bounds::full, x -> x.sums(), 39);
        Bounds.asks("like", Bounds::rich, x -> x.like(1, 0, 0), 2);
        Bounds.asks("flips", Bounds::full, x -> x.flips(), 39 * 38 * 3);
        Bounds.asks("uses", Bounds::full, x -> x.uses(0, 0), 39);
        Bounds.asks("round", KeptBoundsTest::right, x -> x.round(), 1);
        Bounds.asks("mirrored", KeptBoundsTest::right, x -> x.mirrored(), 1);
        Bounds.asks("groups", Bounds::full, x -> x.groups(2), 1);
        Bounds.asks("spans", Bounds::full, x -> x.spans(2), 2);
        Bounds.asks("others", Bounds::rich, x -> x.others(), 0);
        Bounds.asks("unlikes", Bounds::rich, x -> x.unlikes(), 1);
        Bounds.asks("lifts", KeptBoundsTest::right, x -> x.lifts(), 1);
        Bounds.asks("count", Bounds::full, x -> x.count(9), 121);
        FewProducts x = Bounds.rich();
        Due.write(x, "1,1,1,1,1,1,1,1,1,1,1,1");
        Bounds.is("multiplies", x.multiplies(), 1);
        Bounds.is("multiplies has read the text", x.count(7), 0);
        Bounds.is("multiplies changes no product", x.others(), 0);
        Bounds.is("multiplies changes no product", x.count(4), 4);
    }

    private static void textStaysBehind(String what, ToLongFunction<FewProducts> call) {
        FewProducts x = Bounds.rich();
        Bounds.is(what, call.applyAsLong(x) >= 0, true);
        Bounds.is(what + ": signs", x.count(7), 12);
        x.format(2, 3, 2, 3);
        Bounds.is(what + ": the same ones", x.adds(), 13);
        Bounds.is(what + ": the same ones", x.form(12, 1), 2 * 243);
    }

    /** Only scheme, adds, multiplies and splits can read the text. */
    private static void textStays() {
        Bounds.says(40, "THE TEXT, which a call that can read it empties, whatever it answers");
        textStaysBehind("format", x -> x.format(1, 1, 1, 2));
        textStaysBehind("drops", x -> x.drops(0));
        textStaysBehind("checks", x -> x.checks());
        textStaysBehind("joins", x -> x.joins());
        textStaysBehind("sheds", x -> x.sheds());
        textStaysBehind("flip", x -> x.flip(0, 1, 0));
        textStaysBehind("plus", x -> x.plus(0, 1, 0));
        textStaysBehind("scales", x -> x.scales(0, 0, 2));
        textStaysBehind("narrows", x -> x.narrows(0, 1));
        textStaysBehind("widens", x -> x.widens(0));
        textStaysBehind("walks", x -> x.walks(1, 9));
        textStaysBehind("rolls", x -> x.rolls());
        textStaysBehind("mirrors", x -> x.mirrors());
        textStaysBehind("shears", x -> x.shears(0, 1, 2, 1));
        textStaysBehind("swaps", x -> x.swaps(0, 1, 2));
        textStaysBehind("keeps", x -> x.keeps());
        textStaysBehind("back", x -> x.back());
        FewProducts x = Bounds.rich();
        Bounds.is("scheme", x.scheme(), 1);
        Bounds.is("scheme", x.count(7), 0);
        x = Bounds.rich();
        Bounds.is("adds", x.adds(), 5);
        Bounds.is("adds", x.count(7), 0);
        x = Bounds.rich();
        Bounds.is("multiplies", x.multiplies(), -21);
        Bounds.is("multiplies", x.count(7), 0);
        x = Bounds.rich();
        Bounds.is("splits", x.splits(0, 0), -24);
        Bounds.is("splits", x.count(7), 0);
    }

    private KeptBoundsTest() {
    }
}
