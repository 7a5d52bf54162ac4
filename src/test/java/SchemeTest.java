/** Promises 1 to 13: the scheme, its text, what it gives. */
public final class SchemeTest {
    public static void main(String[] args) {
        newObject();
        format();
        sign();
        end();
        schemeRight();
        schemeFaults();
        adds();
        drops();
        formAndNumber();
        checks();
        given();
        multiplies();
        multipliesFaults();
        sums();
        Due.over();
    }

    private static void newObject() {
        FewProducts x = new FewProducts();
        for (int what = 0; what < 4; what++) {
            Due.is("count " + what, x.count(what), 2);
        }
        Due.forms("plain", x, 1, 1, 1, 1, 2, 4, 2, 4, 1, 2, 8, 4, 4, 1, 2, 4, 2, 8, 8, 4, 2, 8, 8, 8);
        Due.row("new", x);
        Due.is("text", x.count(7), 0);
        Due.is("kept", x.count(5), FewProducts.NONE);
        Due.is("right", x.checks(), 0);
    }

    private static void format() {
        for (int n = 1; n <= 3; n++) {
            for (int m = 1; m <= 3; m++) {
                for (int p = 1; p <= 3; p++) {
                    for (int q = 2; q <= 3; q++) {
                        FewProducts x = Due.made(n, m, p, q);
                        Due.is("n", x.count(0), n);
                        Due.is("m", x.count(1), m);
                        Due.is("p", x.count(2), p);
                        Due.is("q", x.count(3), q);
                        Due.is("right", x.checks(), 0);
                        Due.is("singles", x.count(13), n * m * p);
                    }
                }
            }
        }
        FewProducts x = new FewProducts();
        x.sums();
        x.keeps();
        x.sign(7);
        for (int v : new int[] {0, 4, -1, Integer.MAX_VALUE, Integer.MIN_VALUE}) {
            Due.is("n", x.format(v, 2, 2, 2), -1);
            Due.is("m", x.format(2, v, 2, 2), -1);
            Due.is("p", x.format(2, 2, v, 2), -1);
            Due.is("q", x.format(2, 2, 2, v), -1);
        }
        Due.is("q 1", x.format(2, 2, 2, 1), -1);
        Due.is("still kept", x.count(5), 8);
        Due.is("1 2 3", x.format(1, 2, 3, 3), 6);
        Due.is("kept no more", x.count(5), -1);
        Due.is("the text stays", x.count(7), 4);
        Due.row("the row stays", x, 0, 0, 4);
        Due.forms("1 2 3", x, 1, 1, 1, 1, 3, 3, 1, 9, 9, 3, 27, 1, 3, 81, 3, 3, 243, 9);
    }

    private static void sign() {
        FewProducts x = new FewProducts();
        for (int k = 1; k <= 100; k++) {
            Due.is("sign", x.sign(-1), 4 * k);
        }
        Due.is("a 101st", x.sign(0), -1);
        Due.is("signs", x.count(7), 400);
        Due.is("end", x.end(397), true);
        Due.is("397 and 4", x.sign(0), -1);
        Due.is("end", x.end(396), true);
        Due.is("396 and 4", x.sign(0), 400);
        x.end(0);
        x.sign('a' << 24 | '1' << 16 | '1' << 8 | '*');
        x.sign('b' << 24 | '1' << 16 | '1' << 8 | '*');
        x.sign('c' << 24 | '1' << 16 | '2' << 8 | 'z');
        x.end(11);
        Due.is("highest byte first", x.adds(), 9);
        Due.is("c12", x.form(8, 2), 2);
        Due.is("the text is read", x.count(7), 0);
    }

    private static void end() {
        FewProducts x = new FewProducts();
        Due.is("0 of none", x.end(0), true);
        Due.is("1 of none", x.end(1), false);
        x.sign(5);
        Due.is("too many", x.end(5), false);
        Due.is("below 0", x.end(-1), false);
        Due.is("least", x.end(Integer.MIN_VALUE), false);
        Due.is("most", x.end(Integer.MAX_VALUE), false);
        Due.is("changes nothing", x.count(7), 4);
        Due.is("all", x.end(4), true);
        Due.is("all", x.count(7), 4);
        Due.is("some", x.end(3), true);
        Due.is("some", x.count(7), 3);
        Due.is("gone", x.end(4), false);
    }

    private static void schemeRight() {
        FewProducts x = Due.made(2, 2, 2, 2, Due.STRASSEN);
        Due.forms("Strassen", x, 9, 9, 9, 12, 1, 10, 1, 10, 12, 8, 5, 3, 3, 8, 5, 5, 3, 8, 10, 12, 1);
        Due.is("the text is read", x.count(7), 0);
        x = Due.made(2, 2, 2, 3, "-a11-a22+a12*b21*-c12+c11");
        Due.forms("minus", x, 2 + 3 + 2 * 27, 9, 1 + 2 * 3);
        x = Due.made(3, 1, 2, 3, "a31-a11*-b12*c23+c11-c12");
        Due.forms("3 1 2", x, 9 + 2, 6, 1 + 2 * 3 + 243);
        x = Due.made(1, 1, 1, 2, "-a11*-b11*-c11");
        Due.forms("minus at 2", x, 1, 1, 1);
        StringBuilder longest = new StringBuilder("a11*b11*c11");
        for (int k = 1; k < 33; k++) {
            longest.append(";a11*b11*c11");
        }
        Due.made(2, 2, 2, 2, longest.toString());
    }

    private static void fault(FewProducts x, String s, int place) {
        Due.write(x, s);
        Due.is("scheme " + s, x.scheme(), -21 - place);
        Due.is("the text is emptied", x.count(7), 0);
        Due.write(x, s);
        Due.is("adds " + s, x.adds(), -21 - place);
        Due.is("the text is emptied", x.count(7), 0);
    }

    private static void schemeFaults() {
        FewProducts x = new FewProducts();
        x.sums();
        fault(x, "", 0);
        fault(x, "b11*b11*c11", 0);
        fault(x, "+a11*b11*c11", 0);
        fault(x, "--a11*b11*c11", 1);
        fault(x, "-", 1);
        fault(x, " a11*b11*c11", 0);
        fault(x, "A11*b11*c11", 0);
        fault(x, "a", 1);
        fault(x, "a0", 1);
        fault(x, "a31*b11*c11", 1);
        fault(x, "a1", 2);
        fault(x, "a10", 2);
        fault(x, "a13*b11*c11", 2);
        fault(x, "a1a", 2);
        fault(x, "a11", 3);
        fault(x, "a111", 3);
        fault(x, "a11;", 3);
        fault(x, "a11b11", 3);
        fault(x, "a11+", 4);
        fault(x, "a11+-a12", 4);
        fault(x, "a11+b12", 4);
        fault(x, "a11+a11*b11*c11", 6);
        fault(x, "a11-a22+a11*b11*c11", 10);
        fault(x, "a11*", 4);
        fault(x, "a11*a11", 4);
        fault(x, "a11*b11", 7);
        fault(x, "a11*b11;", 7);
        fault(x, "a11*b11*", 8);
        fault(x, "a11*b11*b11", 8);
        fault(x, "a11*b11*c11*", 11);
        fault(x, "a11*b11*c11 ", 11);
        fault(x, "a11*b11*c11+", 12);
        fault(x, "a11*b11*c11\u0000", 11);
        fault(x, "a11*b11*c1\u00ff", 10);
        Due.write(x, "a11*b11*c11;");
        Due.is("; at the end", x.scheme(), -33);
        Due.write(x, "a11*b11*c11;;");
        Due.is(";;", x.scheme(), -33);
        Due.write(x, "a11*b11*c11;a11*b11*c33");
        Due.is("in the second", x.scheme(), -21 - 21);
        Due.write(x, "a11*b11*c11;a22*b22*c22");
        Due.is("adds takes one", x.adds(), -32);
        Due.is("nothing changed", x.count(4), 8);
        Due.is("nothing changed", x.checks(), 0);
        FewProducts y = Due.made(1, 2, 3, 2);
        fault(y, "a21*b11*c11", 1);
        fault(y, "a13*b11*c11", 2);
        fault(y, "a12*b31*c11", 5);
        fault(y, "a12*b24*c11", 6);
        fault(y, "a12*b23*c41", 9);
        fault(y, "a12*b23*c32", 10);
        Due.write(y, "a12*b23*c31");
        Due.is("the last ones", y.adds(), 7);
    }

    private static void adds() {
        FewProducts x = Due.made(1, 1, 1, 3, "a11*b11*c11");
        x.sums();
        for (int k = 2; k <= 40; k++) {
            Due.write(x, "a11*b11*-c11");
            Due.is("adds", x.adds(), k);
        }
        Due.is("behind all others", x.form(39, 2), 2);
        Due.write(x, "a11*b11*c11");
        Due.is("full", x.adds(), -2);
        Due.is("the text is emptied", x.count(7), 0);
        Due.write(x, "a11*b11*c12");
        Due.is("a fault comes first", x.adds(), -31);
        Due.is("40", x.count(4), 40);
        Due.row("the row stays", x, 0, 0, 0);
    }

    private static void drops() {
        FewProducts x = Due.made(1, 2, 1, 3, "a11*b11*c11;a12*b11*c11;a11+a12*b21*c11");
        Due.is("none such", x.drops(3), -1);
        Due.is("none such", x.drops(-1), -1);
        Due.is("none such", x.drops(Integer.MAX_VALUE), -1);
        Due.is("none such", x.drops(Integer.MIN_VALUE), -1);
        Due.is("the middle", x.drops(1), 2);
        Due.forms("the middle", x, 1, 1, 1, 4, 3, 1);
        Due.is("the last", x.drops(1), 1);
        Due.is("the first", x.drops(0), 0);
        Due.is("no more", x.drops(0), -1);
    }

    private static void formAndNumber() {
        FewProducts x = Due.made(3, 3, 3, 3, "-a11-a12-a13-a21-a22-a23-a31-a32-a33*b33*-c21");
        Due.is("all twos", x.form(0, 0), 19682);
        Due.is("b33", x.form(0, 1), 6561);
        Due.is("-c21", x.form(0, 2), 54);
        Due.is("2", x.number(0, 0, 8), 2);
        Due.is("1", x.number(0, 1, 8), 1);
        Due.is("0", x.number(0, 1, 7), 0);
        Due.is("2", x.number(0, 2, 3), 2);
        for (int v : new int[] {-1, 3, 9, Integer.MIN_VALUE, Integer.MAX_VALUE}) {
            Due.is("form of no such product", x.form(v, 0), -1);
            Due.is("form at no such table", x.form(0, v), -1);
            Due.is("number of no such product", x.number(v, 0, 0), -1);
            Due.is("number at no such table", x.number(0, v, 0), -1);
        }
        for (int v : new int[] {-1, 9, Integer.MIN_VALUE, Integer.MAX_VALUE}) {
            Due.is("number at no such place", x.number(0, 1, v), -1);
        }
        FewProducts y = Due.made(1, 2, 3, 2);
        Due.is("place of a", y.number(0, 0, 2), -1);
        Due.is("place of b", y.number(0, 1, 5), 0);
        Due.is("place of b", y.number(0, 1, 6), -1);
        Due.is("place of c", y.number(2, 2, 2), 1);
        Due.is("place of c", y.number(0, 2, 3), -1);
    }

    private static void checks() {
        FewProducts x = Due.made(2, 2, 2, 3, Due.STRASSEN);
        x.sums();
        Due.is("Strassen", x.checks(), 0);
        Due.row("right", x);
        x.drops(6);
        // the seventh gives (a12 - a22)(b21 + b22)c11, so four are missing
        Due.is("without the seventh", x.checks(), 4);
        Due.row("first: a12 b21 c11", x, 1, 2, 0, 0, 1);
        x = Due.made(1, 2, 1, 3, "a11*b11*-c11");
        Due.is("2 for 1, 0 for 1", x.checks(), 2);
        Due.row("first", x, 0, 0, 0, 2, 1);
        x = Due.made(1, 2, 1, 2, "a11*b11+b21*c11");
        Due.is("1 for 0, 0 for 1", x.checks(), 2);
        Due.row("first", x, 0, 1, 0, 1, 0);
        x = Due.made(3, 3, 3, 2);
        for (int k = 27; k > 0; k--) {
            x.drops(0);
        }
        Due.is("empty", x.checks(), 27);
        Due.row("empty", x, 0, 0, 0, 0, 1);
    }

    private static void given() {
        FewProducts x = Due.made(2, 2, 2, 2, Due.STRASSEN);
        Due.is("a11 b11 c11", x.given(0, 0, 0), 1);
        Due.row("by the first alone", x, 1, 1);
        Due.is("a22 b11 c22", x.given(3, 0, 3), 0);
        Due.row("by two", x, 0, 2);
        x.sums();
        for (int v : new int[] {-1, 4, Integer.MIN_VALUE, Integer.MAX_VALUE}) {
            Due.is("no such x", x.given(v, 0, 0), -1);
            Due.is("no such y", x.given(0, v, 0), -1);
            Due.is("no such z", x.given(0, 0, v), -1);
        }
        Due.row("the row stays", x, 5, 5, 8);
        FewProducts y = Due.made(1, 2, 3, 3, "-a11*-b12*-c11;-a11*b12*-c11;a11*-b12*c11-c21");
        Due.is("2 + 1 + 2", y.given(0, 1, 0), 2);
        Due.row("all three; a11 b12 is not for c11", y, 0, 3);
        Due.is("4 modulo 3", y.given(0, 1, 1), 1);
        Due.row("one; needed", y, 1, 1);
        Due.is("no such place of c", y.given(0, 0, 3), -1);
        Due.is("no such place of a", y.given(2, 0, 0), -1);
        Due.is("last of all", y.given(1, 5, 2), 0);
        Due.row("last of all", y, 1, 0);
    }

    private static void multiplies() {
        FewProducts x = Due.made(2, 2, 2, 3, Due.STRASSEN);
        // 1 2 by 0 1 = 1 2, in places of c: turned over; 2 2 by 2 2: 4 6 = 1 0
        Due.write(x, "1,2,2,1,0,1,2,2");
        Due.is("right", x.multiplies(), 0);
        Due.row("by rows of c", x, 1, 2, 2, 1);
        Due.is("the text is read", x.count(7), 0);
        x.drops(0);
        Due.write(x, "1,0,0,1,1,0,0,1");
        // without (a11 + a22)(b11 + b22)(c11 + c22), which is 4, both lose 1
        Due.is("two differ", x.multiplies(), 2);
        Due.row("0 for 1", x, 0, 0, 0, 0);
        x = Due.made(1, 3, 2, 2);
        Due.write(x, "1,1,1,1,0,1,1,1,0");
        Due.is("1 3 2", x.multiplies(), 0);
        Due.row("3, 1 modulo 2", x, 1, 1);
        x = Due.made(3, 1, 2, 3);
        Due.write(x, "1,2,0,2,1");
        Due.is("3 1 2", x.multiplies(), 0);
        Due.row("2 rows, 3 columns", x, 2, 1, 0, 1, 2, 0);
        x = Due.made(3, 3, 3, 3);
        Due.write(x, "2,2,2,2,2,2,2,2,2,2,2,2,2,2,2,2,2,2");
        Due.is("3 3 3", x.multiplies(), 0);
        Due.row("12 modulo 3", x, 0, 0, 0, 0, 0, 0, 0, 0, 0);
        x = Due.made(1, 1, 1, 3, "-a11*-b11*-c11");
        Due.write(x, "1,1");
        Due.is("2 2 2", x.multiplies(), 1);
        Due.row("8 modulo 3", x, 2);
    }

    private static void tablesFault(FewProducts x, String s, int place) {
        Due.write(x, s);
        Due.is("multiplies " + s, x.multiplies(), -21 - place);
        Due.is("the text is emptied", x.count(7), 0);
    }

    private static void multipliesFaults() {
        FewProducts x = Due.made(1, 2, 1, 2);
        x.sums();
        tablesFault(x, "", 0);
        tablesFault(x, ",", 0);
        tablesFault(x, "2", 0);
        tablesFault(x, "-1", 0);
        tablesFault(x, "1", 1);
        tablesFault(x, "11", 1);
        tablesFault(x, "1,", 2);
        tablesFault(x, "1,2", 2);
        tablesFault(x, "1,0,1,", 6);
        tablesFault(x, "1,0,1,0,", 7);
        tablesFault(x, "1,0,1,0,1", 7);
        tablesFault(x, "1,0,1,01", 7);
        tablesFault(x, "1, 0", 2);
        Due.row("the row stays", x, 0, 0, 1);
        x = Due.made(1, 2, 1, 3);
        tablesFault(x, "2,2,2,3", 6);
        tablesFault(x, "2,2,2,2;", 7);
    }

    private static void sums() {
        FewProducts x = Due.made(2, 2, 2, 2, Due.STRASSEN);
        Due.is("Strassen", x.sums(), 18);
        Due.row("Strassen", x, 5, 5, 8);
        x = Due.made(1, 3, 1, 3, "a11-a12+a13*b11-b31*c11;a11+a12*b31*c11;a11*b11*c11");
        Due.is("some", x.sums(), 6);
        Due.row("some", x, 3, 1, 2);
        x.narrows(1, 1);
        // a11 of the last, b11 of the last are 0 now
        Due.is("with zeros", x.sums(), 3);
        Due.row("with zeros", x, 1, 0, 2);
        x = Due.made(3, 3, 3, 2);
        Due.is("plain", x.sums(), 18);
        Due.row("plain", x, 0, 0, 18);
        x = Due.made(1, 2, 2, 2, "a11*b11*c11");
        Due.is("one", x.sums(), 0);
        Due.row("one", x, 0, 0, 0);
    }
}
