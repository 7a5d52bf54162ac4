import java.util.ArrayList;
import java.util.Arrays;
import java.util.List;

/**
 * The document told a second time, as slowly and as literally as can be: forms are arrays of numbers,
 * sums are looked for by trying, equations are solved row by row. ModelTest sets the class beside it.
 */
final class Model {
    int n = 2;
    int m = 2;
    int p = 2;
    int q = 2;
    List<int[][]> products = new ArrayList<>();
    List<int[][]> kept = null;
    int[] keptSizes = null;
    List<Long> told = new ArrayList<>();
    StringBuilder text = new StringBuilder();

    Model() {
        products = plain();
    }

    // ---- terms

    int rows(int t) {
        return new int[] {n, m, p}[t];
    }

    int columns(int t) {
        return new int[] {m, p, n}[t];
    }

    int places(int t) {
        return rows(t) * columns(t);
    }

    boolean isTable(int t) {
        return t >= 0 && t <= 2;
    }

    boolean isProduct(int i) {
        return i >= 0 && i < products.size();
    }

    boolean isPlace(int t, int place) {
        return isTable(t) && place >= 0 && place < places(t);
    }

    int mod(int v) {
        return ((v % q) + q) % q;
    }

    static boolean isZero(int[] form) {
        return Arrays.stream(form).allMatch(v -> v == 0);
    }

    static boolean hasZero(int[][] product) {
        return isZero(product[0]) || isZero(product[1]) || isZero(product[2]);
    }

    int[] times(int f, int[] form) {
        return Arrays.stream(form).map(v -> mod(f * v)).toArray();
    }

    int[] plusTimes(int[] a, int f, int[] b) {
        int[] c = new int[a.length];
        for (int k = 0; k < a.length; k++) {
            c[k] = mod(a[k] + f * b[k]);
        }
        return c;
    }

    int likeBy(int[] a, int[] b) {
        if (isZero(a) || isZero(b) || a.length != b.length) {
            return 0;
        }
        for (int f = 1; f < q; f++) {
            if (Arrays.equals(times(f, a), b)) {
                return f;
            }
        }
        return 0;
    }

    boolean alike(int[][] a, int[][] b) {
        return mod(likeBy(a[0], b[0]) * likeBy(a[1], b[1]) * likeBy(a[2], b[2])) == 1;
    }

    int[] one(int t, int r, int c) {
        int[] form = new int[places(t)];
        form[(r - 1) * columns(t) + c - 1] = 1;
        return form;
    }

    List<int[][]> plain() {
        List<int[][]> all = new ArrayList<>();
        for (int i = 1; i <= n; i++) {
            for (int j = 1; j <= m; j++) {
                for (int k = 1; k <= p; k++) {
                    all.add(new int[][] {one(0, i, j), one(1, j, k), one(2, k, i)});
                }
            }
        }
        return all;
    }

    static List<int[][]> copy(List<int[][]> list) {
        List<int[][]> all = new ArrayList<>();
        for (int[][] product : list) {
            all.add(new int[][] {product[0].clone(), product[1].clone(), product[2].clone()});
        }
        return all;
    }

    int wholeGiven(List<int[][]> list, int x, int y, int z) {
        int all = 0;
        for (int[][] product : list) {
            all += product[0][x] * product[1][y] * product[2][z];
        }
        return all;
    }

    int needed(int x, int y, int z) {
        return x % m == y / p && y % p == z / n && z % n == x / m ? 1 : 0;
    }

    int zeros() {
        return (int) products.stream().filter(Model::hasZero).count();
    }

    long tell(long answer, long... row) {
        told = new ArrayList<>();
        for (long v : row) {
            told.add(v);
        }
        return answer;
    }

    // ---- the scheme

    long format(int a, int b, int c, int d) {
        if (Math.min(a, Math.min(b, c)) < 1 || Math.max(a, Math.max(b, c)) > 3 || d != 2 && d != 3) {
            return -1;
        }
        n = a;
        m = b;
        p = c;
        q = d;
        products = plain();
        kept = null;
        return products.size();
    }

    long sign(int v) {
        if (text.length() > 396) {
            return -1;
        }
        text.append((char) (v >>> 24)).append((char) (v >> 16 & 255)).append((char) (v >> 8 & 255)).append((char) (v & 255));
        return text.length();
    }

    long end(int many) {
        if (many < 0 || many > text.length()) {
            return 0;
        }
        text.setLength(many);
        return 1;
    }

    /** The text is taken whole and emptied. */
    String readText() {
        String all = text.toString();
        text.setLength(0);
        return all;
    }

    /**
     * Reads forms by an automaton. Tables: those of the forms due, then over; many: products that may come.
     * A list of products, or the place of the fault.
     */
    Object parse(String s, int firstTable, boolean single, int many) {
        List<int[][]> all = new ArrayList<>();
        int[][] product = new int[3][];
        int table = firstTable;
        product[table] = new int[places(table)];
        char due = 'F';
        int minus = 0;
        int r = 0;
        for (int k = 0; k < s.length(); k++) {
            char c = s.charAt(k);
            if (due == 'F' && c == '-') {
                minus = 1;
                due = 'L';
            } else if ((due == 'F' || due == 'L') && c == "abc".charAt(table)) {
                minus = due == 'F' ? 0 : minus;
                due = 'R';
            } else if (due == 'R' && c >= '1' && c <= '0' + rows(table)) {
                r = c - '1';
                due = 'C';
            } else if (due == 'C' && c >= '1' && c <= '0' + columns(table)
                    && product[table][r * columns(table) + c - '1'] == 0) {
                product[table][r * columns(table) + c - '1'] = minus == 1 ? q - 1 : 1;
                due = 'X';
            } else if (due == 'X' && (c == '+' || c == '-')) {
                minus = c == '-' ? 1 : 0;
                due = 'L';
            } else if (due == 'X' && c == '*' && !single && table < 2) {
                table++;
                product[table] = new int[places(table)];
                due = 'F';
            } else if (due == 'X' && c == ';' && !single && table == 2 && all.size() + 1 < many) {
                all.add(product);
                product = new int[3][];
                table = 0;
                product[0] = new int[places(0)];
                due = 'F';
            } else {
                return k;
            }
        }
        if (due != 'X' || !single && table < 2) {
            return s.length();
        }
        all.add(product);
        return all;
    }

    @SuppressWarnings("unchecked")
    static List<int[][]> list(Object read) {
        return (List<int[][]>) read;
    }

    long scheme() {
        Object read = parse(readText(), 0, false, 40);
        if (read instanceof Integer) {
            return -21 - (Integer) read;
        }
        products = list(read);
        return products.size();
    }

    long adds() {
        Object read = parse(readText(), 0, false, 1);
        if (read instanceof Integer) {
            return -21 - (Integer) read;
        }
        if (products.size() == 40) {
            return -2;
        }
        products.addAll(list(read));
        return products.size();
    }

    long drops(int i) {
        if (!isProduct(i)) {
            return -1;
        }
        products.remove(i);
        return products.size();
    }

    long form(int i, int t) {
        if (!isProduct(i) || !isTable(t)) {
            return -1;
        }
        long code = 0;
        long power = 1;
        for (int v : products.get(i)[t]) {
            code += power * v;
            power *= q;
        }
        return code;
    }

    long number(int i, int t, int place) {
        return isProduct(i) && isPlace(t, place) ? products.get(i)[t][place] : -1;
    }

    long checks() {
        long wrong = 0;
        long[] first = {};
        for (int x = 0; x < places(0); x++) {
            for (int y = 0; y < places(1); y++) {
                for (int z = 0; z < places(2); z++) {
                    int given = mod(wholeGiven(products, x, y, z));
                    if (given != needed(x, y, z) && wrong++ == 0) {
                        first = new long[] {x, y, z, given, needed(x, y, z)};
                    }
                }
            }
        }
        return tell(wrong, first);
    }

    long given(int x, int y, int z) {
        if (!isPlace(0, x) || !isPlace(1, y) || !isPlace(2, z)) {
            return -1;
        }
        long meet = products.stream().filter(a -> a[0][x] != 0 && a[1][y] != 0 && a[2][z] != 0).count();
        return tell(mod(wholeGiven(products, x, y, z)), needed(x, y, z), meet);
    }

    long multiplies() {
        String s = readText();
        int many = n * m + m * p;
        int[] numbers = new int[many];
        for (int k = 0; k < s.length(); k++) {
            boolean isDigit = k % 2 == 0;
            if (k >= 2 * many - 1 || !isDigit && s.charAt(k) != ','
                    || isDigit && (s.charAt(k) < '0' || s.charAt(k) >= '0' + q)) {
                return -21 - k;
            }
            if (isDigit) {
                numbers[k / 2] = s.charAt(k) - '0';
            }
        }
        if (s.length() < 2 * many - 1) {
            return -21 - s.length();
        }
        int[] comes = new int[places(2)];
        for (int[][] product : products) {
            int first = 0;
            int second = 0;
            for (int k = 0; k < many; k++) {
                if (k < n * m) {
                    first += numbers[k] * product[0][k];
                } else {
                    second += numbers[k] * product[1][k - n * m];
                }
            }
            for (int z = 0; z < comes.length; z++) {
                comes[z] = mod(comes[z] + mod(first) * mod(second) * product[2][z]);
            }
        }
        long wrong = 0;
        for (int r = 0; r < p; r++) {
            for (int c = 0; c < n; c++) {
                int due = 0;
                for (int j = 0; j < m; j++) {
                    due += numbers[c * m + j] * numbers[n * m + j * p + r];
                }
                if (mod(due) != comes[r * n + c]) {
                    wrong++;
                }
            }
        }
        return tell(wrong, Arrays.stream(comes).asLongStream().toArray());
    }

    long sums() {
        long[] by = new long[3];
        for (int[][] product : products) {
            for (int t = 0; t < 2; t++) {
                by[t] += Math.max(0, Arrays.stream(product[t]).filter(v -> v != 0).count() - 1);
            }
        }
        for (int z = 0; z < places(2); z++) {
            int place = z;
            by[2] += Math.max(0, products.stream().filter(a -> a[2][place] != 0).count() - 1);
        }
        return tell(by[0] + by[1] + by[2], by);
    }

    // ---- flips, what is joined

    long like(int i, int j, int t) {
        if (!isProduct(i) || !isProduct(j) || !isTable(t)) {
            return -1;
        }
        int f = likeBy(products.get(i)[t], products.get(j)[t]);
        return f == 0 ? -2 : f;
    }

    List<int[]> allFlips() {
        List<int[]> all = new ArrayList<>();
        for (int w = 0; w < 3; w++) {
            for (int i = 0; i < products.size(); i++) {
                for (int j = 0; j < products.size(); j++) {
                    if (i != j && like(i, j, w) > 0) {
                        all.add(new int[] {i, j, w});
                    }
                }
            }
        }
        return all;
    }

    long flips() {
        long[] by = new long[3];
        for (int[] flip : allFlips()) {
            by[flip[2]]++;
        }
        return tell(by[0] + by[1] + by[2], by);
    }

    long flip(int i, int j, int w) {
        if (!isProduct(i) || !isProduct(j) || !isTable(w)) {
            return -1;
        }
        if (i == j) {
            return -2;
        }
        int[][] a = products.get(i);
        int[][] b = products.get(j);
        int f = likeBy(a[w], b[w]);
        if (f == 0) {
            return -3;
        }
        int u = (w + 1) % 3;
        int v = (w + 2) % 3;
        b[w] = a[w].clone();
        b[u] = times(f, b[u]);
        a[u] = plusTimes(a[u], 1, b[u]);
        b[v] = plusTimes(b[v], -1, a[v]);
        return zeros();
    }

    /** 1, 2: what was done; 0: nothing can be. */
    int joinOnce() {
        for (int i = 0; i < products.size(); i++) {
            if (hasZero(products.get(i))) {
                products.remove(i);
                return 1;
            }
        }
        for (int i = 0; i < products.size(); i++) {
            for (int j = i + 1; j < products.size(); j++) {
                for (int w = 0; w < 3; w++) {
                    int[][] a = products.get(i);
                    int[][] b = products.get(j);
                    int f = likeBy(a[(w + 1) % 3], b[(w + 1) % 3]);
                    int g = likeBy(a[(w + 2) % 3], b[(w + 2) % 3]);
                    if (f != 0 && g != 0) {
                        a[w] = plusTimes(a[w], f * g, b[w]);
                        products.remove(j);
                        return 2;
                    }
                }
            }
        }
        return 0;
    }

    long joins() {
        long[] by = new long[2];
        for (int did = joinOnce(); did > 0; did = joinOnce()) {
            by[did - 1]++;
        }
        return tell(by[0] + by[1], by);
    }

    /** The numbers with which forms sum up to one, or null; found by trying all of them. */
    int[] numbersOf(List<int[]> forms, int[] sum) {
        int[] numbers = new int[forms.size()];
        for (int all = (int) Math.pow(q, forms.size()), k = 0; k < all; k++) {
            int rest = k;
            int[] form = new int[sum.length];
            for (int t = 0; t < numbers.length; t++) {
                numbers[t] = rest % q;
                rest /= q;
                form = plusTimes(form, numbers[t], forms.get(t));
            }
            if (Arrays.equals(form, sum)) {
                return numbers;
            }
        }
        return null;
    }

    /** The table w of the product that was shed, or -1. */
    int shedOnce() {
        for (int w = 0; w < 3; w++) {
            for (int turn = 1; turn <= 2; turn++) {
                int u = (w + turn) % 3;
                for (int j = 0; j < products.size(); j++) {
                    if (shed(w, u, 3 - w - u, j)) {
                        return w;
                    }
                }
            }
        }
        return -1;
    }

    boolean shed(int w, int u, int v, int j) {
        int[][] b = products.get(j);
        if (hasZero(b)) {
            return false;
        }
        List<int[]> forms = new ArrayList<>();
        List<int[][]> taken = new ArrayList<>();
        for (int[][] a : products.subList(0, j)) {
            int f = hasZero(a) ? 0 : likeBy(b[w], a[w]);
            if (f != 0 && numbersOf(forms, times(f, a[u])) == null) {
                forms.add(times(f, a[u]));
                taken.add(a);
            }
        }
        int[] numbers = numbersOf(forms, b[u]);
        if (numbers == null) {
            return false;
        }
        for (int t = 0; t < numbers.length; t++) {
            taken.get(t)[v] = plusTimes(taken.get(t)[v], numbers[t], b[v]);
        }
        products.remove(j);
        return true;
    }

    long sheds() {
        long[] by = new long[3];
        for (int w = shedOnce(); w >= 0; w = shedOnce()) {
            by[w]++;
        }
        return tell(by[0] + by[1] + by[2], by);
    }

    long splits(int i, int w) {
        int t = isTable(w) ? w : 0;
        Object read = parse(readText(), t, true, 1);
        if (read instanceof Integer) {
            return -21 - (Integer) read;
        }
        if (!isTable(w) || !isProduct(i)) {
            return -1;
        }
        if (products.size() == 40) {
            return -2;
        }
        int[] part = list(read).get(0)[t];
        int[][] a = products.get(i);
        if (Arrays.equals(part, a[w])) {
            return -3;
        }
        int[][] b = {a[0].clone(), a[1].clone(), a[2].clone()};
        b[w] = plusTimes(a[w], -1, part);
        a[w] = part;
        products.add(b);
        return products.size();
    }

    long plus(int i, int j, int w) {
        if (!isProduct(i) || !isProduct(j) || !isTable(w)) {
            return -1;
        }
        if (i == j) {
            return -2;
        }
        if (products.size() == 40) {
            return -3;
        }
        int u = (w + 1) % 3;
        int v = (w + 2) % 3;
        int[][] a = products.get(i);
        int[][] b = products.get(j);
        int[][] c = new int[3][];
        c[w] = plusTimes(b[w], -1, a[w]);
        c[u] = b[u].clone();
        c[v] = b[v].clone();
        products.add(c);
        b[w] = a[w].clone();
        b[v] = plusTimes(b[v], -1, a[v]);
        a[u] = plusTimes(a[u], 1, b[u]);
        return products.size();
    }

    long scales(int i, int w, int f) {
        if (!isProduct(i) || !isTable(w) || f < 1 || f >= q) {
            return -1;
        }
        int[][] a = products.get(i);
        int[][] was = a.clone();
        a[w] = times(f, a[w]);
        a[(w + 1) % 3] = times(f, a[(w + 1) % 3]);
        return alike(was, a) ? 1 : 0;
    }

    /** The form at a table with rows and columns put where a plan of places says (-1: nowhere). */
    long narrows(int space, int r) {
        if (!isTable(space) || r < 1 || r > rows(space)) {
            return -1;
        }
        if (rows(space) == 1) {
            return -2;
        }
        int other = (space + 2) % 3;
        for (int[][] a : products) {
            List<Integer> byRows = new ArrayList<>();
            List<Integer> byColumns = new ArrayList<>();
            for (int place = 0; place < places(space); place++) {
                if (place / columns(space) != r - 1) {
                    byRows.add(a[space][place]);
                }
            }
            for (int place = 0; place < places(other); place++) {
                if (place % columns(other) != r - 1) {
                    byColumns.add(a[other][place]);
                }
            }
            a[space] = byRows.stream().mapToInt(v -> v).toArray();
            a[other] = byColumns.stream().mapToInt(v -> v).toArray();
        }
        resize(space, -1);
        return zeros();
    }

    void resize(int space, int more) {
        n += space == 0 ? more : 0;
        m += space == 1 ? more : 0;
        p += space == 2 ? more : 0;
    }

    long widens(int space) {
        if (!isTable(space)) {
            return -1;
        }
        if (rows(space) == 3) {
            return -2;
        }
        if (products.size() + n * m * p / rows(space) > 40) {
            return -3;
        }
        int other = (space + 2) % 3;
        int columns = columns(other);
        for (int[][] a : products) {
            List<Integer> byColumns = new ArrayList<>();
            for (int place = 0; place < places(other); place++) {
                byColumns.add(a[other][place]);
                if (place % columns == columns - 1) {
                    byColumns.add(0);
                }
            }
            a[other] = byColumns.stream().mapToInt(v -> v).toArray();
            a[space] = Arrays.copyOf(a[space], places(space) + columns(space));
        }
        resize(space, 1);
        for (int[][] a : plain()) {
            boolean has = false;
            for (int place = 0; place < places(space); place++) {
                has |= a[space][place] != 0 && place / columns(space) == rows(space) - 1;
            }
            if (has) {
                products.add(a);
            }
        }
        return products.size();
    }

    long walks(int seed, int many) {
        if (many < 1 || many > 100 || seed < 1 || seed == Integer.MAX_VALUE) {
            return -1;
        }
        long x = seed;
        long done = 0;
        for (int k = 0; k < many; k++) {
            x = x * 16807L % 2147483647L;
            List<int[]> flips = allFlips();
            if (!flips.isEmpty()) {
                int[] flip = flips.get((int) (x % flips.size()));
                flip(flip[0], flip[1], flip[2]);
                while (joinOnce() > 0) {
                    continue;
                }
                done++;
            }
        }
        return tell(products.size(), done, x);
    }

    // ---- symmetry

    long rolls() {
        products.replaceAll(a -> new int[][] {a[1], a[2], a[0]});
        int first = n;
        n = m;
        m = p;
        p = first;
        return products.size();
    }

    static int[] transposed(int[] form, int rows, int columns) {
        int[] other = new int[form.length];
        for (int place = 0; place < form.length; place++) {
            other[place % columns * rows + place / columns] = form[place];
        }
        return other;
    }

    long mirrors() {
        products.replaceAll(a -> new int[][] {
            transposed(a[2], p, n), transposed(a[1], m, p), transposed(a[0], n, m)});
        int second = m;
        m = p;
        p = second;
        return products.size();
    }

    long othersThan(List<int[][]> before) {
        long others = 0;
        for (int i = 0; i < before.size(); i++) {
            for (int t = 0; t < 3; t++) {
                others += Arrays.equals(before.get(i)[t], products.get(i)[t]) ? 0 : 1;
            }
        }
        return others;
    }

    long shears(int space, int r, int s, int f) {
        if (!isTable(space) || r < 1 || r > rows(space) || s < 1 || s > rows(space) || r == s || f < 1 || f >= q) {
            return -1;
        }
        List<int[][]> before = copy(products);
        int other = (space + 2) % 3;
        for (int[][] a : products) {
            int[] b = a[space].clone();
            int[] c = a[other].clone();
            for (int place = 0; place < b.length; place++) {
                if (place / columns(space) == s - 1) {
                    b[place] = mod(b[place] + f * a[space][place + (r - s) * columns(space)]);
                }
            }
            for (int place = 0; place < c.length; place++) {
                if (place % columns(other) == r - 1) {
                    c[place] = mod(c[place] - f * a[other][place + s - r]);
                }
            }
            a[space] = b;
            a[other] = c;
        }
        return othersThan(before);
    }

    long swaps(int space, int r, int s) {
        if (!isTable(space) || r < 1 || r > rows(space) || s < 1 || s > rows(space)) {
            return -1;
        }
        List<int[][]> before = copy(products);
        int other = (space + 2) % 3;
        for (int[][] a : products) {
            int[] b = a[space].clone();
            int[] c = a[other].clone();
            for (int k = 0; k < columns(space); k++) {
                b[(r - 1) * columns(space) + k] = a[space][(s - 1) * columns(space) + k];
                b[(s - 1) * columns(space) + k] = a[space][(r - 1) * columns(space) + k];
            }
            for (int k = 0; k < rows(other); k++) {
                c[k * columns(other) + r - 1] = a[other][k * columns(other) + s - 1];
                c[k * columns(other) + s - 1] = a[other][k * columns(other) + r - 1];
            }
            a[space] = b;
            a[other] = c;
        }
        return othersThan(before);
    }

    long uses(int t, int place) {
        if (!isPlace(t, place)) {
            return -1;
        }
        long[] row = new long[q];
        for (int[][] a : products) {
            if (a[t][place] != 0) {
                row[a[t][place] - 1]++;
            }
        }
        for (int k = 0; k < places(t); k++) {
            int other = k;
            row[q - 1] += products.stream().allMatch(a -> a[t][other] == 0) ? 1 : 0;
        }
        return tell(q == 2 ? row[0] : row[0] + row[1], row);
    }

    /** How many of a list go over into like ones of another, each for one. */
    int matched(List<int[][]> some, List<int[][]> others) {
        List<int[][]> left = new ArrayList<>(others);
        int matched = 0;
        for (int[][] a : some) {
            for (int k = 0; k < left.size(); k++) {
                if (alike(a, left.get(k))) {
                    left.remove(k);
                    matched++;
                    break;
                }
            }
        }
        return matched;
    }

    long compareWith(List<int[][]> turned) {
        long same = 0;
        for (int i = 0; i < products.size(); i++) {
            same += alike(products.get(i), turned.get(i)) ? 1 : 0;
        }
        return tell(matched(products, turned) == products.size() ? 1 : 0, same);
    }

    long round() {
        if (n != m || m != p) {
            return -2;
        }
        List<int[][]> before = copy(products);
        rolls();
        List<int[][]> turned = products;
        products = before;
        return compareWith(turned);
    }

    long mirrored() {
        if (m != p) {
            return -2;
        }
        List<int[][]> before = copy(products);
        mirrors();
        List<int[][]> turned = products;
        products = before;
        return compareWith(turned);
    }

    List<List<Integer>> groupsAt(int t) {
        List<List<Integer>> all = new ArrayList<>();
        for (int i = 0; i < products.size(); i++) {
            List<Integer> found = null;
            for (List<Integer> group : all) {
                if (like(group.get(0), i, t) > 0) {
                    found = group;
                }
            }
            if (found != null) {
                found.add(i);
            } else if (!isZero(products.get(i)[t])) {
                all.add(new ArrayList<>(List.of(i)));
            }
        }
        return all;
    }

    long groups(int t) {
        if (!isTable(t)) {
            return -1;
        }
        List<List<Integer>> all = groupsAt(t);
        all.removeIf(group -> group.size() < 2);
        List<Integer> greatest = new ArrayList<>();
        for (List<Integer> group : all) {
            greatest = group.size() > greatest.size() ? group : greatest;
        }
        return tell(all.size(), greatest.size(), greatest.stream().mapToLong(i -> 1L << i).sum());
    }

    long spans(int t) {
        if (!isTable(t)) {
            return -1;
        }
        List<int[]> taken = new ArrayList<>();
        long bits = 0;
        for (int i = 0; i < products.size(); i++) {
            if (numbersOf(taken, products.get(i)[t]) == null) {
                taken.add(products.get(i)[t]);
                bits += 1L << i;
            }
        }
        return tell(taken.size(), bits);
    }

    // ---- kept, lifted

    long keeps() {
        kept = copy(products);
        keptSizes = new int[] {n, m, p};
        return kept.size();
    }

    boolean sameSizes() {
        return Arrays.equals(keptSizes, new int[] {n, m, p});
    }

    long others() {
        if (kept == null) {
            return -2;
        }
        int matched = sameSizes() ? matched(products, kept) : 0;
        return tell(products.size() - matched, kept.size() - matched);
    }

    long unlikes() {
        if (kept == null || !sameSizes()) {
            return kept == null ? -2 : -3;
        }
        long unlike = 0;
        long[] first = {};
        for (int x = 0; x < places(0); x++) {
            for (int y = 0; y < places(1); y++) {
                for (int z = 0; z < places(2); z++) {
                    int diff = wholeGiven(products, x, y, z) - wholeGiven(kept, x, y, z);
                    if (mod(diff) != 0 && unlike++ == 0) {
                        first = new long[] {x, y, z};
                    }
                }
            }
        }
        return tell(unlike, first);
    }

    long back() {
        if (kept == null || !sameSizes()) {
            return kept == null ? -2 : -3;
        }
        products = copy(kept);
        return products.size();
    }

    long lifts() {
        if (q != 2) {
            return -2;
        }
        List<Long> before = told;
        boolean right = checks() == 0;
        told = before;
        if (!right) {
            return -3;
        }
        int one = places(0) + places(1) + places(2);
        int unknowns = products.size() * one;
        List<boolean[]> equations = new ArrayList<>();
        for (int x = 0; x < places(0); x++) {
            for (int y = 0; y < places(1); y++) {
                for (int z = 0; z < places(2); z++) {
                    boolean[] equation = new boolean[unknowns + 1];
                    for (int i = 0; i < products.size(); i++) {
                        int[][] a = products.get(i);
                        equation[i * one + x] = a[1][y] * a[2][z] == 1;
                        equation[i * one + places(0) + y] = a[0][x] * a[2][z] == 1;
                        equation[i * one + places(0) + places(1) + z] = a[0][x] * a[1][y] == 1;
                    }
                    int missing = needed(x, y, z) - wholeGiven(products, x, y, z);
                    equation[unknowns] = ((missing % 4) + 4) % 4 == 2;
                    equations.add(equation);
                }
            }
        }
        int rank = 0;
        for (int k = 0; k < unknowns; k++) {
            rank += eliminate(equations, rank, k) ? 1 : 0;
        }
        boolean can = true;
        for (boolean[] equation : equations.subList(rank, equations.size())) {
            can &= !equation[unknowns];
        }
        return tell(can ? 1 : 0, rank, unknowns);
    }

    private static boolean eliminate(List<boolean[]> equations, int done, int unknown) {
        for (int e = done; e < equations.size(); e++) {
            if (equations.get(e)[unknown]) {
                boolean[] pivot = equations.get(e);
                equations.set(e, equations.get(done));
                equations.set(done, pivot);
                for (int other = e; other < equations.size(); other++) {
                    boolean[] row = equations.get(other);
                    if (other > done && row[unknown]) {
                        for (int k = unknown; k < row.length; k++) {
                            row[k] ^= pivot[k];
                        }
                    }
                }
                return true;
            }
        }
        return false;
    }

    long count(int what) {
        switch (what) {
            case 0:
            case 1:
            case 2:
                return rows(what);
            case 3:
                return q;
            case 4:
                return products.size();
            case 5:
                return kept == null ? -1 : kept.size();
            case 6:
                return told.size();
            case 7:
                return text.length();
            case 8:
                return zeros();
            case 9:
                return products.stream().mapToLong(a -> nonZeros(a[0]) + nonZeros(a[1]) + nonZeros(a[2])).sum();
            case 10:
            case 11:
            case 12:
                return groupsAt(what - 10).size();
            case 13:
                return products.stream()
                    .filter(a -> nonZeros(a[0]) == 1 && nonZeros(a[1]) == 1 && nonZeros(a[2]) == 1).count();
            default:
                return -1;
        }
    }

    static long nonZeros(int[] form) {
        return Arrays.stream(form).filter(v -> v != 0).count();
    }
}
