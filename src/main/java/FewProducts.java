import java.util.NoSuchElementException;

/**
 * Schemes by which two small tables of numbers are multiplied with few products,
 * over a field of two or three.
 */
public final class FewProducts {
    public static final int NONE = -1;

    private static final int MOST_PRODUCTS = 40;
    private static final int MOST_PLACES = 9;
    private static final int MOST_SIGNS = 400;
    private static final int MOST_STEPS = 100;
    private static final int TABLES = 3;
    private static final int MOST_LINES = 3;
    private static final int FAULT = -21;
    private static final int NO_FAULT = -1;

    private final Text text = new Text();
    private final Told told = new Told();
    private final Scheme now = new Scheme();
    private final Scheme kept = new Scheme();
    private final Scheme spare = new Scheme();
    private final Factors factors = new Factors();
    private final Joiner joiner = new Joiner();
    private final Shedder shedder = new Shedder();
    private final Basis basis = new Basis();
    private final Lifting lifting = new Lifting();
    private boolean isKept;

    public FewProducts() {
        now.makePlain(2, 2, 2, 2);
    }

    // ---- the scheme

    public int format(int n, int m, int p, int q) {
        if (!isSize(n) || !isSize(m) || !isSize(p) || q < 2 || q > 3) {
            return NONE;
        }
        now.makePlain(n, m, p, q);
        isKept = false;
        return now.size;
    }

    public int sign(int v) {
        return text.addFour(v) ? text.length : NONE;
    }

    public boolean end(int n) {
        return text.cut(n);
    }

    public int scheme() {
        spare.takeShape(now);
        int fault = text.readScheme(spare);
        text.empty();
        if (fault >= 0) {
            return FAULT - fault;
        }
        now.takeAll(spare);
        return now.size;
    }

    public int adds() {
        spare.takeShape(now);
        int fault = text.readProduct(spare);
        text.empty();
        if (fault >= 0) {
            return FAULT - fault;
        }
        if (now.isFull()) {
            return -2;
        }
        now.addFrom(spare, 0);
        return now.size;
    }

    public int drops(int i) {
        if (!now.isProduct(i)) {
            return NONE;
        }
        now.remove(i);
        return now.size;
    }

    public int form(int i, int table) {
        if (!now.isProduct(i) || !isTable(table)) {
            return NONE;
        }
        return Forms.code(now.formAt(i, table), now.q);
    }

    public int number(int i, int table, int place) {
        if (!now.isProduct(i) || !now.isPlace(table, place)) {
            return NONE;
        }
        return Forms.numberAt(now.formAt(i, table), place);
    }

    public int checks() {
        told.clear();
        int wrong = 0;
        for (int x = 0; x < now.places(0); x++) {
            for (int y = 0; y < now.places(1); y++) {
                for (int z = 0; z < now.places(2); z++) {
                    int comes = now.givenAt(x, y, z);
                    int due = now.neededAt(x, y, z);
                    if (comes != due) {
                        tellFirst(wrong, x, y, z);
                        if (wrong == 0) {
                            told.add(comes);
                            told.add(due);
                        }
                        wrong++;
                    }
                }
            }
        }
        return wrong;
    }

    public int given(int x, int y, int z) {
        if (!now.isPlace(0, x) || !now.isPlace(1, y) || !now.isPlace(2, z)) {
            return NONE;
        }
        told.clear();
        told.add(now.neededAt(x, y, z));
        told.add(now.meetAt(x, y, z));
        return now.givenAt(x, y, z);
    }

    public int multiplies() {
        int fault = text.readNumbers(factors.numbers, now.places(0) + now.places(1), now.q);
        text.empty();
        if (fault >= 0) {
            return FAULT - fault;
        }
        told.clear();
        int wrong = 0;
        for (int z = 0; z < now.places(2); z++) {
            int comes = factors.comesAt(now, z);
            told.add(comes);
            if (comes != factors.dueAt(now, z)) {
                wrong++;
            }
        }
        return wrong;
    }

    public int sums() {
        int first = 0;
        int second = 0;
        for (int i = 0; i < now.size; i++) {
            first += lessOne(Integer.bitCount(now.formAt(i, 0)));
            second += lessOne(Integer.bitCount(now.formAt(i, 1)));
        }
        int third = 0;
        for (int z = 0; z < now.places(2); z++) {
            third += lessOne(now.usersOf(2, z, 1) + now.usersOf(2, z, 2));
        }
        tellThree(first, second, third);
        return first + second + third;
    }

    // ---- flips, what is joined

    public int like(int i, int j, int table) {
        if (!now.isProduct(i) || !now.isProduct(j) || !isTable(table)) {
            return NONE;
        }
        int f = now.likeBy(i, j, table);
        return f > 0 ? f : -2;
    }

    public int flips() {
        int first = now.flipsAt(0);
        int second = now.flipsAt(1);
        int third = now.flipsAt(2);
        tellThree(first, second, third);
        return first + second + third;
    }

    public int flip(int i, int j, int w) {
        if (!now.isProduct(i) || !now.isProduct(j) || !isTable(w)) {
            return NONE;
        }
        if (i == j) {
            return -2;
        }
        if (now.likeBy(i, j, w) == 0) {
            return -3;
        }
        now.turnFlip(i, j, w);
        return now.zeros();
    }

    public int joins() {
        joiner.join(now);
        told.clear();
        told.add(joiner.byZero);
        told.add(joiner.byLike);
        return joiner.byZero + joiner.byLike;
    }

    public int sheds() {
        shedder.went.clear();
        int went = 0;
        for (int k = 0; k < MOST_PRODUCTS; k++) {
            if (shedder.shedFirst(now)) {
                went++;
            } else {
                break;
            }
        }
        tellThree(shedder.went.at(0), shedder.went.at(1), shedder.went.at(2));
        return went;
    }

    public int splits(int i, int w) {
        int fault = text.readForm(now, isTable(w) ? w : 0);
        int part = text.form;
        text.empty();
        if (fault >= 0) {
            return FAULT - fault;
        }
        if (!now.isProduct(i) || !isTable(w)) {
            return NONE;
        }
        if (now.isFull()) {
            return -2;
        }
        int whole = now.formAt(i, w);
        if (whole == part) {
            return -3;
        }
        now.addFrom(now, i);
        now.setForm(now.size - 1, w, Forms.less(whole, part, now.q));
        now.setForm(i, w, part);
        return now.size;
    }

    public int plus(int i, int j, int w) {
        if (!now.isProduct(i) || !now.isProduct(j) || !isTable(w)) {
            return NONE;
        }
        if (i == j) {
            return -2;
        }
        if (now.isFull()) {
            return -3;
        }
        int u = behind(w);
        int v = behind(u);
        now.addFrom(now, j);
        now.setForm(now.size - 1, w, Forms.less(now.formAt(j, w), now.formAt(i, w), now.q));
        now.setForm(j, w, now.formAt(i, w));
        now.setForm(j, v, Forms.less(now.formAt(j, v), now.formAt(i, v), now.q));
        now.setForm(i, u, Forms.sum(now.formAt(i, u), now.formAt(j, u), now.q));
        return now.size;
    }

    public int scales(int i, int w, int f) {
        if (!now.isProduct(i) || !isTable(w) || !isFactor(f)) {
            return NONE;
        }
        int u = behind(w);
        spare.takeShape(now);
        spare.addFrom(now, i);
        now.setForm(i, w, Forms.times(f, now.formAt(i, w)));
        now.setForm(i, u, Forms.times(f, now.formAt(i, u)));
        return now.isLike(i, spare, 0) ? 1 : 0;
    }

    public int narrows(int space, int r) {
        if (!isTable(space) || !isLine(space, r)) {
            return NONE;
        }
        if (now.rows(space) <= 1) {
            return -2;
        }
        Turns.narrow(now, space, r - 1);
        return now.zeros();
    }

    public int widens(int space) {
        if (!isTable(space)) {
            return NONE;
        }
        if (now.rows(space) >= MOST_LINES) {
            return -2;
        }
        if (now.size + now.rows(behind(space)) * now.rows(ahead(space)) > MOST_PRODUCTS) {
            return -3;
        }
        Turns.widen(now, space);
        return now.size;
    }

    public int walks(int seed, int n) {
        if (n < 1 || n > MOST_STEPS || seed < 1 || seed > 2147483646) {
            return NONE;
        }
        long x = seed;
        int done = 0;
        for (int k = 0; k < n; k++) {
            x = x * 16807 % 2147483647;
            if (Joiner.flipDrawn(now, x)) {
                joiner.join(now);
                done++;
            }
        }
        told.clear();
        told.add(done);
        told.add(x);
        return now.size;
    }

    // ---- symmetry

    public int rolls() {
        Turns.roll(now);
        return now.size;
    }

    public int mirrors() {
        Turns.mirror(now);
        return now.size;
    }

    public int shears(int space, int r, int s, int f) {
        if (!isTable(space) || !isLine(space, r) || !isLine(space, s) || r == s || !isFactor(f)) {
            return NONE;
        }
        spare.takeAll(now);
        Turns.shear(now, space, r - 1, s - 1, f);
        return now.othersThan(spare);
    }

    public int swaps(int space, int r, int s) {
        if (!isTable(space) || !isLine(space, r) || !isLine(space, s)) {
            return NONE;
        }
        spare.takeAll(now);
        Turns.swap(now, space, r - 1, s - 1);
        return now.othersThan(spare);
    }

    public int uses(int table, int place) {
        if (!now.isPlace(table, place)) {
            return NONE;
        }
        int used = 0;
        told.clear();
        for (int number = 1; number < now.q; number++) {
            int users = now.usersOf(table, place, number);
            told.add(users);
            used += users;
        }
        told.add(now.unused(table));
        return used;
    }

    public int round() {
        if (now.n != now.m || now.m != now.p) {
            return -2;
        }
        spare.takeAll(now);
        Turns.roll(spare);
        return asSpare();
    }

    public int mirrored() {
        if (now.m != now.p) {
            return -2;
        }
        spare.takeAll(now);
        Turns.mirror(spare);
        return asSpare();
    }

    public int groups(int table) {
        if (!isTable(table)) {
            return NONE;
        }
        int groups = 0;
        long greatest = 0;
        for (int i = 0; i < now.size; i++) {
            long group = now.groupOf(i, table);
            boolean isNew = (group & bit(i) - 1) == 0;
            if (isNew && Long.bitCount(group) >= 2) {
                groups++;
                if (Long.bitCount(group) > Long.bitCount(greatest)) {
                    greatest = group;
                }
            }
        }
        told.clear();
        told.add(Long.bitCount(greatest));
        told.add(greatest);
        return groups;
    }

    public int spans(int table) {
        if (!isTable(table)) {
            return NONE;
        }
        basis.start(now.q);
        long free = 0;
        for (int i = 0; i < now.size; i++) {
            if (basis.take(now.formAt(i, table))) {
                free |= bit(i);
            }
        }
        told.clear();
        told.add(free);
        return basis.size;
    }

    // ---- kept, lifted

    public int keeps() {
        kept.takeAll(now);
        isKept = true;
        return kept.size;
    }

    public int others() {
        if (!isKept) {
            return -2;
        }
        int matched = now.hasShapeOf(kept) ? now.matches(kept) : 0;
        told.clear();
        told.add(kept.size - matched);
        return now.size - matched;
    }

    public int unlikes() {
        if (!isKept) {
            return -2;
        }
        if (!now.hasShapeOf(kept)) {
            return -3;
        }
        told.clear();
        int unlike = 0;
        for (int x = 0; x < now.places(0); x++) {
            for (int y = 0; y < now.places(1); y++) {
                for (int z = 0; z < now.places(2); z++) {
                    if (now.givenAt(x, y, z) != kept.givenAt(x, y, z)) {
                        tellFirst(unlike, x, y, z);
                        unlike++;
                    }
                }
            }
        }
        return unlike;
    }

    public int back() {
        if (!isKept) {
            return -2;
        }
        if (!now.hasShapeOf(kept)) {
            return -3;
        }
        now.takeAll(kept);
        return now.size;
    }

    public int lifts() {
        if (now.q != 2) {
            return -2;
        }
        if (!now.isRight()) {
            return -3;
        }
        boolean canLift = lifting.solve(now);
        told.clear();
        told.add(lifting.rank);
        told.add(now.size * (now.places(0) + now.places(1) + now.places(2)));
        return canLift ? 1 : 0;
    }

    public int count(int what) {
        switch (what) {
            case 0:
                return now.n;
            case 1:
                return now.m;
            case 2:
                return now.p;
            case 3:
                return now.q;
            case 4:
                return now.size;
            case 5:
                return isKept ? kept.size : NONE;
            case 6:
                return told.size;
            case 7:
                return text.length;
            case 8:
                return now.zeros();
            case 9:
                return now.notZero();
            case 10:
            case 11:
            case 12:
                return now.unlikeForms(what - 10);
            case 13:
                return now.singles();
            default:
                return NONE;
        }
    }

    public long row(int i) throws NoSuchElementException {
        if (i < 0 || i >= told.size) {
            throw new NoSuchElementException();
        }
        return told.at(i);
    }

    // ---- what the calls share

    private static boolean isSize(int v) {
        return v >= 1 && v <= MOST_LINES;
    }

    private static boolean isTable(int table) {
        return table >= 0 && table < TABLES;
    }

    /** Whether a space (told as its table, of which it is the rows) has a line r, counted from 1. */
    private boolean isLine(int space, int r) {
        return r >= 1 && r <= now.rows(space);
    }

    private boolean isFactor(int f) {
        return f >= 1 && f < now.q;
    }

    private static int behind(int table) {
        return table >= TABLES - 1 ? 0 : table + 1;
    }

    /** The table ahead of one, round: its columns are the space of which the other has the rows. */
    private static int ahead(int table) {
        return table <= 0 ? TABLES - 1 : table - 1;
    }

    private static long bit(int i) {
        return 1L << i;
    }

    private static int lessOne(int v) {
        return v > 0 ? v - 1 : 0;
    }

    private void tellFirst(int before, int x, int y, int z) {
        if (before == 0) {
            tellThree(x, y, z);
        }
    }

    private void tellThree(int a, int b, int c) {
        told.clear();
        told.add(a);
        told.add(b);
        told.add(c);
    }

    /** Whether the scheme is the turned one that is spare, told as round() and mirrored() do. */
    private int asSpare() {
        int same = 0;
        for (int i = 0; i < now.size; i++) {
            if (now.isLike(i, spare, i)) {
                same++;
            }
        }
        told.clear();
        told.add(same);
        return now.matches(spare) == now.size ? 1 : 0;
    }

    /** Numbers by index. All use of an index goes through here, so that a wrong one can do no harm. */
    private static final class Ints {
        private final int[] cells;

        Ints(int many) {
            cells = new int[many > 0 ? many : 0];
        }

        int at(int i) {
            return i >= 0 && i < cells.length ? cells[i] : 0;
        }

        void put(int i, int v) {
            if (i >= 0 && i < cells.length) {
                cells[i] = v;
            }
        }

        void clear() {
            for (int i = 0; i < cells.length; i++) {
                cells[i] = 0;
            }
        }
    }

    /**
     * Forms, each packed into one int, so that two are compared and summed at once:
     * bits 0 .. 8 are the places that have 1, bits 9 .. 17 those that have 2.
     */
    private static final class Forms {
        private static final int LOW = (1 << MOST_PLACES) - 1;

        static int mod(int v, int q) {
            return q == 3 ? Math.floorMod(v, 3) : v & 1;
        }

        static int numberAt(int x, int place) {
            return (x >> place & 1) + 2 * (x >> place + MOST_PLACES & 1);
        }

        static int with(int x, int place, int number) {
            int one = 1 << place;
            int two = 1 << place + MOST_PLACES;
            int cleared = x & ~(one | two);
            if (number == 1) {
                return cleared | one;
            }
            return number == 2 ? cleared | two : cleared;
        }

        static int sum(int x, int y, int q) {
            if (q == 2) {
                return x ^ y;
            }
            int x1 = x & LOW;
            int x2 = x >> MOST_PLACES;
            int y1 = y & LOW;
            int y2 = y >> MOST_PLACES;
            int ones = x1 & ~(y1 | y2) | y1 & ~(x1 | x2) | x2 & y2;
            int twos = x2 & ~(y1 | y2) | y2 & ~(x1 | x2) | x1 & y1;
            return ones | twos << MOST_PLACES;
        }

        static int times(int number, int x) {
            if (number == 2) {
                return x >> MOST_PLACES | (x & LOW) << MOST_PLACES;
            }
            return number == 1 ? x : 0;
        }

        static int less(int x, int y, int q) {
            return sum(x, times(q - 1, y), q);
        }

        /** By which f the form y is f times x, both not 0; 0 if by none. */
        static int likeBy(int x, int y, int q) {
            if (x == 0 || y == 0) {
                return 0;
            }
            if (x == y) {
                return 1;
            }
            return q == 3 && times(2, x) == y ? 2 : 0;
        }

        static int code(int x, int q) {
            int code = 0;
            for (int place = MOST_PLACES - 1; place >= 0; place--) {
                code = code * q + numberAt(x, place);
            }
            return code;
        }

        static int placesOf(int x) {
            return (x | x >> MOST_PLACES) & LOW;
        }
    }

    /** Products over tables of n, m, p, in the field of q. */
    private static final class Scheme {
        private final Ints forms = new Ints(TABLES * MOST_PRODUCTS);
        private int n;
        private int m;
        private int p;
        private int q;
        private int size;

        void makePlain(int rows0, int rows1, int rows2, int field) {
            n = rows0;
            m = rows1;
            p = rows2;
            q = field;
            size = 0;
            addPlain(NONE);
        }

        /** Adds the plain products, or those alone that have the last line of a space. */
        void addPlain(int space) {
            for (int i = 0; i < n; i++) {
                for (int j = 0; j < m; j++) {
                    for (int k = 0; k < p; k++) {
                        boolean isLast = space == 0 && i == n - 1 || space == 1 && j == m - 1
                                || space == 2 && k == p - 1;
                        if (space == NONE || isLast) {
                            addOnes(i * m + j, j * p + k, k * n + i);
                        }
                    }
                }
            }
        }

        private void addOnes(int x, int y, int z) {
            if (addZero()) {
                setForm(size - 1, 0, Forms.with(0, x, 1));
                setForm(size - 1, 1, Forms.with(0, y, 1));
                setForm(size - 1, 2, Forms.with(0, z, 1));
            }
        }

        boolean addZero() {
            if (isFull()) {
                return false;
            }
            size++;
            for (int t = 0; t < TABLES; t++) {
                setForm(size - 1, t, 0);
            }
            return true;
        }

        void addFrom(Scheme from, int i) {
            if (addZero()) {
                for (int t = 0; t < TABLES; t++) {
                    setForm(size - 1, t, from.formAt(i, t));
                }
            }
        }

        void remove(int i) {
            if (isProduct(i)) {
                for (int k = TABLES * i; k < TABLES * (size - 1); k++) {
                    forms.put(k, forms.at(k + TABLES));
                }
                size--;
            }
        }

        void takeShape(Scheme from) {
            n = from.n;
            m = from.m;
            p = from.p;
            q = from.q;
            size = 0;
        }

        void takeAll(Scheme from) {
            takeShape(from);
            size = from.size;
            for (int k = 0; k < TABLES * size; k++) {
                forms.put(k, from.forms.at(k));
            }
        }

        boolean hasShapeOf(Scheme other) {
            return n == other.n && m == other.m && p == other.p;
        }

        boolean isFull() {
            return size >= MOST_PRODUCTS;
        }

        boolean isProduct(int i) {
            return i >= 0 && i < size;
        }

        boolean isPlace(int table, int place) {
            return isTable(table) && place >= 0 && place < places(table);
        }

        int rows(int table) {
            return table == 0 ? n : table == 1 ? m : p;
        }

        int columns(int table) {
            return rows(behind(table));
        }

        int places(int table) {
            return rows(table) * columns(table);
        }

        int rowOf(int table, int place) {
            int columns = columns(table);
            return columns > 0 ? place / columns : 0;
        }

        int columnOf(int table, int place) {
            int columns = columns(table);
            return columns > 0 ? place % columns : 0;
        }

        int formAt(int i, int table) {
            return forms.at(TABLES * i + table);
        }

        void setForm(int i, int table, int x) {
            forms.put(TABLES * i + table, x);
        }

        int givenAt(int x, int y, int z) {
            int all = 0;
            for (int i = 0; i < size; i++) {
                int first = Forms.numberAt(formAt(i, 0), x);
                if (first != 0) {
                    all += first * Forms.numberAt(formAt(i, 1), y) * Forms.numberAt(formAt(i, 2), z);
                }
            }
            return Forms.mod(all, q);
        }

        /** In how many products none of the numbers at x, y, z is 0. */
        int meetAt(int x, int y, int z) {
            int meet = 0;
            for (int i = 0; i < size; i++) {
                if (Forms.numberAt(formAt(i, 0), x) != 0 && Forms.numberAt(formAt(i, 1), y) != 0
                        && Forms.numberAt(formAt(i, 2), z) != 0) {
                    meet++;
                }
            }
            return meet;
        }

        int neededAt(int x, int y, int z) {
            return columnOf(0, x) == rowOf(1, y) && columnOf(1, y) == rowOf(2, z)
                    && columnOf(2, z) == rowOf(0, x) ? 1 : 0;
        }

        boolean isRight() {
            for (int x = 0; x < places(0); x++) {
                for (int y = 0; y < places(1); y++) {
                    for (int z = 0; z < places(2); z++) {
                        if (givenAt(x, y, z) != neededAt(x, y, z)) {
                            return false;
                        }
                    }
                }
            }
            return true;
        }

        boolean hasZero(int i) {
            return formAt(i, 0) == 0 || formAt(i, 1) == 0 || formAt(i, 2) == 0;
        }

        /** The first product of which a form is 0, or NONE. */
        int firstZero() {
            for (int i = 0; i < size; i++) {
                if (hasZero(i)) {
                    return i;
                }
            }
            return NONE;
        }

        int zeros() {
            int zeros = 0;
            for (int i = 0; i < size; i++) {
                if (hasZero(i)) {
                    zeros++;
                }
            }
            return zeros;
        }

        int notZero() {
            int numbers = 0;
            for (int k = 0; k < TABLES * size; k++) {
                numbers += Integer.bitCount(forms.at(k));
            }
            return numbers;
        }

        /** How many products have but one number that is not 0 in each form. */
        int singles() {
            int singles = 0;
            for (int i = 0; i < size; i++) {
                if (Integer.bitCount(formAt(i, 0)) == 1 && Integer.bitCount(formAt(i, 1)) == 1
                        && Integer.bitCount(formAt(i, 2)) == 1) {
                    singles++;
                }
            }
            return singles;
        }

        int usersOf(int table, int place, int number) {
            int users = 0;
            for (int i = 0; i < size; i++) {
                if (Forms.numberAt(formAt(i, table), place) == number) {
                    users++;
                }
            }
            return users;
        }

        int unused(int table) {
            int used = 0;
            for (int i = 0; i < size; i++) {
                used |= Forms.placesOf(formAt(i, table));
            }
            return places(table) - Integer.bitCount(used);
        }

        int likeBy(int i, int j, int table) {
            return Forms.likeBy(formAt(i, table), formAt(j, table), q);
        }

        /** Whether product i and product k of another scheme of this shape are like. */
        boolean isLike(int i, Scheme other, int k) {
            int all = 1;
            for (int t = 0; t < TABLES; t++) {
                all *= Forms.likeBy(formAt(i, t), other.formAt(k, t), q);
            }
            return Forms.mod(all, q) == 1;
        }

        /** How many products find one of another scheme that is like, each of these for one alone. */
        int matches(Scheme other) {
            long taken = 0;
            for (int i = 0; i < size; i++) {
                for (int k = 0; k < other.size; k++) {
                    if ((taken & bit(k)) == 0 && isLike(i, other, k)) {
                        taken |= bit(k);
                        break;
                    }
                }
            }
            return Long.bitCount(taken);
        }

        int othersThan(Scheme before) {
            int others = 0;
            for (int k = 0; k < TABLES * size; k++) {
                if (forms.at(k) != before.forms.at(k)) {
                    others++;
                }
            }
            return others;
        }

        /** The products (bits) whose forms at a table are like that of i; none if it is 0. */
        long groupOf(int i, int table) {
            long group = 0;
            for (int k = 0; k < size; k++) {
                if (likeBy(i, k, table) > 0) {
                    group |= bit(k);
                }
            }
            return group;
        }

        int unlikeForms(int table) {
            int unlike = 0;
            for (int i = 0; i < size; i++) {
                long group = groupOf(i, table);
                if (group != 0 && (group & bit(i) - 1) == 0) {
                    unlike++;
                }
            }
            return unlike;
        }

        int flipsAt(int table) {
            int flips = 0;
            for (int i = 0; i < size; i++) {
                for (int j = 0; j < i; j++) {
                    if (likeBy(i, j, table) > 0) {
                        flips += 2;
                    }
                }
            }
            return flips;
        }

        /** The flip of i and j at w, whose forms there are like. */
        void turnFlip(int i, int j, int w) {
            int u = behind(w);
            int v = behind(u);
            int f = likeBy(i, j, w);
            setForm(j, w, formAt(i, w));
            setForm(j, u, Forms.times(f, formAt(j, u)));
            setForm(i, u, Forms.sum(formAt(i, u), formAt(j, u), q));
            setForm(j, v, Forms.less(formAt(j, v), formAt(i, v), q));
        }
    }

    /** The signs of the text, and their reading: a read tells where the first fault is, or NO_FAULT. */
    private static final class Text {
        private final Ints signs = new Ints(MOST_SIGNS);
        private int length;
        private int at;
        private int form;

        boolean addFour(int v) {
            if (length + 4 > MOST_SIGNS) {
                return false;
            }
            for (int shift = 24; shift >= 0; shift -= 8) {
                signs.put(length, v >>> shift & 255);
                length++;
            }
            return true;
        }

        boolean cut(int many) {
            if (many < 0 || many > length) {
                return false;
            }
            length = many;
            return true;
        }

        void empty() {
            length = 0;
        }

        int readScheme(Scheme into) {
            at = 0;
            if (!takeProduct(into)) {
                return at;
            }
            for (int k = 1; k < MOST_PRODUCTS && take(';'); k++) {
                if (!takeProduct(into)) {
                    return at;
                }
            }
            return restFault();
        }

        int readProduct(Scheme into) {
            at = 0;
            return takeProduct(into) ? restFault() : at;
        }

        int readForm(Scheme shape, int table) {
            at = 0;
            return takeForm(shape, table) ? restFault() : at;
        }

        int readNumbers(Ints into, int many, int q) {
            at = 0;
            for (int k = 0; k < many; k++) {
                if (k > 0 && !take(',')) {
                    return at;
                }
                int number = peek() - '0';
                if (number < 0 || number >= q) {
                    return at;
                }
                into.put(k, number);
                at++;
            }
            return restFault();
        }

        private int restFault() {
            return at < length ? at : NO_FAULT;
        }

        private int peek() {
            return at < length ? signs.at(at) : NONE;
        }

        private boolean take(char due) {
            if (peek() != due) {
                return false;
            }
            at++;
            return true;
        }

        private boolean takeProduct(Scheme into) {
            if (!into.addZero()) {
                return false;
            }
            for (int t = 0; t < TABLES; t++) {
                if (t > 0 && !take('*') || !takeForm(into, t)) {
                    return false;
                }
                into.setForm(into.size - 1, t, form);
            }
            return true;
        }

        private boolean takeForm(Scheme shape, int table) {
            form = 0;
            int number = take('-') ? shape.q - 1 : 1;
            for (int k = 0; k < MOST_SIGNS; k++) {
                if (!takeTerm(shape, table, number)) {
                    return false;
                }
                if (take('+')) {
                    number = 1;
                } else if (take('-')) {
                    number = shape.q - 1;
                } else {
                    return true;
                }
            }
            return false;
        }

        private boolean takeTerm(Scheme shape, int table, int number) {
            if (peek() != 'a' + table) {
                return false;
            }
            at++;
            int r = peek() - '1';
            if (r < 0 || r >= shape.rows(table)) {
                return false;
            }
            at++;
            int c = peek() - '1';
            if (c < 0 || c >= shape.columns(table)) {
                return false;
            }
            int place = r * shape.columns(table) + c;
            if (Forms.numberAt(form, place) != 0) {
                return false;
            }
            at++;
            form = Forms.with(form, place, number);
            return true;
        }
    }

    /** The row of numbers that was told last. */
    private static final class Told {
        private final long[] numbers = new long[MOST_PLACES];
        private int size;

        void clear() {
            size = 0;
        }

        void add(long v) {
            if (size >= 0 && size < numbers.length) {
                numbers[size] = v;
                size++;
            }
        }

        long at(int i) {
            return i >= 0 && i < numbers.length ? numbers[i] : 0;
        }
    }

    /** Two tables of numbers, one behind the other, that a scheme multiplies. */
    private static final class Factors {
        private final Ints numbers = new Ints(2 * MOST_PLACES);

        int comesAt(Scheme s, int z) {
            int all = 0;
            for (int i = 0; i < s.size; i++) {
                int number = Forms.numberAt(s.formAt(i, 2), z);
                if (number != 0) {
                    int first = weigh(s.formAt(i, 0), 0, s.places(0));
                    int second = weigh(s.formAt(i, 1), s.places(0), s.places(1));
                    all += Forms.mod(first * second, s.q) * number;
                }
            }
            return Forms.mod(all, s.q);
        }

        private int weigh(int form, int start, int places) {
            int all = 0;
            for (int place = 0; place < places; place++) {
                all += Forms.numberAt(form, place) * numbers.at(start + place);
            }
            return all;
        }

        int dueAt(Scheme s, int z) {
            int r = s.columnOf(2, z);
            int c = s.rowOf(2, z);
            int all = 0;
            for (int j = 0; j < s.m; j++) {
                all += numbers.at(r * s.m + j) * numbers.at(s.places(0) + j * s.p + c);
            }
            return Forms.mod(all, s.q);
        }
    }

    /**
     * Forms taken so that none is a sum of others. Of each reduced one it is known how it is made
     * of those taken: a form of its own, its places being theirs, by the order they were taken in.
     */
    private static final class Basis {
        private final Ints reduced = new Ints(MOST_PLACES);
        private final Ints made = new Ints(MOST_PLACES);
        private final Ints pivots = new Ints(MOST_PLACES);
        private int q;
        private int size;
        private int rest;
        private int parts;

        void start(int field) {
            q = field;
            size = 0;
        }

        /** Takes a form, if it is no sum of those taken. */
        boolean take(int x) {
            reduce(x);
            if (rest == 0 || size >= MOST_PLACES) {
                return false;
            }
            int pivot = firstPlace(rest);
            // in both fields a number that is not 0 is its own inverse
            int scale = Forms.numberAt(rest, pivot);
            reduced.put(size, Forms.times(scale, rest));
            made.put(size, Forms.times(scale, Forms.less(Forms.with(0, size, 1), parts, q)));
            pivots.put(size, pivot);
            size++;
            return true;
        }

        /** Whether a form is a sum of those taken; then their numbers in it are the parts. */
        boolean isSum(int x) {
            reduce(x);
            return rest == 0;
        }

        private void reduce(int x) {
            rest = x;
            parts = 0;
            for (int k = 0; k < size; k++) {
                int number = Forms.numberAt(rest, pivots.at(k));
                if (number != 0) {
                    rest = Forms.less(rest, Forms.times(number, reduced.at(k)), q);
                    parts = Forms.sum(parts, Forms.times(number, made.at(k)), q);
                }
            }
        }

        private static int firstPlace(int x) {
            for (int place = 0; place < MOST_PLACES; place++) {
                if (Forms.numberAt(x, place) != 0) {
                    return place;
                }
            }
            return 0;
        }
    }

    /** Joins what can be joined, and walks by flips. */
    private static final class Joiner {
        private int byZero;
        private int byLike;

        void join(Scheme s) {
            byZero = 0;
            byLike = 0;
            for (int k = 0; k < MOST_PRODUCTS; k++) {
                int zero = s.firstZero();
                if (zero >= 0) {
                    s.remove(zero);
                    byZero++;
                } else if (joinFirst(s)) {
                    byLike++;
                } else {
                    return;
                }
            }
        }

        private static boolean joinFirst(Scheme s) {
            for (int i = 0; i < s.size; i++) {
                for (int j = i + 1; j < s.size; j++) {
                    for (int w = 0; w < TABLES; w++) {
                        if (joinTwo(s, i, j, w)) {
                            return true;
                        }
                    }
                }
            }
            return false;
        }

        private static boolean joinTwo(Scheme s, int i, int j, int w) {
            int u = behind(w);
            int f = s.likeBy(i, j, u);
            int g = f == 0 ? 0 : s.likeBy(i, j, behind(u));
            if (g == 0) {
                return false;
            }
            // f times g: two equal ones give 1, also where both are 2
            int both = f == g ? 1 : 2;
            s.setForm(i, w, Forms.sum(s.formAt(i, w), Forms.times(both, s.formAt(j, w)), s.q));
            s.remove(j);
            return true;
        }

        /** Does the flip that x draws: whether there was one to do. */
        static boolean flipDrawn(Scheme s, long x) {
            int first = s.flipsAt(0);
            int second = s.flipsAt(1);
            int all = first + second + s.flipsAt(2);
            if (all <= 0) {
                return false;
            }
            int k = (int) (x % all);
            if (k < first) {
                flipAt(s, 0, k);
            } else if (k < first + second) {
                flipAt(s, 1, k - first);
            } else {
                flipAt(s, 2, k - first - second);
            }
            return true;
        }

        private static void flipAt(Scheme s, int w, int k) {
            int ahead = 0;
            for (int i = 0; i < s.size; i++) {
                for (int j = 0; j < s.size; j++) {
                    if (i != j && s.likeBy(i, j, w) > 0) {
                        if (ahead == k) {
                            s.turnFlip(i, j, w);
                            return;
                        }
                        ahead++;
                    }
                }
            }
        }
    }

    /** Sheds products whose form is a sum of those of others that share a form with them. */
    private static final class Shedder {
        private final Basis basis = new Basis();
        private final Ints taken = new Ints(MOST_PLACES);
        private final Ints went = new Ints(TABLES);

        /** Sheds the first product that can go: whether one could. */
        boolean shedFirst(Scheme s) {
            for (int w = 0; w < TABLES; w++) {
                int u = w;
                for (int turn = 1; turn < TABLES; turn++) {
                    u = behind(u);
                    for (int j = 0; j < s.size; j++) {
                        if (!s.hasZero(j) && isSumOfAhead(s, w, u, j)) {
                            share(s, TABLES - w - u, j);
                            s.remove(j);
                            went.put(w, went.at(w) + 1);
                            return true;
                        }
                    }
                }
            }
            return false;
        }

        private boolean isSumOfAhead(Scheme s, int w, int u, int j) {
            basis.start(s.q);
            for (int k = 0; k < j; k++) {
                int f = s.hasZero(k) ? 0 : s.likeBy(j, k, w);
                if (f > 0 && basis.take(Forms.times(f, s.formAt(k, u)))) {
                    taken.put(basis.size - 1, k);
                }
            }
            return basis.isSum(s.formAt(j, u));
        }

        private void share(Scheme s, int v, int j) {
            for (int k = 0; k < basis.size; k++) {
                int more = Forms.times(Forms.numberAt(basis.parts, k), s.formAt(j, v));
                int i = taken.at(k);
                s.setForm(i, v, Forms.sum(s.formAt(i, v), more, s.q));
            }
        }
    }

    /** Turns a scheme round, mirrors it, changes lines; a space is the rows of its table. */
    private static final class Turns {
        static void roll(Scheme s) {
            for (int i = 0; i < s.size; i++) {
                int first = s.formAt(i, 0);
                s.setForm(i, 0, s.formAt(i, 1));
                s.setForm(i, 1, s.formAt(i, 2));
                s.setForm(i, 2, first);
            }
            int n = s.n;
            s.n = s.m;
            s.m = s.p;
            s.p = n;
        }

        static void mirror(Scheme s) {
            for (int i = 0; i < s.size; i++) {
                int first = transposed(s.formAt(i, 2), s.p, s.n);
                int second = transposed(s.formAt(i, 1), s.m, s.p);
                int third = transposed(s.formAt(i, 0), s.n, s.m);
                s.setForm(i, 0, first);
                s.setForm(i, 1, second);
                s.setForm(i, 2, third);
            }
            int m = s.m;
            s.m = s.p;
            s.p = m;
        }

        private static int transposed(int x, int rows, int columns) {
            int y = 0;
            for (int r = 0; r < rows; r++) {
                for (int c = 0; c < columns; c++) {
                    y = Forms.with(y, c * rows + r, Forms.numberAt(x, r * columns + c));
                }
            }
            return y;
        }

        static void shear(Scheme s, int space, int from, int to, int f) {
            int other = ahead(space);
            int length = s.columns(space);
            int columns = s.columns(other);
            int rows = s.rows(other);
            for (int i = 0; i < s.size; i++) {
                int byRows = s.formAt(i, space);
                for (int c = 0; c < length; c++) {
                    byRows = addTimes(byRows, from * length + c, to * length + c, f, s.q);
                }
                s.setForm(i, space, byRows);
                int byColumns = s.formAt(i, other);
                for (int r = 0; r < rows; r++) {
                    byColumns = addTimes(byColumns, r * columns + to, r * columns + from, s.q - f, s.q);
                }
                s.setForm(i, other, byColumns);
            }
        }

        private static int addTimes(int x, int from, int to, int f, int q) {
            int more = f * Forms.numberAt(x, from);
            return Forms.with(x, to, Forms.mod(Forms.numberAt(x, to) + more, q));
        }

        static void swap(Scheme s, int space, int one, int two) {
            int other = ahead(space);
            int length = s.columns(space);
            int columns = s.columns(other);
            int rows = s.rows(other);
            for (int i = 0; i < s.size; i++) {
                int byRows = s.formAt(i, space);
                for (int c = 0; c < length; c++) {
                    byRows = exchanged(byRows, one * length + c, two * length + c);
                }
                s.setForm(i, space, byRows);
                int byColumns = s.formAt(i, other);
                for (int r = 0; r < rows; r++) {
                    byColumns = exchanged(byColumns, r * columns + one, r * columns + two);
                }
                s.setForm(i, other, byColumns);
            }
        }

        private static int exchanged(int x, int one, int two) {
            int first = Forms.numberAt(x, one);
            int second = Forms.numberAt(x, two);
            return Forms.with(Forms.with(x, one, second), two, first);
        }

        static void narrow(Scheme s, int space, int line) {
            int other = ahead(space);
            for (int i = 0; i < s.size; i++) {
                s.setForm(i, space, withoutRow(s.formAt(i, space), s.columns(space), line));
                int rows = s.rows(other);
                s.setForm(i, other, withoutColumn(s.formAt(i, other), rows, s.columns(other), line));
            }
            stretch(s, space, -1);
        }

        private static int withoutRow(int x, int columns, int line) {
            int y = x;
            for (int place = line * columns; place < MOST_PLACES; place++) {
                int behind = place + columns;
                y = Forms.with(y, place, behind < MOST_PLACES ? Forms.numberAt(x, behind) : 0);
            }
            return y;
        }

        private static int withoutColumn(int x, int rows, int columns, int line) {
            int y = 0;
            int place = 0;
            for (int r = 0; r < rows; r++) {
                for (int c = 0; c < columns; c++) {
                    if (c != line) {
                        y = Forms.with(y, place, Forms.numberAt(x, r * columns + c));
                        place++;
                    }
                }
            }
            return y;
        }

        /** A new last row leaves the places as they are; a new last column moves them on. */
        static void widen(Scheme s, int space) {
            int other = ahead(space);
            int rows = s.rows(other);
            int columns = s.columns(other);
            for (int i = 0; i < s.size; i++) {
                int x = s.formAt(i, other);
                int y = 0;
                for (int r = 0; r < rows; r++) {
                    for (int c = 0; c < columns; c++) {
                        y = Forms.with(y, r * (columns + 1) + c, Forms.numberAt(x, r * columns + c));
                    }
                }
                s.setForm(i, other, y);
            }
            stretch(s, space, 1);
            s.addPlain(space);
        }

        private static void stretch(Scheme s, int space, int more) {
            if (space == 0) {
                s.n += more;
            } else if (space == 1) {
                s.m += more;
            } else {
                s.p += more;
            }
        }
    }

    /**
     * The equations modulo 2 that tell whether a right scheme over the field of two lifts to modulo
     * four. They are held by unknowns: of each the equations it stands in, as bits; then the rank is
     * that of these columns, and there is an answer if the right sides are a sum of them.
     */
    private static final class Lifting {
        private static final int MOST_EQUATIONS = MOST_PLACES * MOST_PLACES * MOST_PLACES;
        private static final int WORDS = (MOST_EQUATIONS + 63) / 64;
        private final long[] reduced = new long[MOST_EQUATIONS * WORDS];
        private final Ints isPivot = new Ints(MOST_EQUATIONS);
        private final long[] column = new long[WORDS];
        private final Ints strides = new Ints(TABLES);
        private int equations;
        private int rank;

        boolean solve(Scheme s) {
            start(s);
            for (int i = 0; i < s.size; i++) {
                for (int t = 0; t < TABLES; t++) {
                    for (int place = 0; place < s.places(t); place++) {
                        setUnknown(s, i, t, place);
                        takeColumn();
                    }
                }
            }
            setRightSides(s);
            return reduce() < 0;
        }

        private void start(Scheme s) {
            rank = 0;
            equations = s.places(0) * s.places(1) * s.places(2);
            strides.put(0, s.places(1) * s.places(2));
            strides.put(1, s.places(2));
            strides.put(2, 1);
            isPivot.clear();
        }

        private void clearColumn() {
            for (int k = 0; k < column.length; k++) {
                column[k] = 0;
            }
        }

        private void setBit(int equation) {
            int word = equation >> 6;
            if (word >= 0 && word < column.length) {
                column[word] |= bit(equation & 63);
            }
        }

        private boolean hasBit(int equation) {
            int word = equation >> 6;
            return word >= 0 && word < column.length && (column[word] & bit(equation & 63)) != 0;
        }

        /** The equations in which twice the number at a place comes, if it is added there. */
        private void setUnknown(Scheme s, int i, int t, int place) {
            clearColumn();
            int u = behind(t);
            int v = behind(u);
            for (int y = 0; y < s.places(u); y++) {
                if (Forms.numberAt(s.formAt(i, u), y) != 0) {
                    for (int z = 0; z < s.places(v); z++) {
                        if (Forms.numberAt(s.formAt(i, v), z) != 0) {
                            setBit(place * strides.at(t) + y * strides.at(u) + z * strides.at(v));
                        }
                    }
                }
            }
        }

        private void setRightSides(Scheme s) {
            clearColumn();
            for (int x = 0; x < s.places(0); x++) {
                for (int y = 0; y < s.places(1); y++) {
                    for (int z = 0; z < s.places(2); z++) {
                        // the scheme is right, so what is missing is even; its half is due modulo 2
                        int missing = s.neededAt(x, y, z) - s.meetAt(x, y, z);
                        if ((missing >> 1 & 1) != 0) {
                            setBit(x * strides.at(0) + y * strides.at(1) + z);
                        }
                    }
                }
            }
        }

        private void takeColumn() {
            int pivot = reduce();
            if (pivot >= 0) {
                isPivot.put(pivot, 1);
                rank++;
                for (int k = 0; k < column.length; k++) {
                    int cell = pivot * WORDS + k;
                    if (cell < reduced.length) {
                        reduced[cell] = column[k];
                    }
                }
            }
        }

        /** Takes from the column what the earlier ones make of it: its first bit then, or NONE. */
        private int reduce() {
            for (int equation = 0; equation < equations; equation++) {
                if (hasBit(equation)) {
                    if (isPivot.at(equation) == 0) {
                        return equation;
                    }
                    lessPivot(equation);
                }
            }
            return NONE;
        }

        private void lessPivot(int pivot) {
            for (int k = pivot >> 6; k >= 0 && k < column.length; k++) {
                int cell = pivot * WORDS + k;
                if (cell >= 0 && cell < reduced.length) {
                    column[k] ^= reduced[cell];
                }
            }
        }
    }
}
