import java.util.Random;

/** Long runs of calls, drawn from fixed seeds, on the class and on the model beside each other. */
public final class ModelTest {
    private static final int RUNS = 1500;
    private static final int CALLS = 400;
    private static final String[] CALL_NAMES = {
        "format", "sign", "end", "scheme", "adds", "drops", "form", "number", "checks", "given", "multiplies", "sums",
        "like", "flips", "flip", "joins", "sheds", "splits", "plus", "scales", "narrows", "widens", "walks",
        "rolls", "mirrors", "shears", "swaps", "uses", "round", "mirrored", "groups", "spans",
        "keeps", "others", "unlikes", "back", "lifts", "count", "row"};

    private final Random random;
    private final FewProducts object = new FewProducts();
    private final Model model = new Model();
    private final StringBuilder log = new StringBuilder();

    private ModelTest(long seed) {
        random = new Random(seed);
    }

    public static void main(String[] args) {
        int runs = args.length > 0 ? Integer.parseInt(args[0]) : RUNS;
        long[] seen = new long[CALL_NAMES.length];
        for (int run = 0; run < runs; run++) {
            ModelTest test = new ModelTest(run);
            if (!test.runs(seen)) {
                System.out.println("run " + run + ":" + test.log);
                System.exit(1);
            }
        }
        System.out.println(runs + " runs answer as the model does");
    }

    private boolean runs(long[] seen) {
        for (int k = 0; k < CALLS; k++) {
            int call = random.nextInt(CALL_NAMES.length);
            seen[call]++;
            int start = log.length();
            long[] got = both(CALL_NAMES[call]);
            log.append(" = ").append(got[0]);
            if (got[0] != got[1] || !sameState()) {
                log.append(", due is ").append(got[1]).append(", or the state differs");
                return false;
            }
            if (log.length() > 4000) {
                log.delete(0, start);
            }
        }
        return true;
    }

    private int any(int from, int to) {
        return from + random.nextInt(to - from + 1);
    }

    /** Mostly from the range, now and then one beside it or far from it. */
    private int near(int from, int to) {
        int kind = random.nextInt(40);
        if (kind == 0) {
            return random.nextInt();
        }
        return kind == 1 || to < from ? any(from - 1, Math.max(from, to) + 1) : any(from, to);
    }

    private int product() {
        return near(0, model.products.size() - 1);
    }

    private long[] both(String name) {
        log.append("\n").append(name).append(" ");
        switch (name) {
            case "format": {
                if (random.nextInt(4) > 0) {
                    return pair(object.count(4), model.count(4));
                }
                int[] a = args(near(1, 3), near(1, 3), near(1, 3), near(2, 3));
                return pair(object.format(a[0], a[1], a[2], a[3]), model.format(a[0], a[1], a[2], a[3]));
            }
            case "sign": {
                int[] a = args(random.nextInt());
                return pair(object.sign(a[0]), model.sign(a[0]));
            }
            case "end": {
                int[] a = args(near(0, model.text.length()));
                return pair(object.end(a[0]) ? 1 : 0, model.end(a[0]));
            }
            case "scheme":
                write(spoiled(schemeText()));
                return pair(object.scheme(), model.scheme());
            case "adds":
                write(spoiled(productText()));
                return pair(object.adds(), model.adds());
            case "drops": {
                int[] a = args(product());
                return pair(object.drops(a[0]), model.drops(a[0]));
            }
            case "multiplies":
                write(spoiled(tablesText()));
                return pair(object.multiplies(), model.multiplies());
            case "splits": {
                int[] a = args(product(), near(0, 2));
                write(spoiled(formText(model.isTable(a[1]) ? a[1] : 0)));
                return pair(object.splits(a[0], a[1]), model.splits(a[0], a[1]));
            }
            default:
                return bothAsked(name);
        }
    }

    private long[] bothAsked(String name) {
        switch (name) {
            case "form": {
                int[] a = args(product(), near(0, 2));
                return pair(object.form(a[0], a[1]), model.form(a[0], a[1]));
            }
            case "number": {
                int[] a = args(product(), near(0, 2), near(0, 8));
                return pair(object.number(a[0], a[1], a[2]), model.number(a[0], a[1], a[2]));
            }
            case "checks":
                return pair(object.checks(), model.checks());
            case "given": {
                int[] a = args(near(0, model.places(0) - 1), near(0, model.places(1) - 1), near(0, model.places(2) - 1));
                return pair(object.given(a[0], a[1], a[2]), model.given(a[0], a[1], a[2]));
            }
            case "sums":
                return pair(object.sums(), model.sums());
            case "like": {
                int[] a = args(product(), product(), near(0, 2));
                return pair(object.like(a[0], a[1], a[2]), model.like(a[0], a[1], a[2]));
            }
            case "flips":
                return pair(object.flips(), model.flips());
            case "flip": {
                int[] a = flipArgs();
                return pair(object.flip(a[0], a[1], a[2]), model.flip(a[0], a[1], a[2]));
            }
            case "joins":
                return random.nextInt(4) > 0 ? pair(0, 0) : pair(object.joins(), model.joins());
            case "sheds":
                return random.nextInt(4) > 0 ? pair(0, 0) : pair(object.sheds(), model.sheds());
            case "plus": {
                int[] a = args(product(), product(), near(0, 2));
                return pair(object.plus(a[0], a[1], a[2]), model.plus(a[0], a[1], a[2]));
            }
            case "scales": {
                int[] a = args(product(), near(0, 2), near(1, model.q - 1));
                return pair(object.scales(a[0], a[1], a[2]), model.scales(a[0], a[1], a[2]));
            }
            case "narrows": {
                int[] a = args(near(0, 2), near(1, 3));
                return pair(object.narrows(a[0], a[1]), model.narrows(a[0], a[1]));
            }
            case "widens": {
                int[] a = args(near(0, 2));
                return pair(object.widens(a[0]), model.widens(a[0]));
            }
            case "walks": {
                int[] a = args(random.nextInt(8) == 0 ? near(1, 2147483645) : random.nextInt(2147483645) + 1,
                        random.nextInt(8) == 0 ? near(1, 100) : any(1, 6));
                return pair(object.walks(a[0], a[1]), model.walks(a[0], a[1]));
            }
            default:
                return bothTurned(name);
        }
    }

    private long[] bothTurned(String name) {
        switch (name) {
            case "rolls":
                return pair(object.rolls(), model.rolls());
            case "mirrors":
                return pair(object.mirrors(), model.mirrors());
            case "shears": {
                int[] a = args(near(0, 2), near(1, 3), near(1, 3), near(1, model.q - 1));
                return pair(object.shears(a[0], a[1], a[2], a[3]), model.shears(a[0], a[1], a[2], a[3]));
            }
            case "swaps": {
                int[] a = args(near(0, 2), near(1, 3), near(1, 3));
                return pair(object.swaps(a[0], a[1], a[2]), model.swaps(a[0], a[1], a[2]));
            }
            case "uses": {
                int[] a = args(near(0, 2), near(0, 8));
                return pair(object.uses(a[0], a[1]), model.uses(a[0], a[1]));
            }
            case "round":
                return pair(object.round(), model.round());
            case "mirrored":
                return pair(object.mirrored(), model.mirrored());
            case "groups": {
                int[] a = args(near(0, 2));
                return pair(object.groups(a[0]), model.groups(a[0]));
            }
            case "spans": {
                int[] a = args(near(0, 2));
                return pair(object.spans(a[0]), model.spans(a[0]));
            }
            case "keeps":
                return pair(object.keeps(), model.keeps());
            case "others":
                return pair(object.others(), model.others());
            case "unlikes":
                return pair(object.unlikes(), model.unlikes());
            case "back":
                return pair(object.back(), model.back());
            case "lifts":
                return pair(object.lifts(), model.lifts());
            case "count": {
                int[] a = args(near(0, 13));
                return pair(object.count(a[0]), model.count(a[0]));
            }
            default: {
                int[] a = args(near(0, 5));
                return pair(rowOf(a[0]), a[0] >= 0 && a[0] < model.told.size() ? model.told.get(a[0]) : Long.MIN_VALUE);
            }
        }
    }

    /** A flip that can be, if there is one and the draw wants it. */
    private int[] flipArgs() {
        java.util.List<int[]> all = model.allFlips();
        if (all.isEmpty() || random.nextInt(5) == 0) {
            return args(product(), product(), near(0, 2));
        }
        return args(all.get(random.nextInt(all.size())));
    }

    private int[] args(int... all) {
        log.append(java.util.Arrays.toString(all));
        return all;
    }

    private static long[] pair(long got, long due) {
        return new long[] {got, due};
    }

    private long rowOf(int i) {
        try {
            return object.row(i);
        } catch (java.util.NoSuchElementException e) {
            return Long.MIN_VALUE;
        }
    }

    private boolean sameState() {
        for (int what = 0; what <= 14; what++) {
            if (object.count(what) != model.count(what)) {
                log.append(" count ").append(what);
                return false;
            }
        }
        for (int i = -1; i <= model.told.size(); i++) {
            long due = i >= 0 && i < model.told.size() ? model.told.get(i) : Long.MIN_VALUE;
            if (rowOf(i) != due) {
                log.append(" row ").append(i).append(" ").append(rowOf(i)).append(", due ").append(due);
                return false;
            }
        }
        for (int i = 0; i <= model.products.size(); i++) {
            for (int t = 0; t < 3; t++) {
                if (object.form(i, t) != model.form(i, t)) {
                    log.append(" form ").append(i).append(" ").append(t);
                    return false;
                }
            }
        }
        return true;
    }

    // ---- texts

    private void write(String s) {
        log.append(s);
        object.end(0);
        model.end(0);
        for (int k = 0; k < s.length(); k += 4) {
            int v = 0;
            for (int c = k; c < k + 4; c++) {
                v = v << 8 | (c < s.length() ? s.charAt(c) & 255 : 0);
            }
            object.sign(v);
            model.sign(v);
        }
        object.end(Math.min(s.length(), 400));
        model.end(Math.min(s.length(), 400));
    }

    private String formText(int t) {
        StringBuilder s = new StringBuilder();
        int[] form = new int[model.places(t)];
        int terms = any(1, random.nextInt(3) == 0 ? form.length : Math.min(2, form.length));
        for (int k = 0; k < terms; k++) {
            int place = random.nextInt(form.length);
            if (form[place] == 0 || random.nextInt(40) == 0) {
                boolean minus = random.nextInt(3) == 0;
                s.append(minus ? "-" : s.length() == 0 ? "" : "+").append("abc".charAt(t));
                s.append(place / model.columns(t) + 1).append(place % model.columns(t) + 1);
                form[place] = 1;
            }
        }
        return s.toString();
    }

    private String productText() {
        return formText(0) + "*" + formText(1) + "*" + formText(2);
    }

    private String schemeText() {
        StringBuilder s = new StringBuilder(productText());
        int most = random.nextInt(3) == 0 ? 40 : 8;
        for (int k = any(0, most); k > 0; k--) {
            s.append(';').append(productText());
        }
        return s.toString();
    }

    private String tablesText() {
        StringBuilder s = new StringBuilder();
        for (int k = model.places(0) + model.places(1); k > 0; k--) {
            s.append(random.nextInt(model.q)).append(k > 1 ? "," : "");
        }
        return s.toString();
    }

    /** The text, or now and then one with a sign that is another, one more, one less, or cut off. */
    private String spoiled(String s) {
        int place = random.nextInt(s.length());
        char other = "abcd0123456789+-*;, \u0000\u00ff".charAt(random.nextInt(22));
        switch (random.nextInt(24)) {
            case 0:
                return s.substring(0, place) + other + s.substring(place + 1);
            case 1:
                return s.substring(0, place) + other + s.substring(place);
            case 2:
                return s.substring(0, place) + s.substring(place + 1);
            case 3:
                return s.substring(0, place);
            case 4:
                return s + other;
            default:
                return s;
        }
    }
}
