/** Promise 38 beside the model, on schemes of all sizes that lift and on such that do not; small ones by trying. */
public final class LiftTest {
    public static void main(String[] args) {
        int[] answers = new int[2];
        for (int seed = 1; seed <= 12; seed++) {
            FewProducts x = Due.coded(Due.LIFTLESS_24);
            for (int k = 0; k < 8; k++) {
                answers[compare(x, new int[] {3, 3, 3})]++;
                if (k == 4) {
                    x.plus(seed % 20, 21, seed % 3);
                }
                x.walks(1000 * seed + k, k % 2 == 0 ? 1 : 60);
            }
        }
        for (int k = 0; k < 27 * 16; k++) {
            int[] size = {1 + k % 3, 1 + k / 3 % 3, 1 + k / 9 % 3};
            FewProducts x = Due.made(size[0], size[1], size[2], 2);
            for (int round = 0; round < 4; round++) {
                if (round > 0) {
                    x.plus((7 * k + round) % x.count(4), (5 * k + 3 * round) % x.count(4), round % 3);
                }
                x.walks(k + 1 + 1000 * round, 100);
                answers[compare(x, size)]++;
            }
        }
        Due.is("some lift", answers[1] > 5, true);
        Due.is("some do not", answers[0] > 5, true);
        everyChoice();
        Due.over();
    }

    private static int compare(FewProducts x, int[] size) {
        Model model = new Model();
        model.format(size[0], size[1], size[2], 2);
        model.products.clear();
        for (int i = 0; i < x.count(4); i++) {
            int[][] product = new int[3][];
            for (int t = 0; t < 3; t++) {
                product[t] = new int[model.places(t)];
                for (int place = 0; place < product[t].length; place++) {
                    product[t][place] = x.form(i, t) >> place & 1;
                }
            }
            model.products.add(product);
        }
        int answer = x.lifts();
        Due.is("lifts", answer, model.lifts());
        Due.row("lifts", x, model.told.get(0), model.told.get(1));
        return answer;
    }

    /** Small schemes, with every choice of whole numbers: GIVEN takes one of 2 to the rank values. */
    private static void everyChoice() {
        for (int many = 1; many <= 5; many += 2) {
            choose(Bounds.ones(1, 1, 1, 2, many));
        }
        FewProducts x = Due.made(2, 1, 1, 2, "a11*b11*c11;a21*b11*c12;a21*b11*c11;a11*b11*c12;a21*b11*c11");
        x.narrows(0, 2);
        choose(x);
        String[] schemes = {"a11*b11*c11;a11*b12*c21", "a11*b11+b12*c11;a11*b12*c11+c21",
            "a11*b11*c11+c21;a11*b11*c21;a11*b12*c21", "a11*b11+b12*c11+c21;a11*b12*c11;a11*b11*c21"};
        for (String scheme : schemes) {
            x = Due.made(1, 1, 2, 2, scheme);
            for (int turn = 0; turn < 3; turn++) {
                choose(x);
                x.rolls();
            }
        }
        x = Due.made(1, 3, 1, 2);
        x.walks(9, 20);
        choose(x);
    }

    private static void choose(FewProducts x) {
        int[] places = {x.count(0) * x.count(1), x.count(1) * x.count(2), x.count(2) * x.count(0)};
        int unknowns = x.count(4) * (places[0] + places[1] + places[2]);
        int equations = places[0] * places[1] * places[2];
        int[] forms = new int[3 * x.count(4)];
        for (int k = 0; k < forms.length; k++) {
            forms[k] = x.form(k / 3, k % 3);
        }
        int needed = 0;
        for (int e = 0; e < equations; e++) {
            x.given(e / places[2] / places[1], e / places[2] % places[1], e % places[2]);
            needed |= (int) x.row(0) << 2 * e;
        }
        boolean[] comes = new boolean[1 << 2 * equations];
        int many = 0;
        for (int choice = 0; choice < 1 << unknowns; choice++) {
            int given = givenModuloFour(forms, places, choice);
            many += comes[given] ? 0 : 1;
            comes[given] = true;
        }
        Due.is("RIGHT", x.checks(), 0);
        Due.is("lifts, with every choice", x.lifts(), comes[needed] ? 1 : 0);
        Due.is("so many come", many, 1L << x.row(0));
        Due.row("lifts, with every choice", x, x.row(0), unknowns);
    }

    /** GIVEN at all places, two bits each, if 2 comes to each number for which the choice has a bit. */
    private static int givenModuloFour(int[] forms, int[] places, int choice) {
        int one = places[0] + places[1] + places[2];
        int all = 0;
        for (int e = 0; e < places[0] * places[1] * places[2]; e++) {
            int[] at = {e / places[2] / places[1], e / places[2] % places[1], e % places[2]};
            int sum = 0;
            for (int i = 0; i < forms.length / 3; i++) {
                int product = 1;
                int unknown = i * one;
                for (int t = 0; t < 3; t++) {
                    product *= (forms[3 * i + t] >> at[t] & 1) + 2 * (choice >> unknown + at[t] & 1);
                    unknown += places[t];
                }
                sum += product;
            }
            all |= (sum & 3) << 2 * e;
        }
        return all;
    }

    private LiftTest() {
    }
}
