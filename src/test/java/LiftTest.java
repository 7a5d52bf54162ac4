/** Promise 38 beside the model, on schemes of all sizes that lift and on such that do not. */
public final class LiftTest {
    public static void main(String[] args) {
        int[] answers = new int[2];
        for (int seed = 1; seed <= 12; seed++) {
            FewProducts x = Due.coded(Due.LIFTLESS_24);
            for (int k = 0; k < 8; k++) {
                answers[compare(x, new int[] {3, 3, 3})]++;
                if (k == 4) {
                    x.plus(seed % 20, 21, seed % 3);
                }
                x.walks(1000 * seed + k, k % 2 == 0 ? 1 : 60);
            }
        }
        for (int k = 0; k < 27 * 16; k++) {
            int[] size = {1 + k % 3, 1 + k / 3 % 3, 1 + k / 9 % 3};
            FewProducts x = Due.made(size[0], size[1], size[2], 2);
            for (int round = 0; round < 4; round++) {
                if (round > 0) {
                    x.plus((7 * k + round) % x.count(4), (5 * k + 3 * round) % x.count(4), round % 3);
                }
                x.walks(k + 1 + 1000 * round, 100);
                answers[compare(x, size)]++;
            }
        }
        Due.is("some lift", answers[1] > 5, true);
        Due.is("some do not", answers[0] > 5, true);
        Due.over();
    }

    private static int compare(FewProducts x, int[] size) {
        Model model = new Model();
        model.format(size[0], size[1], size[2], 2);
        model.products.clear();
        for (int i = 0; i < x.count(4); i++) {
            int[][] product = new int[3][];
            for (int t = 0; t < 3; t++) {
                product[t] = new int[model.places(t)];
                for (int place = 0; place < product[t].length; place++) {
                    product[t][place] = x.form(i, t) >> place & 1;
                }
            }
            model.products.add(product);
        }
        int answer = x.lifts();
        Due.is("lifts", answer, model.lifts());
        Due.row("lifts", x, model.told.get(0), model.told.get(1));
        return answer;
    }

    private LiftTest() {
    }
}
