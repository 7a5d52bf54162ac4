/** Promise 38 beside the model, on schemes of 3, 3, 3 that lift and on such that do not. */
public final class LiftTest {
    public static void main(String[] args) {
        int[] answers = new int[2];
        for (int seed = 1; seed <= 12; seed++) {
            FewProducts x = Due.coded(Due.LIFTLESS_24);
            for (int k = 0; k < 8; k++) {
                answers[compare(x)]++;
                if (k == 4) {
                    x.plus(seed % 20, 21, seed % 3);
                }
                x.walks(1000 * seed + k, k % 2 == 0 ? 1 : 60);
            }
        }
        Due.is("some lift", answers[1] > 5, true);
        Due.is("some do not", answers[0] > 5, true);
        Due.over();
    }

    private static int compare(FewProducts x) {
        Model model = new Model();
        model.format(3, 3, 3, 2);
        model.products.clear();
        for (int i = 0; i < x.count(4); i++) {
            int[][] product = new int[3][9];
            for (int k = 0; k < 27; k++) {
                product[k / 9][k % 9] = x.number(i, k / 9, k % 9);
            }
            model.products.add(product);
        }
        int answer = x.lifts();
        Due.is("lifts", answer, model.lifts());
        Due.row("lifts", x, model.told.get(0), model.told.get(1));
        return answer;
    }

    private LiftTest() {
    }
}
