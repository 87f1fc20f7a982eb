/** Promises 21 to 23: storm, mean, game. */
public final class StormTest {
    public static void main(String[] args) {
        storms();
        mean();
        game();
        gameHidden();
        Check.end();
    }

    private static void storms() {
        StormParting s = new StormParting();
        Check.loss(s, 1, 0);
        Check.loss(s, 1, 0);
        int[][] wrong = {{4, 1}, {5, 1}, {-1, 1}, {Integer.MIN_VALUE, 1}, {1, 0}, {1, 100}, {1, -1}, {1, Integer.MAX_VALUE}};
        for (int[] w : wrong) {
            Check.due("storm of no such ones", s.storm(w[0], w[1]), Check.NONE);
        }
        Check.due("none came", s.count(2), 0);
        for (int i = 0; i < 12; i++) {
            Check.due("storm " + i, s.storm(i % 4, i == 0 ? 99 : 1), i + 1);
        }
        Check.due("a thirteenth", s.storm(1, 1), Check.NONE);
        Check.cover(s, "h 1");
        Check.due("the weights", s.mean(0, 2), 110);
    }

    private static void mean() {
        StormParting s = new StormParting();
        Check.cover(s, "h 20;a 5");
        Check.cover(s, "h 20;a 5;r 0");
        Check.cover(s, "h 20;o 1");
        Check.due("no storms by most", s.mean(0, 0), 0);
        Check.due("no storms by least", s.mean(0, 1), 0);
        Check.due("no storms: weights", s.mean(0, 2), 0);
        s.loss(10, 0, 0, 0, 0, 1);
        s.loss(10, 8, 0, 0, 0, 1);
        s.loss(10, 8, 0, 1, 0, 1);
        s.storm(3, 2);
        s.storm(1, 3);
        s.storm(7, 10);
        s.storm(0, 99);
        Check.due("by most", s.mean(0, 0), 2 * 1500 + 3 * 500 + 10 * 2500);
        Check.due("by least", s.mean(0, 1), 2 * 1000 + 3 * 500 + 10 * 2000);
        Check.due("weights", s.mean(0, 2), 114);
        Check.due("0 for one without a lawful parting, by most", s.mean(1, 0), 2 * 1500 + 3 * 500);
        Check.due("0 for one without a lawful parting, by least", s.mean(1, 1), 2 * 1000 + 3 * 500);
        Check.due("weights all the same", s.mean(1, 2), 114);
        for (int i = 3; i < 9; i++) {
            Check.loss(s, 1, 50);
        }
        Check.due("not asked of all losses", s.mean(2, 0), 2 * 2000 + 3 * 1000 + 10 * 3000);
        s.storm(511, 1);
        Check.due("not told for one storm", s.mean(2, 0), Check.HIDDEN);
        Check.due("not told for one storm by least", s.mean(2, 1), Check.HIDDEN);
        Check.due("not told for one storm, weights", s.mean(2, 2), Check.HIDDEN);
        Check.due("told by another cover", s.mean(0, 2), 115);
        int[][] wrong = {{-1, 0}, {3, 0}, {0, -1}, {0, 3}, {Integer.MAX_VALUE, 0}, {0, Integer.MIN_VALUE}};
        for (int[] w : wrong) {
            Check.due("mean of no such ones", s.mean(w[0], w[1]), Check.HIDDEN);
        }
    }

    private static void dueGame(StormParting s, int one, int other, int[] want) {
        for (int what = 0; what < 3; what++) {
            Check.due("game(" + one + ", " + other + ", " + what + ")", s.game(one, other, what), want[what]);
        }
    }

    private static void game() {
        StormParting s = new StormParting();
        Check.cover(s, "h 20");
        Check.cover(s, "h 20;u 12");
        Check.cover(s, "h 20;a 10");
        Check.loss(s, 10, 0);
        dueGame(s, 0, 1, new int[] {0, 0, 0});
        Check.loss(s, 30, 30);
        Check.loss(s, 15, 60);
        dueGame(s, 0, 1, new int[] {0, 2500, 1});
        dueGame(s, 1, 0, new int[] {1, 2500, 1});
        dueGame(s, 1, 2, new int[] {0, 2200, 1});
        dueGame(s, 2, 2, new int[] {0, 500, 1});
        Check.cover(s, "h 20;b 50");
        Check.cover(s, "h 20;u 15;b 50");
        dueGame(s, 4, 3, new int[] {0, 1250, 1});
        dueGame(s, 3, 4, new int[] {0, 1250, 1});
        s.mend(1, 30, 15);
        dueGame(s, 0, 0, new int[] {0, 2500, 1});
    }

    private static void gameHidden() {
        StormParting s = new StormParting();
        Check.cover(s, "h 20");
        Check.cover(s, "h 20;r 0");
        Check.cover(s, "h 20;o 1");
        dueGame(s, 0, 0, new int[] {Check.HIDDEN, Check.HIDDEN, Check.HIDDEN});
        s.loss(10, 0, 0, 0, 0, 1);
        s.loss(10, 0, 0, 1, 0, 1);
        dueGame(s, 0, 1, new int[] {0, 1000, 0});
        s.loss(10, 50, 0, 0, 0, 1);
        Check.due("it hangs all the same", s.hangs(1), 0);
        dueGame(s, 0, 1, new int[] {Check.HIDDEN, Check.HIDDEN, Check.HIDDEN});
        dueGame(s, 1, 0, new int[] {Check.HIDDEN, Check.HIDDEN, Check.HIDDEN});
        for (int i = 3; i < 9; i++) {
            Check.loss(s, 1, 50);
        }
        dueGame(s, 0, 2, new int[] {0, 2600, 0});
        Check.loss(s, 1, 50);
        dueGame(s, 0, 2, new int[] {Check.HIDDEN, Check.HIDDEN, Check.HIDDEN});
        dueGame(s, 2, 0, new int[] {Check.HIDDEN, Check.HIDDEN, Check.HIDDEN});
        int[][] wrong = {{-1, 0, 0}, {0, -1, 0}, {3, 0, 0}, {0, 3, 0}, {0, 0, -1}, {0, 0, 3},
            {Integer.MAX_VALUE, 0, 0}, {0, 0, Integer.MIN_VALUE}};
        for (int[] w : wrong) {
            Check.due("game of no such ones", s.game(w[0], w[1], w[2]), Check.HIDDEN);
        }
    }
}
