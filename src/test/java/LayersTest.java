/** Promises 19 and 20: layers, nearest. */
public final class LayersTest {
    public static void main(String[] args) {
        ownWordsAndOneParting();
        oneLawForAll();
        notTold();
        nearest();
        nearestLaw();
        Check.end();
    }

    private static void ownWordsAndOneParting() {
        StormParting s = new StormParting();
        Check.cover(s, "h 20;a 10");
        Check.cover(s, "h 20;u 10");
        Check.due("no losses, own", s.layers(3, false), 0);
        Check.due("no losses, one", s.layers(3, true), 0);
        Check.loss(s, 15, 0);
        Check.loss(s, 15, 5);
        Check.due("the first alone", s.layers(1, true), 2000);
        Check.due("the second alone", s.layers(2, true), 2000);
        Check.due("each by its own words", s.layers(3, false), 4000);
        Check.due("by one parting", s.layers(3, true), 3000);
        Check.cover(s, "h 20;u 10;b 99");
        Check.due("three by one", s.layers(7, true), 3020);
        Check.due("1 and 3 by one", s.layers(5, true), 2010);
        int[] wrong = {0, 8, 9, -1, 64, Integer.MIN_VALUE, Integer.MAX_VALUE};
        for (int w : wrong) {
            Check.due("layers(" + w + ") own", s.layers(w, false), Check.HIDDEN);
            Check.due("layers(" + w + ") one", s.layers(w, true), Check.HIDDEN);
        }
    }

    private static void oneLawForAll() {
        StormParting s = new StormParting();
        Check.cover(s, "h 20;o 1;a 9;g 50");
        Check.cover(s, "h 7;a 9;g 1");
        Check.cover(s, "h 20;a 9;r 5");
        Check.cover(s, "h 20;a 9;c 1;g 6");
        s.loss(10, 0, 0, 0, 0, 1);
        s.loss(10, 6, 0, 9, 0, 3);
        s.loss(10, 13, 0, 0, 0, 2);
        Check.due("own", s.layers(3, false), 2100 + 1200);
        Check.due("the hours of both", s.layers(3, true), 2 * 1200);
        Check.due("the first with the miles of the third", s.layers(5, true), 2 * 300);
        Check.due("2 and 4: a gap of 6", s.layers(10, true), 2 * 1200);
        Check.due("the first with the causes of the fourth", s.layers(9, true), 2 * 1200);
        Check.due("2, 3 and 4: 0 and 6 are too near for two, too far for one", s.layers(14, true), Check.HIDDEN);
        Check.due("each by its own", s.layers(14, false), 1200 + 300 + 1200);
        Check.cover(s, "h 1;g 6");
        Check.due("one has none of its own", s.layers(17, false), Check.HIDDEN);
    }

    private static void notTold() {
        StormParting s = new StormParting();
        Check.cover(s, "h 20;o 1");
        Check.cover(s, "h 20;o 1;a 3");
        Check.cover(s, "h 20");
        for (int i = 0; i < 8; i++) {
            Check.loss(s, 2, i);
        }
        Check.due("eight", s.layers(3, true), 1600 + 1300);
        Check.loss(s, 2, 8);
        Check.due("nine, both overlap", s.layers(3, true), Check.HIDDEN);
        Check.due("nine, own", s.layers(3, false), Check.HIDDEN);
        Check.due("nine, one may not overlap", s.layers(6, true), 1800 + 1500);
        Check.due("nine, own, one may not overlap", s.layers(6, false), Check.HIDDEN);
        Check.due("nine, not overlapping", s.layers(4, false), 1800);
    }

    private static void nearest() {
        StormParting s = new StormParting();
        Check.cover(s, "h 20;a 5");
        Check.due("no losses", s.nearest(0, 0), 1);
        Check.due("no losses between", s.nearest(0, 1), 0);
        Check.loss(s, 10, 0);
        Check.loss(s, 10, 8);
        Check.due("one hour: both alike", s.nearest(0, 0), 1);
        Check.due("nothing between", s.nearest(0, 1), 0);
        Check.dueWord(s, 0, 0, "20");
        Check.due("the cover stays", s.most(0, 3, 0), 1500);
        int[][] wrong = {{-1, 0}, {1, 0}, {0, -1}, {0, 2}, {Integer.MAX_VALUE, 0}, {0, Integer.MIN_VALUE}};
        for (int[] w : wrong) {
            Check.due("nearest of no such ones", s.nearest(w[0], w[1]), Check.HIDDEN);
        }
    }

    private static void nearestLaw() {
        StormParting s = new StormParting();
        Check.cover(s, "h 1;a 5;g 20");
        Check.loss(s, 10, 0);
        Check.loss(s, 10, 8);
        Check.loss(s, 4, 29);
        Check.due("lawful from nine hours on", s.nearest(0, 0), 9);
        Check.due("nothing between there", s.nearest(0, 1), 0);
        s.mend(1, 98, 10);
        s.mend(2, 197, 10);
        Check.cover(s, "h 1;a 5;g 99");
        Check.due("99 apart are never one", s.nearest(1, 0), Check.HIDDEN);
        Check.due("nor is there anything between", s.nearest(1, 1), Check.HIDDEN);
        s.mend(2, 198, 10);
        Check.due("98 apart are at 99", s.nearest(1, 0), 99);
        StormParting t = new StormParting();
        Check.cover(t, "h 20;a 5;g 3");
        Check.loss(t, 10, 0);
        Check.loss(t, 10, 3);
        Check.loss(t, 10, 9);
        Check.due("lawful from four on", t.nearest(0, 0), 4);
        Check.due("all in one is not yet", t.nearest(0, 1), 0);
        Check.cover(t, "h 20;o 1");
        for (int i = 3; i < 9; i++) {
            Check.loss(t, 1, 50);
        }
        Check.due("nine that may overlap", t.nearest(1, 0), Check.HIDDEN);
    }
}
