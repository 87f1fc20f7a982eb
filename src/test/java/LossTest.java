/** Promises 7 to 9, 24 and 25: loss, may, paid, mend, count. */
public final class LossTest {
    public static void main(String[] args) {
        bounds();
        hours();
        miles();
        causes();
        paid();
        mend();
        count();
        Check.end();
    }

    private static void bounds() {
        StormParting s = new StormParting();
        int max = Integer.MAX_VALUE;
        int min = Integer.MIN_VALUE;
        int[][] wrong = {
            {0, 0, 0, 0, 0, 1}, {100, 0, 0, 0, 0, 1}, {-1, 0, 0, 0, 0, 1}, {1, -1, 0, 0, 0, 1}, {1, 1000, 0, 0, 0, 1},
            {1, 0, -1, 0, 0, 1}, {1, 0, 100, 0, 0, 1}, {1, 901, 99, 0, 0, 1}, {1, 999, 1, 0, 0, 1}, {1, 0, 0, -1, 0, 1},
            {1, 0, 0, 100, 0, 1}, {1, 0, 0, 0, -1, 1}, {1, 0, 0, 0, 100, 1}, {1, 0, 0, 0, 0, 0}, {1, 0, 0, 0, 0, 64},
            {1, 0, 0, 0, 0, -1}, {max, 0, 0, 0, 0, 1}, {1, max, max, 0, 0, 1}, {1, 0, max, 0, 0, 1}, {1, min, 0, 0, 0, 1},
            {1, 0, 0, max, min, 1}, {1, 0, 0, 0, 0, max}, {1, 0, 0, 0, 0, min}};
        for (int[] w : wrong) {
            Check.due("a loss out of bounds", s.loss(w[0], w[1], w[2], w[3], w[4], w[5]), Check.NONE);
        }
        Check.due("none of them came", s.count(1), 0);
        Check.due("least of all", s.loss(1, 0, 0, 0, 0, 1), 0);
        Check.due("greatest of all", s.loss(99, 999, 0, 99, 99, 63), 1);
        Check.due("latest of all", s.loss(99, 900, 99, 99, 99, 32), 2);
        for (int i = 3; i < 12; i++) {
            Check.due("loss " + i, Check.loss(s, 1, i), i);
        }
        Check.due("a thirteenth", Check.loss(s, 1, 1), Check.NONE);
        Check.due("twelve", s.count(1), 12);
    }

    private static void hours() {
        StormParting s = new StormParting();
        Check.cover(s, "h 10");
        Check.loss(s, 1, 20);
        Check.loss(s, 1, 29);
        Check.loss(s, 1, 30);
        s.loss(1, 11, 9, 0, 0, 1);
        Check.due("nine apart", s.may(0, 3), 1);
        Check.due("ten apart", s.may(0, 5), 0);
        Check.due("one by itself", s.may(0, 4), 1);
        Check.due("all", s.may(0, 7), 0);
        Check.due("as told, not later", s.may(0, 12), 0);
        Check.due("nine apart, the later first", s.may(0, 9), 1);
        int[][] wrong = {{0, 0}, {0, 16}, {0, 17}, {0, -1}, {0, Integer.MIN_VALUE}, {1, 1}, {-1, 1}};
        for (int[] w : wrong) {
            Check.due("may of no such ones", s.may(w[0], w[1]), Check.NONE);
            Check.due("paid of no such ones", s.paid(w[0], w[1]), Check.NONE);
        }
    }

    private static void miles() {
        StormParting s = new StormParting();
        Check.cover(s, "h 10");
        Check.cover(s, "h 10;r 5");
        Check.cover(s, "h 10;r 0");
        s.loss(1, 0, 0, 10, 10, 1);
        s.loss(1, 0, 0, 13, 14, 1);
        s.loss(1, 0, 0, 14, 14, 1);
        s.loss(1, 0, 0, 7, 6, 1);
        s.loss(1, 0, 0, 10, 10, 1);
        Check.due("not asked", s.may(0, 31), 1);
        Check.due("just five", s.may(1, 3), 1);
        Check.due("more than five", s.may(1, 5), 0);
        Check.due("five on the other side", s.may(1, 9), 1);
        Check.due("any two: ten between the outer ones", s.may(1, 11), 0);
        Check.due("the same place", s.may(2, 17), 1);
        Check.due("another place", s.may(2, 3), 0);
    }

    private static void causes() {
        StormParting s = new StormParting();
        Check.cover(s, "h 10");
        Check.cover(s, "h 10;c 1");
        s.loss(1, 0, 0, 0, 0, 3);
        s.loss(1, 0, 0, 0, 0, 6);
        s.loss(1, 0, 0, 0, 0, 5);
        s.loss(1, 0, 0, 0, 0, 32);
        Check.due("not asked", s.may(0, 15), 1);
        Check.due("two by two", s.may(1, 3) + s.may(1, 5) + s.may(1, 6), 3);
        Check.due("not all three", s.may(1, 7), 0);
        Check.due("not with the fourth", s.may(1, 9), 0);
        Check.due("the fourth alone", s.may(1, 8), 1);
    }

    private static void paid() {
        StormParting s = new StormParting();
        Check.cover(s, "h 1");
        Check.cover(s, "h 1;a 10;u 15;n 1;b 50;p 5");
        Check.loss(s, 10, 0);
        Check.loss(s, 11, 50);
        Check.loss(s, 90, 99);
        Check.due("no more than 99", s.paid(0, 7), 99);
        Check.due("the sum, though it may not be one", s.paid(0, 3), 21);
        Check.due("just what is above", s.paid(1, 1), 0);
        Check.due("one above", s.paid(1, 2), 1);
        Check.due("eleven above", s.paid(1, 3), 11);
        Check.due("up to", s.paid(1, 4), 15);
    }

    private static void mend() {
        StormParting s = new StormParting();
        Check.cover(s, "h 10;a 5");
        s.loss(10, 100, 20, 0, 0, 1);
        Check.loss(s, 10, 115);
        int[][] wrong = {{-1, 0, 1}, {2, 0, 1}, {0, -1, 1}, {0, 1000, 1}, {0, 0, 0}, {0, 0, 100},
            {Integer.MAX_VALUE, 0, 1}, {0, Integer.MAX_VALUE, 1}, {0, 0, Integer.MIN_VALUE}};
        for (int[] w : wrong) {
            Check.due("mend of no such ones", s.mend(w[0], w[1], w[2]), false);
        }
        Check.due("nothing changed", s.paid(0, 1), 5);
        Check.due("fifteen apart", s.may(0, 3), 0);
        Check.due("alone at 100 and at 120", s.ends(0, 0, 0), 1000);
        Check.due("the most at 106", s.ends(0, 0, 1), 1500);
        Check.due("mend", s.mend(0, 118, 30), true);
        Check.due("its sum", s.paid(0, 1), 25);
        Check.due("its hour", s.may(0, 3), 1);
        Check.due("its last hour stays at 120", s.ends(0, 0, 0), 3500);
        Check.due("a later one", s.mend(0, 125, 30), true);
        Check.due("is the last then", s.ends(0, 0, 0), 3000);
        Check.due("and the only one", s.ends(0, 0, 1), 3000);
        Check.due("back to 124", s.mend(0, 124, 30), true);
        Check.due("the last stays at 125", s.ends(0, 0, 0), 3000);
        Check.due("the first is 124", s.ends(0, 0, 1), 3500);
        Check.due("edges", s.mend(1, 999, 99) && s.mend(1, 0, 1), true);
    }

    private static void count() {
        StormParting s = new StormParting();
        Check.cover(s, "h 10");
        Check.cover(s, "h 11");
        Check.loss(s, 1, 1);
        Check.loss(s, 1, 1);
        Check.loss(s, 1, 1);
        s.storm(1, 1);
        Check.feed(s, "h 1;");
        Check.due("covers", s.count(0), 2);
        Check.due("losses", s.count(1), 3);
        Check.due("storms", s.count(2), 1);
        Check.due("bytes", s.count(3), 4);
        int[] wrong = {-1, 4, Integer.MAX_VALUE, Integer.MIN_VALUE};
        for (int w : wrong) {
            Check.due("count(" + w + ")", s.count(w), Check.NONE);
        }
    }
}
