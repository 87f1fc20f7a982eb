/** Promises 10 to 13: put, judge, brings, year. */
public final class ToldPartingTest {
    public static void main(String[] args) {
        put();
        judgePairs();
        judgeNearness();
        judgeWholeHappenings();
        brings();
        rowOrder();
        year();
        Check.end();
    }

    private static void put() {
        StormParting s = new StormParting();
        Check.loss(s, 1, 1);
        int[][] wrong = {{-1, 0}, {1, 0}, {0, -1}, {0, 16}, {12, 0}, {Integer.MAX_VALUE, 1}, {0, Integer.MIN_VALUE}};
        for (int[] w : wrong) {
            Check.due("put of no such ones", s.put(w[0], w[1]), false);
        }
        Check.due("put 15", s.put(0, 15), true);
        Check.due("put 0", s.put(0, 0), true);
    }

    private static void judgePairs() {
        StormParting s = new StormParting();
        Check.cover(s, "h 10;o 1");
        Check.loss(s, 1, 0);
        Check.loss(s, 1, 9);
        Check.loss(s, 1, 12);
        Check.loss(s, 1, 20);
        Check.due("0 and 2 are not one", s.judge(0), 2);
        s.put(0, 7);
        Check.due("1 and 3 are not one", s.judge(0), 19);
        s.put(3, 7);
        Check.due("0 and 3 are not one", s.judge(0), 3);
        s.put(0, 15);
        Check.due("lawful", s.judge(0), Check.NONE);
        Check.due("no such cover", s.judge(1), Check.NONE);
        Check.due("no such cover below", s.judge(-1), Check.NONE);
    }

    private static void judgeNearness() {
        StormParting s = new StormParting();
        Check.cover(s, "h 50;g 5");
        Check.cover(s, "h 50;g 5;o 1");
        Check.loss(s, 1, 0);
        Check.loss(s, 1, 10);
        Check.loss(s, 1, 4);
        s.put(1, 1);
        Check.due("lawful: 4 and 5 is below 10", s.judge(0), Check.NONE);
        s.mend(2, 5, 1);
        Check.due("all their hours: 0 and 1 bar, by 2", s.judge(0), 1);
        Check.due("they may overlap", s.judge(1), Check.NONE);
        s.mend(2, 4, 1);
        s.put(2, 2);
        Check.due("4 is too near to 0", s.judge(0), 2);
        s.mend(2, 17, 1);
        Check.due("lawful, three", s.judge(0), Check.NONE);
        s.mend(0, 10, 1);
        Check.due("at one hour", s.judge(0), 1);
        StormParting t = new StormParting();
        Check.cover(t, "h 50");
        Check.loss(t, 1, 5);
        Check.loss(t, 1, 5);
        t.put(1, 1);
        Check.due("one hour without a gap", t.judge(0), 1);
        t.mend(1, 6, 1);
        Check.due("the hour after", t.judge(0), Check.NONE);
    }

    private static void judgeWholeHappenings() {
        StormParting s = new StormParting();
        Check.cover(s, "h 50;c 1;o 1");
        Check.cover(s, "h 50;c 1");
        s.loss(1, 0, 0, 0, 0, 8);
        s.loss(1, 1, 0, 0, 0, 3);
        s.loss(1, 40, 0, 0, 0, 8);
        s.loss(1, 2, 0, 0, 0, 6);
        s.loss(1, 3, 0, 0, 0, 5);
        s.put(0, 3);
        s.put(2, 4);
        Check.due("two by two, not three", s.judge(0), 16 + 3);
        Check.due("hidden then", s.brings(0, 0), Check.HIDDEN);
        s.put(4, 9);
        Check.due("lawful without it", s.judge(0), Check.NONE);
        s.put(4, 0);
        s.put(2, 0);
        Check.due("a pair bars ahead of the whole", s.judge(0), 16 + 2);
        s.put(2, 3);
        Check.due("nearness bars ahead of the whole", s.judge(1), 1);
    }

    private static void brings() {
        StormParting s = new StormParting();
        Check.cover(s, "h 10;o 1;a 5;u 20;n 2;b 25;p 10");
        Check.due("no losses: brings", s.brings(0, 0), 0);
        Check.due("no losses: net", s.brings(0, 1), 0);
        Check.due("no losses: happenings", s.brings(0, 2), 0);
        Check.due("no losses: paid for", s.brings(0, 3), 0);
        Check.loss(s, 30, 30);
        Check.loss(s, 5, 0);
        Check.loss(s, 8, 20);
        Check.loss(s, 9, 10);
        for (int i = 0; i < 4; i++) {
            s.put(i, i);
        }
        Check.due("the row: nothing for 5, 4 for 9, 3 for 8, then no more", s.brings(0, 0), 7 * 75);
        Check.due("net", s.brings(0, 1), 7 * 75 * 20 - 100 * 10 * 7);
        Check.due("happenings", s.brings(0, 2), 4);
        Check.due("paid for", s.brings(0, 3), 2);
        s.mend(3, 29, 30);
        s.put(3, 2);
        Check.due("8 and 30 are up to 20, then 20 more", s.brings(0, 0), 40 * 75);
        Check.due("used is no more than 20", s.brings(0, 1), 40 * 75 * 20 - 100 * 10 * 20);
        Check.due("three happenings", s.brings(0, 2), 3);
        Check.due("two paid for", s.brings(0, 3), 2);
        int[][] wrong = {{0, -1}, {0, 4}, {1, 0}, {-1, 0}, {Integer.MAX_VALUE, 0}};
        for (int[] w : wrong) {
            Check.due("brings of no such ones", s.brings(w[0], w[1]), Check.HIDDEN);
        }
        Check.cover(s, "h 10;n 1;p 99");
        s.put(2, 0);
        for (int what = 0; what < 4; what++) {
            Check.due("not lawful", s.brings(1, what), Check.HIDDEN);
        }
        s.put(2, 2);
        s.put(3, 0);
        Check.due("used is nothing if paid but once", s.brings(1, 1), 5 * 100 * 99);
    }

    private static void rowOrder() {
        StormParting s = new StormParting();
        Check.cover(s, "h 50;o 1;n 1");
        Check.loss(s, 3, 9);
        Check.loss(s, 10, 5);
        Check.loss(s, 20, 5);
        s.put(0, 2);
        s.put(2, 2);
        Check.due("of one hour the lowest that each has there: 1 is ahead of 2", s.brings(0, 0), 1000);
        s.put(0, 0);
        Check.due("with 0 and 1 in one", s.brings(0, 0), 1300);
        s.mend(0, 5, 3);
        s.put(0, 2);
        Check.due("0 is there too now", s.brings(0, 0), 2300);
    }

    private static void year() {
        StormParting s = new StormParting();
        Check.loss(s, 10, 100);
        Check.loss(s, 4, 90);
        Check.loss(s, 6, 95);
        Check.loss(s, 50, 10);
        s.put(3, 1);
        Check.due("least hour below", s.year(0, 91, false), 0);
        Check.due("least hour not below", s.year(0, 90, false), 1);
        Check.due("as much below", s.year(0, 96, true), 0);
        Check.due("less below", s.year(0, 95, true), 1);
        Check.due("all below", s.year(0, 101, true), 0);
        Check.due("of another of them", s.year(2, 91, false), 0);
        s.mend(2, 95, 5);
        Check.due("one less than as much", s.year(1, 100, true), 1);
        Check.due("of another happening", s.year(3, 11, false), 0);
        Check.due("e 0", s.year(3, 0, false), 1);
        Check.due("e 0 by more", s.year(3, 0, true), 1);
        Check.due("e 999", s.year(0, 999, true), 0);
        int[][] wrong = {{-1, 5}, {4, 5}, {0, -1}, {0, 1000}, {0, Integer.MAX_VALUE}, {Integer.MIN_VALUE, 5}};
        for (int[] w : wrong) {
            Check.due("year of no such ones", s.year(w[0], w[1], false), Check.NONE);
            Check.due("year of no such ones by more", s.year(w[0], w[1], true), Check.NONE);
        }
    }
}
