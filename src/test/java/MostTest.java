/** Promises 14 to 18: most, net, ends, hangs, told. */
public final class MostTest {
    public static void main(String[] args) {
        most();
        notOverlapping();
        overlapping();
        fewest();
        howOften();
        net();
        wrongOnes();
        ends();
        hangs();
        told();
        Check.end();
    }

    private static void dueMost(StormParting s, int cover, int set, int[] want) {
        for (int what = 0; what < 4; what++) {
            Check.due("most(" + cover + ", " + set + ", " + what + ")", s.most(cover, set, what), want[what]);
        }
    }

    private static void most() {
        StormParting s = new StormParting();
        Check.cover(s, "h 10;a 5;b 20");
        Check.loss(s, 4, 0);
        Check.loss(s, 4, 6);
        Check.loss(s, 4, 12);
        dueMost(s, 0, 7, new int[] {240, 0, 2, 3});
        dueMost(s, 0, 1, new int[] {0, 0, 1, 1});
        dueMost(s, 0, 5, new int[] {0, 0, 2, 2});
        dueMost(s, 0, 0, new int[] {0, 0, 0, 0});
    }

    private static void notOverlapping() {
        StormParting s = new StormParting();
        Check.cover(s, "h 5");
        Check.cover(s, "h 5;g 3");
        for (int i = 0; i < 12; i++) {
            Check.loss(s, 1, 4 * i);
        }
        dueMost(s, 0, 4095, new int[] {1200, 900, 6, 11});
        dueMost(s, 1, 4095, new int[] {1200, 900, 6, 11});
        Check.cover(s, "h 5;g 4");
        dueMost(s, 2, 4095, new int[] {Check.HIDDEN, Check.HIDDEN, Check.HIDDEN, Check.HIDDEN});
        dueMost(s, 2, 3, new int[] {200, 200, 1, 1});
        dueMost(s, 2, 5, new int[] {200, 200, 2, 2});
        Check.cover(s, "h 4;g 4");
        dueMost(s, 3, 3, new int[] {Check.HIDDEN, Check.HIDDEN, Check.HIDDEN, Check.HIDDEN});
        StormParting t = new StormParting();
        Check.cover(t, "h 5;r 3");
        t.loss(1, 5, 0, 0, 0, 1);
        t.loss(1, 5, 0, 0, 4, 1);
        Check.due("at one hour they are one, and may not be", t.most(0, 3, 0), Check.HIDDEN);
        Check.due("net of none", t.net(0, 3, 0), Check.HIDDEN);
        Check.cover(t, "h 5;r 3;o 1");
        dueMost(t, 1, 3, new int[] {200, 200, 2, 2});
    }

    private static void overlapping() {
        StormParting s = new StormParting();
        Check.cover(s, "h 99;o 1;g 99;a 9");
        for (int i = 0; i < 8; i++) {
            Check.loss(s, i + 1, i);
        }
        dueMost(s, 0, 255, new int[] {2700, 0, 1, 4});
        Check.loss(s, 1, 8);
        dueMost(s, 0, 511, new int[] {Check.HIDDEN, Check.HIDDEN, Check.HIDDEN, Check.HIDDEN});
        Check.due("net not told for nine", s.net(0, 511, 0), Check.HIDDEN);
        Check.due("any eight are well", s.most(0, 511 ^ 16, 0), 2300);
        Check.cover(s, "h 99;a 9");
        Check.due("nine that may not overlap", s.most(1, 511, 0), 2800);
        StormParting t = new StormParting();
        Check.cover(t, "h 7;o 1;a 6");
        Check.loss(t, 4, 0);
        Check.loss(t, 4, 3);
        Check.loss(t, 4, 4);
        Check.loss(t, 4, 10);
        dueMost(t, 0, 15, new int[] {600, 0, 2, 4});
        Check.cover(t, "h 8;o 1;a 6");
        Check.due("3 and 10 are one now, 0 and 4 too", t.most(1, 15, 0), 600);
    }

    private static void fewest() {
        StormParting s = new StormParting();
        Check.cover(s, "h 50;o 1;u 5");
        Check.loss(s, 2, 0);
        Check.loss(s, 3, 1);
        Check.loss(s, 5, 2);
        Check.loss(s, 9, 3);
        dueMost(s, 0, 15, new int[] {1500, 500, 3, 1});
        dueMost(s, 0, 7, new int[] {1000, 500, 2, 1});
        StormParting t = new StormParting();
        Check.cover(t, "h 50;o 1;r 5");
        int[] chain = {5, 0, 10, 15};
        for (int x : chain) {
            t.loss(1, 0, 0, x, 0, 1);
        }
        dueMost(t, 0, 15, new int[] {400, 400, 2, 2});
    }

    private static void howOften() {
        StormParting s = new StormParting();
        Check.cover(s, "h 50;o 1;n 1");
        Check.loss(s, 10, 9);
        Check.loss(s, 3, 0);
        Check.loss(s, 4, 0);
        dueMost(s, 0, 7, new int[] {1700, 300, 1, 2});
        Check.cover(s, "h 50;o 1;n 1;r 0");
        s.loss(20, 0, 0, 1, 1, 1);
        dueMost(s, 1, 15, new int[] {1700, 300, 2, 3});
        Check.cover(s, "h 1;n 2");
        dueMost(s, 2, 7, new int[] {1700, 1700, 2, 2});
        Check.cover(s, "h 1;a 7;n 1");
        dueMost(s, 3, 7, new int[] {300, 300, 2, 2});
        Check.loss(s, 50, 30);
        dueMost(s, 2, 16 + 7, new int[] {1700, 1700, 3, 3});
    }

    private static void net() {
        StormParting s = new StormParting();
        Check.cover(s, "h 50;u 10;n 2;p 99");
        Check.loss(s, 1, 0);
        Check.loss(s, 20, 1);
        Check.due("paid is 10 or 11", s.most(0, 3, 0) - s.most(0, 3, 1), 100);
        Check.due("net most", s.net(0, 3, 0), 1100 * 10 - 99000);
        Check.due("by what brings most", s.net(0, 3, 1), 1100);
        Check.cover(s, "h 50;a 2;u 30;n 9;p 99");
        Check.due("less is more: net", s.net(1, 3, 0), 1800 * 30 - 100 * 99 * 18);
        Check.due("less is more: brings", s.net(1, 3, 1), 1800);
        Check.due("most brings more", s.most(1, 3, 0), 1900);
        Check.cover(s, "h 50;a 2;u 50;n 9;b 50;p 25");
        Check.due("all alike: net", s.net(2, 3, 0), 0);
        Check.due("all alike: the most", s.net(2, 3, 1), 950);
        Check.due("nothing", s.net(2, 0, 0), 0);
        Check.due("nothing brings", s.net(2, 0, 1), 0);
    }

    private static void wrongOnes() {
        StormParting s = new StormParting();
        Check.cover(s, "h 50");
        Check.loss(s, 1, 0);
        int[][] wrong = {{-1, 1, 0}, {1, 1, 0}, {0, 2, 0}, {0, 3, 0}, {0, -1, 0}, {0, Integer.MIN_VALUE, 0}, {0, 1, -1},
            {0, 1, 4}, {Integer.MAX_VALUE, 1, 0}, {0, 1, Integer.MIN_VALUE}};
        for (int[] w : wrong) {
            Check.due("most of no such ones", s.most(w[0], w[1], w[2]), Check.HIDDEN);
            Check.due("net of no such ones", s.net(w[0], w[1], w[2]), Check.HIDDEN);
        }
        Check.due("net has two whats", s.net(0, 1, 2), Check.HIDDEN);
        int[][] others = {{-1, 0, 0}, {1, 0, 0}, {0, -1, 0}, {0, 1, 0}, {0, 12, 0}, {0, 0, -1}, {0, 0, 2},
            {0, Integer.MAX_VALUE, 0}, {0, 0, Integer.MAX_VALUE}};
        for (int[] w : others) {
            Check.due("ends of no such ones", s.ends(w[0], w[1], w[2]), Check.HIDDEN);
            Check.due("told of no such ones", s.told(w[0], w[1], w[2]), Check.HIDDEN);
        }
        Check.due("hangs of no such cover", s.hangs(1), Check.NONE);
        Check.due("hangs of no such cover below", s.hangs(-1), Check.NONE);
        Check.due("told 6", s.told(0, 0, 6), Check.HIDDEN);
        Check.due("told 32", s.told(0, 0, 32), Check.HIDDEN);
    }

    private static void ends() {
        StormParting s = new StormParting();
        Check.cover(s, "h 3;a 5;r 0");
        s.loss(10, 0, 0, 0, 0, 1);
        s.loss(10, 4, 0, 0, 0, 1);
        s.loss(10, 0, 9, 1, 0, 1);
        Check.due("at 0 none is lawful", s.most(0, 7, 0), Check.HIDDEN);
        Check.due("ends least", s.ends(0, 2, 0), 1500);
        Check.due("ends greatest", s.ends(0, 2, 1), 1500);
        Check.due("the hour is as told again", s.most(0, 7, 0), Check.HIDDEN);
        Check.due("another's hour is told: none", s.ends(0, 0, 0), Check.HIDDEN);
        Check.cover(s, "h 3;a 5");
        Check.due("with another: least", s.ends(1, 2, 0), 1500);
        Check.due("with another: greatest", s.ends(1, 2, 1), 2000);
        s.mend(2, 3, 10);
        Check.due("from 3 on", s.ends(1, 2, 0), 1500);
        s.mend(2, 2, 10);
        Check.due("at 2 with either", s.ends(1, 2, 1), 2000);
        Check.cover(s, "h 3;o 1");
        for (int i = 3; i < 9; i++) {
            Check.loss(s, 1, i);
        }
        Check.due("nine that may overlap", s.ends(2, 0, 1), Check.HIDDEN);
    }

    private static void hangs() {
        StormParting s = new StormParting();
        Check.cover(s, "h 5;o 1");
        Check.due("no losses", s.hangs(0), Check.NONE);
        Check.loss(s, 5, 0);
        Check.due("one loss", s.hangs(0), 0);
        Check.loss(s, 7, 10);
        Check.loss(s, 7, 20);
        Check.due("the lowest of several", s.hangs(0), 1);
        for (int i = 3; i < 9; i++) {
            Check.loss(s, 9, 30 + i);
        }
        Check.due("nine losses: eight without one", s.hangs(0), 3);
        Check.loss(s, 50, 100);
        Check.due("ten are not told", s.hangs(0), Check.NONE);
        StormParting t = new StormParting();
        Check.cover(t, "h 5;r 0");
        t.loss(1, 0, 0, 0, 0, 1);
        t.loss(50, 0, 0, 1, 0, 1);
        t.loss(60, 50, 0, 0, 0, 1);
        Check.due("those without which none is lawful are left out", t.hangs(0), 1);
        t.loss(1, 0, 0, 2, 0, 1);
        Check.due("three at one hour: none", t.hangs(0), Check.NONE);
    }

    private static void told() {
        StormParting s = new StormParting();
        Check.cover(s, "h 5;a 4;c 1");
        Check.cover(s, "h 5;a 4");
        s.loss(5, 0, 0, 0, 0, 3);
        s.loss(5, 1, 0, 0, 0, 33);
        Check.due("as they may be", s.most(0, 3, 0), 600);
        Check.due("told as 0", s.told(0, 0, 0), 600);
        Check.due("told as 1", s.told(0, 0, 1), 200);
        Check.due("told as 5", s.told(0, 1, 5), 200);
        Check.due("can not be it", s.told(0, 0, 5), Check.HIDDEN);
        Check.due("not asked", s.told(1, 0, 1), 600);
        Check.due("not asked, can not be it", s.told(1, 0, 2), Check.HIDDEN);
        Check.due("they are as they were", s.most(0, 3, 0), 600);
        s.mend(1, 0, 5);
        Check.due("none is lawful", s.told(0, 0, 1), Check.HIDDEN);
        Check.cover(s, "h 5;o 1");
        for (int i = 2; i < 9; i++) {
            Check.loss(s, 1, i);
        }
        Check.due("nine that may overlap", s.told(2, 0, 0), Check.HIDDEN);
    }
}
