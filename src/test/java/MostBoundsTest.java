import java.util.Random;

/** The edges that the document names for MOST and what hangs on it: promises 14 to 18. */
public final class MostBoundsTest {
    private static final Twins.Making[] STATES = {Twins::nothing, Twins::some, Twins::full};
    private static final int[] COVERS = {0, 3, 6};
    private static final int[] LOSSES = {0, 5, 12};
    private static final int H = Check.HIDDEN;

    public static void main(String[] args) {
        mostOfNoSuchOnes();
        setsOfLosses();
        noLosses();
        noneIsLawful();
        anyLossesIfTheyMayNotOverlap();
        eightLossesIfTheyMay();
        gapIsAskedOnlyIfTheyMayNotOverlap();
        fewest();
        firstNOfTheRow();
        netOfNoSuchOnes();
        netHidden();
        netEnds();
        netAlikeTheMost();
        endsOfNoSuchOnes();
        eachHourWhereItMayHaveBeen();
        endsHourByHour();
        endsLeftOut();
        endsNotTold();
        theirHourIsAsTold();
        hangsOfNoSuchOnes();
        hangsTheLowest();
        hangsLeftOut();
        hangsNotTold();
        toldOfNoSuchOnes();
        toldCauseCanNotBeIt();
        toldHidden();
        askingChangesNothing();
        Check.end();
    }

    private static StormParting with(String text, int... hours) {
        StormParting s = new StormParting();
        Check.cover(s, text);
        for (int hour : hours) {
            Check.loss(s, 10, hour);
        }
        return s;
    }

    private static void due(String name, StormParting s, int cover, int set, int... want) {
        for (int what = 0; what < 4; what++) {
            Check.due(name + ", " + what, s.most(cover, set, what), want.length == 1 ? want[0] : want[what]);
        }
    }

    /** 'HIDDEN: none is LAWFUL, not told, no such ones.' */
    private static void mostOfNoSuchOnes() {
        for (int k = 0; k < 3; k++) {
            for (int cover : Check.outside(0, COVERS[k] - 1)) {
                for (int what = 0; what < 4; what++) {
                    int asked = what;
                    Twins.refused("most(" + cover + ", 0, " + what + ")", STATES[k], s -> s.most(cover, 0, asked), H);
                }
            }
            for (int set : Check.outside(0, (1 << LOSSES[k]) - 1)) {
                Twins.refused("most(0, " + set + ", 0)", STATES[k], s -> s.most(0, set, 0), H);
            }
            for (int what : Check.outside(0, 3)) {
                Twins.refused("most(0, 0, " + what + ")", STATES[k], s -> s.most(0, 0, what), H);
            }
        }
        for (int bit = 5; bit < 32; bit++) {
            int set = 1 << bit | 1;
            Twins.refused("most of bit " + bit, Twins::some, s -> s.most(0, set, 0), H);
        }
    }

    /** 'Of LOSSES a set (bits) may be taken alone.' */
    private static void setsOfLosses() {
        StormParting s = new StormParting();
        Check.cover(s, "h 1;b 0");
        for (int i = 0; i < 12; i++) {
            Check.loss(s, 1 << Math.min(i, 6), 80 * i);
        }
        for (int set = 0; set < 4096; set += 97) {
            StormParting t = new StormParting();
            Check.cover(t, "h 1;n 9");
            int sum = 0;
            int taken = 0;
            for (int i = 0; i < 12; i++) {
                Check.loss(t, i + 1, 80 * i);
                boolean in = (set >> i & 1) == 1;
                sum += in && taken < 9 ? i + 1 : 0;
                taken += in ? 1 : 0;
            }
            due("set " + set, t, 0, set, 100 * sum, 100 * sum, taken, taken);
        }
        Check.due("the last alone", s.most(0, 2048, 0), 6400);
        Check.due("the first alone", s.most(0, 1, 0), 100);
        StormParting u = with("h 9;a 5", 0, 4, 8);
        u.put(1, 7);
        due("the TOLD PARTING is not asked", u, 0, 5, 1500, 1000, 1, 2);
    }

    private static void noLosses() {
        StormParting s = with("h 1;r 0;c 1;g 99;a 99");
        due("of nothing, with no losses", s, 0, 0, 0, 0, 0, 0);
        Check.due("net of nothing", s.net(0, 0, 0), 0);
        Check.due("what it BRINGS", s.net(0, 0, 1), 0);
        StormParting t = with("h 1;o 1", 1, 2, 3, 4, 5, 6, 7, 8, 9, 10, 11, 12);
        due("of nothing, with twelve that may overlap", t, 0, 0, 0, 0, 0, 0);
    }

    /** 'There may be none that is LAWFUL.' */
    private static void noneIsLawful() {
        for (int gap = 0; gap <= 99; gap++) {
            for (int apart = Math.max(1, gap - 1); apart <= gap + 1; apart++) {
                StormParting s = with("h " + Math.min(99, apart) + ";g " + gap, 100, 100 + apart);
                boolean lawful = apart > gap;
                due(apart + " apart with GAP " + gap, s, 0, 3, lawful ? new int[] {2000, 2000, 2, 2} : new int[] {H});
            }
        }
        StormParting s = new StormParting();
        Check.cover(s, "h 9;c 1");
        s.loss(10, 5, 0, 0, 0, 3);
        s.loss(10, 5, 0, 0, 0, 6);
        s.loss(10, 5, 0, 0, 0, 5);
        due("at one hour, three without one cause", s, 0, 7, H);
        due("two of them", s, 0, 6, 2000, 2000, 1, 1);
        Check.cover(s, "h 9;c 1;o 1");
        due("if they may overlap", s, 1, 7, 3000, 3000, 2, 2);
    }

    private static int[] everyFour(int count) {
        int[] hours = new int[count];
        for (int i = 0; i < count; i++) {
            hours[i] = 4 * i;
        }
        return hours;
    }

    /** 'It is told for any LOSSES, if happenings may not overlap' */
    private static void anyLossesIfTheyMayNotOverlap() {
        for (int count = 1; count <= 12; count++) {
            StormParting s = with("h 99;a 9", everyFour(count));
            int all = (1 << count) - 1;
            int most = count == 12 ? 120 - 2 * 9 : Math.min(99, 10 * count - 9);
            int least = Math.min(count, 9);
            due(count + " losses", s, 0, all, 100 * most, 100 * least, count == 12 ? 2 : 1, Math.min(count, 10));
            Check.due(count + " losses, net", s.net(0, all, 1), 100 * most);
        }
        StormParting s = with("h 99;a 9;g 99;o 1;o 0", everyFour(12));
        due("twelve in one", s, 0, 4095, 9900, 9900, 1, 1);
    }

    /** 'else for eight LOSSES at most' */
    private static void eightLossesIfTheyMay() {
        for (int count = 0; count <= 12; count++) {
            StormParting s = with("h 99;o 1", everyFour(count));
            int all = (1 << count) - 1;
            int most = 100 * Math.min(10 * count, 99 * 9);
            if (count <= 8) {
                Check.due(count + " losses that may overlap", s.most(0, all, 0), most);
                Check.due(count + " losses that may overlap, net", s.net(0, all, 1), most);
            } else {
                due(count + " losses that may overlap", s, 0, all, H);
                Check.due(count + " losses that may overlap, net", s.net(0, all, 0), H);
                Check.due(count + " losses that may overlap, net brings", s.net(0, all, 1), H);
                due("eight of " + count, s, 0, 255, 8000, 8000, 1, 1);
                due("the last eight of " + count, s, 0, 255 << (count - 8), 8000, 8000, 1, 1);
                due("nine of " + count, s, 0, 511 << (count - 9), H);
            }
        }
        StormParting far = with("h 1;o 1", 0, 100, 200, 300, 400, 500, 600, 700, 800);
        due("nine that may, though none does", far, 0, 511, H);
    }

    private static void gapIsAskedOnlyIfTheyMayNotOverlap() {
        StormParting s = with("h 5;g 99;o 1", 0, 5, 5);
        due("two with a GAP that is not asked", s, 0, 7, 3000, 3000, 2, 2);
        Check.cover(s, "h 5;g 5");
        due("asked", s, 1, 7, H);
    }

    /** 'FEWEST happenings among those that bring so much' */
    private static void fewest() {
        StormParting s = with("h 9", 0, 4, 8, 100);
        due("any parting brings alike", s, 0, 7, 3000, 3000, 1, 1);
        due("two at least", s, 0, 15, 4000, 4000, 2, 2);
        StormParting t = with("h 9;a 5", 0, 4, 8);
        due("one for MOST, three for LEAST", t, 0, 7, 2500, 1500, 1, 3);
        StormParting u = with("h 9;u 10", 0, 4, 8);
        due("three for MOST, one for LEAST", u, 0, 7, 3000, 1000, 3, 1);
        StormParting v = with("h 9;a 10", 0, 4, 8);
        due("three of nothing", v, 0, 7, 2000, 0, 1, 3);
        int[][] chains = {{5, 0, 10, 15}, {0, 5, 10, 15}, {10, 15, 5, 0}, {5, 10, 0, 15}};
        for (int[] chain : chains) {
            StormParting w = new StormParting();
            Check.cover(w, "h 1;r 5;o 1");
            for (int x : chain) {
                w.loss(10, 0, 0, x, 0, 1);
            }
            due("two pairs of a chain, not its middle and its ends", w, 0, 15, 4000, 4000, 2, 2);
        }
    }

    private static void firstNOfTheRow() {
        StormParting s = new StormParting();
        Check.cover(s, "h 9;n 1");
        Check.loss(s, 1, 5);
        Check.loss(s, 20, 3);
        Check.loss(s, 5, 1);
        due("of the row the first", s, 0, 7, 2600, 500, 1, 2);
        Check.cover(s, "h 1;n 1;a 5");
        due("with something PAID", s, 1, 7, 1500, 1500, 3, 3);
    }

    /** 'HIDDEN: likewise.' */
    private static void netOfNoSuchOnes() {
        for (int k = 0; k < 3; k++) {
            for (int cover : Check.outside(0, COVERS[k] - 1)) {
                Twins.refused("net(" + cover + ", 0, 0)", STATES[k], s -> s.net(cover, 0, 0), H);
                Twins.refused("net(" + cover + ", 0, 1)", STATES[k], s -> s.net(cover, 0, 1), H);
            }
            for (int set : Check.outside(0, (1 << LOSSES[k]) - 1)) {
                Twins.refused("net(0, " + set + ", 0)", STATES[k], s -> s.net(0, set, 0), H);
                Twins.refused("net(0, " + set + ", 1)", STATES[k], s -> s.net(0, set, 1), H);
            }
            for (int what : Check.outside(0, 1)) {
                Twins.refused("net(0, 0, " + what + ")", STATES[k], s -> s.net(0, 0, what), H);
            }
        }
    }

    private static void netHidden() {
        StormParting s = with("h 5;g 5", 0, 5);
        Check.due("none is LAWFUL: net", s.net(0, 3, 0), H);
        Check.due("none is LAWFUL: what it brings", s.net(0, 3, 1), H);
        Check.due("one of them", s.net(0, 1, 0), 1000 * 99);
    }

    /** 'NET MOST likewise by NET (and what that one BRINGS ...)' */
    private static void netEnds() {
        for (int again = 0; again <= 99; again++) {
            StormParting s = with("h 9;a 5;u 30;p " + again, 0, 4);
            int netOne = 1500 * 30 - 100 * again * 15;
            int netTwo = 1000 * 30 - 100 * again * 10;
            Check.due("NET MOST with AGAIN " + again, s.net(0, 3, 0), Math.max(netOne, netTwo));
            Check.due("what it BRINGS with AGAIN " + again, s.net(0, 3, 1), netOne >= netTwo ? 1500 : 1000);
        }
        StormParting s = with("h 9;a 5;u 30;p 99;n 1", 0, 4);
        Check.due("nothing is USED with N 1", s.net(0, 3, 0), 1500 * 30);
    }

    /** 'of several NET alike the most' */
    private static void netAlikeTheMost() {
        StormParting s = with("h 9;a 5;u 30;p 30", 0, 4);
        Check.due("NET is 0 for each", s.net(0, 3, 0), 0);
        Check.due("the most", s.net(0, 3, 1), 1500);
        StormParting t = with("h 9;a 5;u 30;b 50;p 15", 0, 4);
        Check.due("NET is 0 with half borne", t.net(0, 3, 0), 0);
        Check.due("the most with half borne", t.net(0, 3, 1), 750);
        StormParting u = new StormParting();
        Check.cover(u, "h 9;u 10;n 2;p 20");
        Check.loss(u, 1, 0);
        Check.loss(u, 20, 1);
        Check.loss(u, 8, 30);
        Check.due("10 paid once and 8: 18 of it, 10 of it USED", u.net(0, 7, 0), 1800 * 10 - 2000 * 10);
        Check.due("more paid of it is more NET behind what is USED", u.net(0, 7, 1), 1800);
    }

    /** 'HIDDEN: none, not told, no such ones.' */
    private static void endsOfNoSuchOnes() {
        for (int k = 0; k < 3; k++) {
            for (int cover : Check.outside(0, COVERS[k] - 1)) {
                Twins.refused("ends(" + cover + ", 0, 0)", STATES[k], s -> s.ends(cover, 0, 0), H);
            }
            for (int loss : Check.outside(0, LOSSES[k] - 1)) {
                Twins.refused("ends(0, " + loss + ", 0)", STATES[k], s -> s.ends(0, loss, 0), H);
                Twins.refused("ends(0, " + loss + ", 1)", STATES[k], s -> s.ends(0, loss, 1), H);
            }
            for (int what : Check.outside(0, 1)) {
                Twins.refused("ends(0, 0, " + what + ")", STATES[k], s -> s.ends(0, 0, what), H);
            }
        }
    }

    /** 'of MOST with its hour at each of those where it may have been: the least and the greatest' */
    private static void eachHourWhereItMayHaveBeen() {
        for (int hour = 50; hour < 150; hour++) {
            StormParting s = new StormParting();
            Check.cover(s, "h 1;a 5");
            Check.loss(s, 10, hour);
            s.loss(10, 60, 60, 0, 0, 1);
            boolean met = hour >= 60 && hour <= 120;
            Check.due("a loss at " + hour + " and one at 60 .. 120, greatest", s.ends(0, 1, 1), met ? 1500 : 1000);
            Check.due("least", s.ends(0, 1, 0), 1000);
            Check.due("the other's hour is told", s.ends(0, 0, 1), hour == 60 ? 1500 : 1000);
            Check.due("MOST is by the hour as told", s.most(0, 3, 0), hour == 60 ? 1500 : 1000);
        }
        StormParting s = new StormParting();
        Check.cover(s, "h 1;a 5");
        s.loss(10, 900, 99, 0, 0, 1);
        Check.loss(s, 10, 999);
        Check.due("at 999 too", s.ends(0, 0, 1), 1500);
        StormParting t = new StormParting();
        Check.cover(t, "h 1;a 5");
        t.loss(10, 0, 0, 0, 0, 1);
        Check.loss(t, 10, 0);
        Check.due("told: the least", t.ends(0, 0, 0), 1500);
        Check.due("told: the greatest", t.ends(0, 0, 1), 1500);
        t.put(0, 9);
        Check.due("not by the TOLD PARTING", t.ends(0, 0, 1), 1500);
    }

    /** The same for drawn losses and covers: another object is told each hour by itself and asked for MOST. */
    private static void endsHourByHour() {
        for (int seed = 1; seed <= 3000; seed++) {
            Random random = new Random(seed);
            String text = drawnCover(random);
            int[][] drawn = drawnLosses(random);
            int moved = random.nextInt(drawn.length);
            int last = drawn[moved][1] + (seed % 300 == 0 ? 700 : 5 + random.nextInt(seed % 4 == 0 ? 70 : 15));
            int least = H;
            int greatest = H;
            for (int hour = drawn[moved][1]; hour <= last; hour++) {
                int most = made(text, drawn, moved, hour).most(0, (1 << drawn.length) - 1, 0);
                least = most != H && (least == H || most < least) ? most : least;
                greatest = Math.max(greatest, most);
            }
            StormParting s = made(text, drawn, moved, last);
            s.mend(moved, drawn[moved][1], drawn[moved][0]);
            Check.due("seed " + seed + ", '" + text + "', the least", s.ends(0, moved, 0), least);
            Check.due("seed " + seed + ", '" + text + "', the greatest", s.ends(0, moved, 1), greatest);
        }
    }

    private static String drawnCover(Random random) {
        String text = "h " + (1 + random.nextInt(10)) + ";o " + random.nextInt(2) + ";n " + (1 + random.nextInt(3));
        text += random.nextBoolean() ? ";a " + random.nextInt(30) : ";u " + (1 + random.nextInt(30));
        text += random.nextBoolean() ? ";g " + random.nextInt(6) : "";
        return text + (random.nextInt(3) == 0 ? ";c 1" : "");
    }

    /** Each as its sum, its hour and its causes. */
    private static int[][] drawnLosses(Random random) {
        int[][] drawn = new int[3 + random.nextInt(3)][];
        for (int i = 0; i < drawn.length; i++) {
            drawn[i] = new int[] {1 + random.nextInt(40), random.nextInt(16), 1 + random.nextInt(7)};
        }
        return drawn;
    }

    private static StormParting made(String text, int[][] drawn, int moved, int hour) {
        StormParting s = new StormParting();
        Check.cover(s, text);
        for (int i = 0; i < drawn.length; i++) {
            s.loss(drawn[i][0], i == moved ? hour : drawn[i][1], 0, 0, 0, drawn[i][2]);
        }
        return s;
    }

    /** '(those without a LAWFUL PARTING left out)' */
    private static void endsLeftOut() {
        StormParting s = new StormParting();
        Check.cover(s, "h 1;r 0;g 2");
        s.loss(10, 10, 0, 0, 0, 1);
        s.loss(10, 8, 2, 1, 0, 1);
        Check.due("8, 9, 10 are all too near", s.ends(0, 1, 0), H);
        Check.due("8, 9, 10 are all too near, greatest", s.ends(0, 1, 1), H);
        s.mend(1, 7, 10);
        Check.due("7 is not", s.ends(0, 1, 0), 2000);
        s.mend(1, 11, 10);
        Check.due("11 is", s.ends(0, 1, 0), H);
        s.mend(1, 13, 10);
        s.mend(1, 11, 10);
        Check.due("11 .. 13: the last is not", s.ends(0, 1, 0), 2000);
        Check.due("MOST at 11", s.most(0, 3, 0), H);
    }

    private static void endsNotTold() {
        StormParting s = with("h 9;o 1", everyFour(8));
        Check.due("eight", s.ends(0, 7, 0), 8000);
        Check.loss(s, 10, 1);
        Check.due("nine, the least", s.ends(0, 7, 0), H);
        Check.due("nine, the greatest", s.ends(0, 8, 1), H);
        Check.cover(s, "h 99");
        Check.due("nine that may not overlap", s.ends(1, 8, 1), 9000);
    }

    /** 'Their hour is as told, where nothing else is said.': hours later change nothing but ENDS. */
    private static void theirHourIsAsTold() {
        StormParting told = new StormParting();
        StormParting later = new StormParting();
        for (StormParting s : new StormParting[] {told, later}) {
            Check.cover(s, "h 9;a 5;n 2");
            Check.cover(s, "h 20;g 3;u 15;p 9");
            int[] hours = {10, 14, 30, 31, 60};
            for (int i = 0; i < hours.length; i++) {
                s.loss(10 + i, hours[i], s == later ? 99 - i : 0, 0, 0, 3);
                s.put(i, i / 2);
            }
            s.storm(15, 2);
            s.storm(22, 3);
        }
        for (int c = 0; c < 2; c++) {
            for (int set = 0; set < 32; set++) {
                for (int what = 0; what < 4; what++) {
                    Check.due("most, " + c + ", " + set, later.most(c, set, what), told.most(c, set, what));
                }
                Check.due("may, " + c + ", " + set, later.may(c, set), told.may(c, set));
                Check.due("net, " + c + ", " + set, later.net(c, set, 0), told.net(c, set, 0));
            }
            Check.due("judge, " + c, later.judge(c), told.judge(c));
            Check.due("brings, " + c, later.brings(c, 0), told.brings(c, 0));
            Check.due("hangs, " + c, later.hangs(c), told.hangs(c));
            Check.due("told, " + c, later.told(c, 1, 1), told.told(c, 1, 1));
            Check.due("nearest, " + c, later.nearest(c, 0), told.nearest(c, 0));
            Check.due("mean, " + c, later.mean(c, 0), told.mean(c, 0));
            Check.due("game, " + c, later.game(c, 1 - c, 1), told.game(c, 1 - c, 1));
            Check.due("layers, " + c, later.layers(3, c == 0), told.layers(3, c == 0));
        }
        Check.due("ENDS of 0 as told", told.ends(0, 0, 0), told.ends(0, 0, 1));
        Check.due("ENDS of 0 later", later.ends(0, 0, 0) < later.ends(0, 0, 1), true);
    }

    /** 'NONE: there is none, not told (for all LOSSES but one), no such COVER.' */
    private static void hangsOfNoSuchOnes() {
        for (int k = 0; k < 3; k++) {
            for (int cover : Check.outside(0, COVERS[k] - 1)) {
                Twins.refused("hangs(" + cover + ")", STATES[k], s -> s.hangs(cover));
            }
        }
        Check.due("no losses", with("h 1").hangs(0), Check.NONE);
        Check.due("one loss", with("h 1", 5).hangs(0), 0);
    }

    /** 'the LOSS without which MOST is least (of several the lowest)' */
    private static void hangsTheLowest() {
        for (int i = 0; i < 12; i++) {
            for (int j = i; j < 12; j++) {
                StormParting s = new StormParting();
                Check.cover(s, "h 1");
                for (int k = 0; k < 12; k++) {
                    Check.loss(s, k == i || k == j ? 21 : 20, k < 9 ? 9 * k : 72);
                }
                Check.due("most hangs on " + i + " and " + j, s.hangs(0), i);
            }
        }
        Check.due("all alike", with("h 1", everyFour(9)).hangs(0), 0);
        Check.due("nothing is paid", with("h 1;a 99", everyFour(9)).hangs(0), 0);
    }

    /** '(... those without which none is LAWFUL are left out)' */
    private static void hangsLeftOut() {
        StormParting s = with("h 5;g 5", 0, 5, 100);
        Check.due("without 2 none is lawful, without 0 one is", s.hangs(0), 0);
        s.mend(1, 5, 11);
        Check.due("without 1 less is left", s.hangs(0), 1);
        s.mend(2, 10, 10);
        Check.due("0, 5, 10: without 1 they are ten apart", s.hangs(0), 1);
        StormParting t = with("h 5;g 5", 0, 5, 100, 105);
        Check.due("without any none is lawful", t.hangs(0), Check.NONE);
    }

    private static void hangsNotTold() {
        StormParting s = with("h 9;o 1", everyFour(9));
        Check.due("nine: eight are told", s.hangs(0), 0);
        Check.loss(s, 10, 1);
        Check.due("ten: nine are not", s.hangs(0), Check.NONE);
        Check.cover(s, "h 9");
        Check.due("ten that may not overlap", s.hangs(1), 0);
    }

    /** 'HIDDEN: that CAUSE can not be it, none is LAWFUL, not told, no such ones.' */
    private static void toldOfNoSuchOnes() {
        for (int k = 0; k < 3; k++) {
            for (int cover : Check.outside(0, COVERS[k] - 1)) {
                Twins.refused("told(" + cover + ", 0, 0)", STATES[k], s -> s.told(cover, 0, 0), H);
            }
            for (int loss : Check.outside(0, LOSSES[k] - 1)) {
                Twins.refused("told(0, " + loss + ", 0)", STATES[k], s -> s.told(0, loss, 0), H);
            }
            for (int cause : Check.outside(0, 5)) {
                Twins.refused("told(0, 0, " + cause + ")", STATES[k], s -> s.told(0, 0, cause), H);
                Twins.refused("told(0, 0, " + cause + ") of a loss that may have any", s -> {
                    Check.cover(s, "h 1");
                    s.loss(1, 0, 0, 0, 0, 63);
                }, s -> s.told(0, 0, cause), H);
            }
        }
    }

    private static void toldCauseCanNotBeIt() {
        for (int can = 0; can < 6; can++) {
            for (int other = 0; other < 6; other++) {
                StormParting s = new StormParting();
                Check.cover(s, "h 9;c 1;a 5");
                s.loss(10, 0, 0, 0, 0, 1 << can);
                s.loss(10, 1, 0, 0, 0, 63);
                Check.due("told as " + other + " can be " + can, s.told(0, 0, other), can == other ? 1500 : H);
                Check.due("the other told as " + other, s.told(0, 1, other), can == other ? 1500 : 1000);
                Check.due("MOST as it was", s.most(0, 3, 0), 1500);
            }
        }
    }

    private static void toldHidden() {
        StormParting s = new StormParting();
        Check.cover(s, "h 9;c 1");
        Check.cover(s, "h 9;c 1;o 1");
        s.loss(10, 0, 0, 0, 0, 3);
        s.loss(10, 0, 0, 0, 0, 2);
        Check.due("none is LAWFUL", s.told(0, 0, 0), H);
        Check.due("one is", s.told(0, 0, 1), 2000);
        for (int i = 2; i < 8; i++) {
            s.loss(10, 0, 0, 0, 0, 2);
        }
        Check.due("eight that may overlap", s.told(1, 0, 0), 8000);
        s.loss(10, 0, 0, 0, 0, 2);
        Check.due("nine that may overlap", s.told(1, 0, 0), H);
        Check.due("nine that may not", s.told(0, 0, 1), 9000);
    }

    private static void askingChangesNothing() {
        for (int k = 1; k < 3; k++) {
            for (int cover = 0; cover < COVERS[k]; cover++) {
                for (int loss = 0; loss < LOSSES[k]; loss++) {
                    int c = cover;
                    int i = loss;
                    Twins.asks("ends(" + c + ", " + i + ")", STATES[k], s -> s.ends(c, i, 0) + s.ends(c, i, 1));
                    Twins.asks("told(" + c + ", " + i + ")", STATES[k],
                        s -> s.told(c, i, 0) + s.told(c, i, 1) + s.told(c, i, 2) + s.told(c, i, 5));
                    Twins.asks("most(" + c + ", " + i + ")", STATES[k], s -> s.most(c, 1 << i, 0) + s.net(c, 1 << i, 0));
                }
            }
        }
    }
}
