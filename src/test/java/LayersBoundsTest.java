/** The edges that the document names for LAYERS, WORD, STORMS, MEAN and GAME: promises 19 to 23. */
public final class LayersBoundsTest {
    private static final Twins.Making[] STATES = {Twins::nothing, Twins::some, Twins::full};
    private static final int[] COVERS = {0, 3, 6};
    private static final int[] LOSSES = {0, 5, 12};
    private static final int H = Check.HIDDEN;

    public static void main(String[] args) {
        layersOfNoSuchOnes();
        anyCovers();
        layersWithNoLosses();
        ownNeedEachTold();
        oneLawfulForAll();
        gapOfThoseThatMayNotOverlap();
        oneIsToldIfOneMayNotOverlap();
        eachPaysByItsOwnWords();
        nearestOfNoSuchOnes();
        nearestWithNoLosses();
        nearestFrom1To99();
        ofSeveralTheLeast();
        somethingBetween();
        nearestNotTold();
        allElseAsItIs();
        stormOfNoSuchOnes();
        stormOfNothingIsWell();
        stormWeights();
        twelveStorms();
        meanOfNoSuchOnes();
        meanWithNoStorms();
        zeroIfThereIsNone();
        meanNotTold();
        stormsAreByNumbers();
        theGreatestMean();
        gameOfNoSuchOnes();
        gameWithoutLosses();
        gameOfOneLoss();
        ofBothAlikeTheFirst();
        struckTheLowest();
        gameHiddenIfOneIsNot();
        gameNotTold();
        askingChangesNothing();
        Check.end();
    }

    private static StormParting with(String[] texts, int... hours) {
        StormParting s = new StormParting();
        for (String text : texts) {
            Check.cover(s, text);
        }
        for (int hour : hours) {
            Check.loss(s, 10, hour);
        }
        return s;
    }

    private static String[] covers(String... texts) {
        return texts;
    }

    private static int[] everyFour(int count) {
        int[] hours = new int[count];
        for (int i = 0; i < count; i++) {
            hours[i] = 4 * i;
        }
        return hours;
    }

    /** 'LAYERS (bits of COVERS, not 0) ... HIDDEN: none, not told, no such ones.' */
    private static void layersOfNoSuchOnes() {
        for (int k = 0; k < 3; k++) {
            for (int set : Check.outside(1, (1 << COVERS[k]) - 1)) {
                Twins.refused("layers(" + set + ", true)", STATES[k], s -> s.layers(set, true), H);
                Twins.refused("layers(" + set + ", false)", STATES[k], s -> s.layers(set, false), H);
            }
        }
        for (int bit = 3; bit < 32; bit++) {
            int set = 1 << bit | 1;
            Twins.refused("layers of bit " + bit, Twins::some, s -> s.layers(set, true), H);
            Twins.refused("own layers of bit " + bit, Twins::some, s -> s.layers(set, false), H);
        }
    }

    private static void anyCovers() {
        StormParting s = with(covers("h 1;b 99", "h 1;b 98", "h 1;b 96", "h 1;b 92", "h 1;b 84", "h 1;b 68"), 3, 500);
        for (int set = 1; set < 64; set++) {
            Check.due("own, covers " + set, s.layers(set, false), 20 * set);
            Check.due("one, covers " + set, s.layers(set, true), 20 * set);
        }
    }

    private static void layersWithNoLosses() {
        StormParting s = with(covers("h 1", "h 1;o 1;a 5"));
        for (int set = 1; set < 4; set++) {
            Check.due("own, no losses", s.layers(set, false), 0);
            Check.due("one, no losses", s.layers(set, true), 0);
        }
    }

    /** 'each by its own words: the sum of their MOST' */
    private static void ownNeedEachTold() {
        StormParting s = with(covers("h 9", "h 4;g 4", "h 9;a 5"), 0, 4);
        Check.due("both lawful", s.layers(5, false), 2000 + 1500);
        Check.due("one has none", s.layers(3, false), H);
        Check.due("the other has none", s.layers(6, false), H);
        Check.due("alone it has none", s.layers(2, false), H);
    }

    /** 'by ONE PARTING that is LAWFUL for all of them: the most that they BRING together' */
    private static void oneLawfulForAll() {
        StormParting s = with(covers("h 9;a 5", "h 4;a 5", "h 99;g 4", "h 5;u 10"), 0, 4);
        Check.due("one in one, the other in two", s.layers(3, false), 1500 + 1000);
        Check.due("in two by both", s.layers(3, true), 1000 + 1000);
        Check.due("in one by both", s.layers(5, true), 1500 + 2000);
        Check.due("not in one, not in two", s.layers(6, true), H);
        Check.due("each by its own", s.layers(6, false), 1000 + 2000);
        Check.due("15 and 10 in one, 10 and 20 in two", s.layers(9, true), 1000 + 2000);
        StormParting t = new StormParting();
        Check.cover(t, "h 9;r 1;o 1;a 5");
        Check.cover(t, "h 9;c 1;o 1;a 5");
        Check.cover(t, "h 9;r 9;o 1;a 5");
        t.loss(10, 0, 0, 0, 0, 1);
        t.loss(10, 1, 0, 0, 0, 2);
        t.loss(10, 2, 0, 9, 0, 2);
        Check.due("own", t.layers(3, false), 2000 + 2000);
        Check.due("0 and 1 by place, 1 and 2 by cause: none together", t.layers(3, true), 1500 + 1500);
        Check.due("the fewer MILES count", t.layers(5, true), 2000 + 2000);
        Check.due("the fewer MILES count, the other way", t.layers(6, true), 2000 + 2000);
        StormParting u = new StormParting();
        Check.cover(u, "h 9;a 5");
        Check.cover(u, "h 9;r 9;a 5");
        Check.cover(u, "h 9;r 4;a 5");
        u.loss(10, 0, 0, 0, 0, 1);
        u.loss(10, 1, 0, 5, 0, 1);
        Check.due("MILES not asked, then 9", u.layers(3, true), 1500 + 1500);
        Check.due("MILES not asked, then 4", u.layers(5, true), 1000 + 1000);
        Check.due("9 MILES, then 4", u.layers(6, true), 1000 + 1000);
        Check.due("all three", u.layers(7, true), 1000 + 1000 + 1000);
    }

    private static void gapOfThoseThatMayNotOverlap() {
        StormParting s = with(covers("h 3;o 1;g 99", "h 9", "h 9;g 3", "h 9;g 4"), 0, 4);
        Check.due("a GAP that is not asked", s.layers(3, true), 4000);
        Check.due("a GAP of 3", s.layers(5, true), 4000);
        Check.due("a GAP of 4", s.layers(9, true), H);
        Check.due("the greatest GAP counts", s.layers(15, true), H);
        Check.due("GAPS of 0 and 3", s.layers(7, true), 6000);
        StormParting t = with(covers("h 9;g 4;a 5", "h 3;o 1;g 99"), 0, 4);
        Check.due("the first has the GAP", t.layers(3, true), H);
        StormParting u = with(covers("h 1;o 1", "h 1", "h 1;o 1;g 1"), 0, 1);
        Check.due("no GAP with one that may overlap", u.layers(3, true), 4000);
        Check.due("no GAP with one that may overlap behind it", u.layers(6, true), 4000);
    }

    /** '(told as in 3, if by one of them happenings may not overlap, or for eight LOSSES)' */
    private static void oneIsToldIfOneMayNotOverlap() {
        for (int count = 7; count <= 12; count++) {
            StormParting s = with(covers("h 99;o 1", "h 99;o 1;a 5", "h 99"), everyFour(count));
            int all = 1000 * Math.min(count, 12);
            Check.due(count + ": both may overlap", s.layers(3, true), count <= 8 ? bothOf(count) : H);
            Check.due(count + ": both may overlap, own", s.layers(3, false), count <= 8 ? bothOf(count) : H);
            Check.due(count + ": one alone", s.layers(1, true), count <= 8 ? all : H);
            Check.due(count + ": one may not", s.layers(5, true), 2 * all);
            Check.due(count + ": one may not, own", s.layers(5, false), count <= 8 ? 2 * all : H);
            Check.due(count + ": of three one may not", s.layers(7, true), ofThree(count));
            Check.due(count + ": that one", s.layers(4, true), all);
            Check.due(count + ": that one, own", s.layers(4, false), all);
        }
    }

    /** In one: 99 at most by each; in two: all that there is, less ABOVE twice. Seven and more never gain by three. */
    private static int ofThree(int count) {
        int inOne = 2 * Math.min(99, 10 * count) + Math.min(99, 10 * count - 5);
        int inTwo = 3 * 10 * count - 2 * 5;
        return 100 * Math.max(inOne, inTwo);
    }

    private static int bothOf(int count) {
        return 1000 * count + 1000 * count - 500;
    }

    private static void eachPaysByItsOwnWords() {
        StormParting s = with(covers("h 99;n 1", "h 99;n 2;b 50", "h 99;a 15;n 1"), 0, 4, 8, 12);
        Check.due("all in one", s.layers(7, true), 4000 + 2000 + 2500);
        Check.due("by their own", s.layers(7, false), 4000 + 2000 + 2500);
        StormParting t = with(covers("h 1;n 1", "h 1;n 2;b 50", "h 1;a 10;n 1"), 0, 4, 8, 12);
        t.mend(3, 12, 17);
        Check.due("10; 10 and 10; 7", t.layers(7, true), 1000 + 1000 + 700);
    }

    /** 'HIDDEN: none, not told, no such ones.' */
    private static void nearestOfNoSuchOnes() {
        for (int k = 0; k < 3; k++) {
            for (int cover : Check.outside(0, COVERS[k] - 1)) {
                Twins.refused("nearest(" + cover + ", 0)", STATES[k], s -> s.nearest(cover, 0), H);
                Twins.refused("nearest(" + cover + ", 1)", STATES[k], s -> s.nearest(cover, 1), H);
            }
            for (int what : Check.outside(0, 1)) {
                Twins.refused("nearest(0, " + what + ")", STATES[k], s -> s.nearest(0, what), H);
            }
        }
    }

    /** Any HOURS bring nothing and nothing then: of several the least, which is 1. */
    private static void nearestWithNoLosses() {
        StormParting s = with(covers("h 50", "h 9;o 1;g 99;a 5"));
        for (int cover = 0; cover < 2; cover++) {
            Check.due("no losses, HOURS", s.nearest(cover, 0), 1);
            Check.due("no losses, MOST less LEAST", s.nearest(cover, 1), 0);
        }
        Check.loss(s, 10, 999);
        Check.due("one loss, HOURS", s.nearest(0, 0), 1);
        Check.due("one loss, MOST less LEAST", s.nearest(0, 1), 0);
    }

    /** 'of HOURS 1 .. 99 those with which MOST less LEAST of a COVER is least, where both are told' */
    private static void nearestFrom1To99() {
        for (int apart = 0; apart <= 100; apart++) {
            StormParting s = with(covers("h 50;g 99;a 5"), 100, 100 + apart);
            int want = apart == 100 ? 1 : apart == 99 ? H : apart + 1;
            Check.due("HOURS, " + apart + " apart", s.nearest(0, 0), want);
            Check.due("MOST less LEAST, " + apart + " apart", s.nearest(0, 1), want == H ? H : 0);
        }
        for (int apart = 0; apart < 99; apart++) {
            StormParting s = with(covers("h 50;g 99;a 5"), 100 + apart, 100);
            Check.due("HOURS, the first is " + apart + " later", s.nearest(0, 0), apart + 1);
        }
        StormParting s = with(covers("h 1;g 5;a 5"), 0, 5, 11, 17);
        Check.due("lawful from 6 on: 0, 5 in one", s.nearest(0, 0), 6);
        Check.due("with 6 there is one alone", s.nearest(0, 1), 0);
        StormParting t = with(covers("h 1;g 5;a 5"), 0, 5, 11, 16);
        Check.due("two pairs", t.nearest(0, 0), 6);
        StormParting u = new StormParting();
        Check.cover(u, "h 40;g 9;r 5;a 5");
        u.loss(10, 0, 0, 0, 0, 1);
        u.loss(10, 9, 0, 6, 0, 1);
        Check.due("none at any HOURS", u.nearest(0, 0), H);
        Check.due("none between", u.nearest(0, 1), H);
    }

    /** 'of several the least', and not always that with which there is nothing between */
    private static void ofSeveralTheLeast() {
        StormParting s = with(covers("h 50"), 0, 30);
        Check.due("all alike", s.nearest(0, 0), 1);
        StormParting t = with(covers("h 50;g 3;a 5"), 0, 3, 20, 40);
        Check.due("from 4 to 17 one alone is lawful", t.nearest(0, 0), 4);
        Check.due("nothing between", t.nearest(0, 1), 0);
        StormParting u = new StormParting();
        Check.cover(u, "h 1;g 10;a 5;n 1");
        int[] hours = {0, 11, 21, 32};
        int[] sums = {40, 10, 10, 40};
        for (int i = 0; i < 4; i++) {
            Check.loss(u, sums[i], hours[i]);
        }
        Check.due("with 11: 0 alone, 11 and 21, 32 alone", u.nearest(0, 0), 11);
        Check.due("one parting", u.nearest(0, 1), 0);
    }

    /** 'MOST less LEAST then (1)', where no HOURS bring both alike */
    private static void somethingBetween() {
        StormParting s = with(covers("h 50;o 1;a 5", "h 50;o 1;u 10", "h 50;o 1;a 5;b 40"), 7, 7);
        Check.due("at one hour: 15 in one, 10 in two", s.nearest(0, 0), 1);
        Check.due("15 less 10", s.nearest(0, 1), 500);
        Check.due("at one hour: 10 in one, 20 in two", s.nearest(1, 0), 1);
        Check.due("20 less 10", s.nearest(1, 1), 1000);
        Check.due("15 less 10 with 40 borne", s.nearest(2, 1), 300);
        StormParting t = with(covers("h 50;g 5;a 5", "h 99;g 5;a 5;u 12"), 0, 5, 10, 100, 106);
        Check.due("0, 5, 10 need 11; 100 and 106 may be one then", t.nearest(0, 0), 11);
        Check.due("25 and 15 less 25 and 5 and 5", t.nearest(0, 1), 500);
        Check.due("up to 12: 11 too", t.nearest(1, 0), 11);
        Check.due("12 and 12 less 12 and 5 and 5", t.nearest(1, 1), 200);
        t.mend(4, 110, 10);
        Check.due("100 and 110 may be one with 11", t.nearest(0, 1), 500);
        t.mend(4, 111, 10);
        Check.due("100 and 111 may not", t.nearest(0, 1), 0);
        Check.due("HOURS are 11 still", t.nearest(0, 0), 11);
    }

    private static void nearestNotTold() {
        StormParting s = with(covers("h 9;o 1", "h 9"), everyFour(8));
        Check.due("eight that may overlap", s.nearest(0, 0), 1);
        Check.loss(s, 10, 50);
        Check.due("nine that may overlap", s.nearest(0, 0), H);
        Check.due("nine that may overlap, between", s.nearest(0, 1), H);
        Check.due("nine that may not", s.nearest(1, 0), 1);
    }

    /** '(all else as it is)' */
    private static void allElseAsItIs() {
        StormParting s = new StormParting();
        Check.cover(s, "h 5;c 1;a 5;u 20;n 2;b 50;g 1");
        s.loss(10, 0, 0, 0, 0, 1);
        s.loss(30, 1, 0, 0, 0, 3);
        s.loss(10, 3, 0, 0, 0, 2);
        Check.due("with 1 none is lawful; with 2: 0 and 1, then 2", s.nearest(0, 0), 2);
        Check.due("nothing between", s.nearest(0, 1), 0);
        Check.due("HOURS stay", Twins.word(s, 0, 0), 5);
        Twins.asks("nearest", Twins::some, t -> t.nearest(0, 0) + t.nearest(1, 1) + t.nearest(2, 0));
        StormParting least = new StormParting();
        Check.cover(least, "h 1;g 9;a 5");
        int[] hours = {0, 9, 20, 29, 39};
        for (int hour : hours) {
            Check.loss(least, 10, hour);
        }
        int between = least.nearest(0, 1);
        Check.due("with 10 the pairs are alone", between, 0);
    }

    /** 'NONE: no such LOSSES (bits; 0 is well), weight, there are twelve.' */
    private static void stormOfNoSuchOnes() {
        for (int k = 0; k < 3; k++) {
            for (int set : Check.outside(0, (1 << LOSSES[k]) - 1)) {
                Twins.refused("storm(" + set + ", 1)", STATES[k], s -> s.storm(set, 1));
            }
            for (int weight : Check.outside(1, 99)) {
                Twins.refused("storm(0, " + weight + ")", STATES[k], s -> s.storm(0, weight));
            }
        }
        for (int bit = 5; bit < 32; bit++) {
            int set = 1 << bit | 1;
            Twins.refused("storm of bit " + bit, Twins::some, s -> s.storm(set, 1));
        }
    }

    private static void stormOfNothingIsWell() {
        StormParting s = with(covers("h 1"));
        Check.due("0 with no losses", s.storm(0, 7), 1);
        Check.due("it brings nothing", s.mean(0, 0), 0);
        Check.due("it weighs", s.mean(0, 2), 7);
        Check.loss(s, 10, 0);
        Check.due("0 with one loss", s.storm(0, 1), 2);
        Check.due("all of one", s.storm(1, 1), 3);
        Check.due("two of one", s.storm(2, 1), Check.NONE);
        Check.due("MOST of the third alone", s.mean(0, 0), 1000);
    }

    private static void stormWeights() {
        for (int weight = 1; weight <= 99; weight++) {
            StormParting s = with(covers("h 1"), 0);
            Check.due("weight " + weight, s.storm(1, weight), 1);
            Check.due("its weight", s.mean(0, 2), weight);
            Check.due("times MOST", s.mean(0, 0), 1000 * weight);
            Check.due("times LEAST", s.mean(0, 1), 1000 * weight);
        }
    }

    /** 'STORMS (12 at most)', 'there are twelve' */
    private static void twelveStorms() {
        StormParting s = with(covers("h 1"), 0);
        for (int i = 1; i <= 12; i++) {
            Check.due("how many there are", s.storm(1, i), i);
            Check.due("count", s.count(2), i);
        }
        Check.due("a thirteenth", s.storm(1, 1), Check.NONE);
        Check.due("the weights of twelve", s.mean(0, 2), 78);
        Twins.refused("a thirteenth", Twins::full, t -> t.storm(0, 1));
        Twins.refused("a thirteenth of all", Twins::full, t -> t.storm(4095, 99));
    }

    /** 'HIDDEN: not told for one STORM, no such ones.' */
    private static void meanOfNoSuchOnes() {
        for (int k = 0; k < 3; k++) {
            for (int cover : Check.outside(0, COVERS[k] - 1)) {
                for (int what = 0; what < 3; what++) {
                    int asked = what;
                    Twins.refused("mean(" + cover + ", " + what + ")", STATES[k], s -> s.mean(cover, asked), H);
                }
            }
            for (int what : Check.outside(0, 2)) {
                Twins.refused("mean(0, " + what + ")", STATES[k], s -> s.mean(0, what), H);
            }
        }
    }

    private static void meanWithNoStorms() {
        StormParting s = with(covers("h 1;o 1"), everyFour(12));
        for (int what = 0; what < 3; what++) {
            Check.due("no storms, " + what, s.mean(0, what), 0);
        }
    }

    /** '(0, if there is none)' */
    private static void zeroIfThereIsNone() {
        StormParting s = with(covers("h 4;g 4"), 0, 4, 100);
        s.storm(3, 50);
        Check.due("none is LAWFUL, MOST", s.mean(0, 0), 0);
        Check.due("none is LAWFUL, LEAST", s.mean(0, 1), 0);
        Check.due("none is LAWFUL, weights", s.mean(0, 2), 50);
        s.storm(5, 2);
        Check.due("with another, MOST", s.mean(0, 0), 4000);
        Check.due("with another, LEAST", s.mean(0, 1), 4000);
        s.storm(7, 3);
        Check.due("none again behind it, MOST", s.mean(0, 0), 4000);
        Check.due("none again behind it, LEAST", s.mean(0, 1), 4000);
        Check.due("all weights", s.mean(0, 2), 55);
    }

    private static void meanNotTold() {
        StormParting s = with(covers("h 99;o 1", "h 99"), everyFour(12));
        s.storm(255, 1);
        s.storm(255 << 4, 2);
        Check.due("eight each", s.mean(0, 0), 3 * 8000);
        s.storm(511, 1);
        for (int what = 0; what < 3; what++) {
            Check.due("nine in the third, " + what, s.mean(0, what), H);
        }
        s.storm(0, 1);
        Check.due("nor with a fourth", s.mean(0, 0), H);
        Check.due("told if they may not overlap", s.mean(1, 0), 3 * 8000 + 9000);
        Check.due("its weights", s.mean(1, 2), 5);
    }

    /** A storm is a set of numbers: what is mended later counts. */
    private static void stormsAreByNumbers() {
        StormParting s = with(covers("h 9;a 5"), 0, 4);
        s.storm(3, 2);
        Check.due("MOST", s.mean(0, 0), 2 * 1500);
        Check.due("LEAST", s.mean(0, 1), 2 * 1000);
        s.mend(1, 9, 20);
        Check.due("mended, MOST", s.mean(0, 0), 2 * 2000);
        Check.due("mended, LEAST", s.mean(0, 1), 2 * 2000);
    }

    private static void theGreatestMean() {
        StormParting s = new StormParting();
        Check.cover(s, "h 1");
        for (int i = 0; i < 12; i++) {
            Check.loss(s, 99, i);
        }
        for (int i = 0; i < 12; i++) {
            s.storm(4095, 99);
        }
        Check.due("the greatest mean", s.mean(0, 0), 12 * 99 * 9 * 9900);
        Check.due("the greatest weights", s.mean(0, 2), 12 * 99);
    }

    /** 'HIDDEN: no LOSSES; for one COVER, without some LOSS, none is LAWFUL or it is not told; no such ones.' */
    private static void gameOfNoSuchOnes() {
        for (int k = 0; k < 3; k++) {
            for (int cover : Check.outside(0, COVERS[k] - 1)) {
                for (int what = 0; what < 3; what++) {
                    int asked = what;
                    Twins.refused("game(" + cover + ", 0, " + what + ")", STATES[k], s -> s.game(cover, 0, asked), H);
                    Twins.refused("game(0, " + cover + ", " + what + ")", STATES[k], s -> s.game(0, cover, asked), H);
                }
            }
            for (int what : Check.outside(0, 2)) {
                Twins.refused("game(0, 0, " + what + ")", STATES[k], s -> s.game(0, 0, what), H);
            }
        }
    }

    private static void due(String name, StormParting s, int one, int other, int... want) {
        for (int what = 0; what < 3; what++) {
            Check.due(name + ", " + what, s.game(one, other, what), want.length == 1 ? H : want[what]);
        }
    }

    private static void gameWithoutLosses() {
        StormParting s = with(covers("h 1", "h 9"));
        due("no LOSSES", s, 0, 1, H);
        due("no LOSSES, one cover twice", s, 0, 0, H);
    }

    private static void gameOfOneLoss() {
        StormParting s = with(covers("h 1", "h 9;a 5"), 7);
        due("nothing is left", s, 0, 1, 0, 0, 0);
        due("nothing is left the other way", s, 1, 0, 0, 0, 0);
    }

    /** 'he takes that by which this is more (of both alike the first)' */
    private static void ofBothAlikeTheFirst() {
        StormParting s = with(covers("h 1", "h 1;a 0", "h 1;b 1", "h 1;a 9"), 0, 50, 100);
        s.mend(2, 100, 30);
        due("alike", s, 0, 1, 0, 2000, 2);
        due("alike the other way", s, 1, 0, 0, 2000, 2);
        due("one cover twice", s, 3, 3, 0, 200, 2);
        due("the first is more", s, 0, 2, 0, 2000, 2);
        due("the second is more by least", s, 2, 0, 1, 2000, 2);
        due("the second is less", s, 0, 3, 0, 2000, 2);
        due("the second is more", s, 3, 0, 1, 2000, 2);
    }

    /** 'then the other side strikes one LOSS: that without which MOST is least (of several the lowest)' */
    private static void struckTheLowest() {
        for (int i = 0; i < 12; i++) {
            for (int j = i; j < 12; j++) {
                StormParting s = new StormParting();
                Check.cover(s, "h 1;b 50");
                Check.cover(s, "h 1");
                for (int k = 0; k < 12; k++) {
                    Check.loss(s, k == i || k == j ? 6 : 5, k < 9 ? 9 * k : 72);
                }
                int left = 12 * 5 + (i == j ? 1 : 2) - 6;
                due("6 at " + i + " and " + j, s, 0, 1, 1, 100 * left, i);
            }
        }
        StormParting s = with(covers("h 1;n 1", "h 1;a 19"), 0, 50, 100);
        s.mend(2, 100, 30);
        due("each has another LOSS struck", s, 0, 1, 0, 1000, 0);
        due("by the second nothing is left", s, 1, 0, 1, 1000, 0);
    }

    private static void gameHiddenIfOneIsNot() {
        StormParting s = with(covers("h 9", "h 4;g 4"), 0, 4);
        due("without either one is alone", s, 0, 1, 0, 1000, 0);
        Check.loss(s, 10, 100);
        due("without the third none is lawful", s, 0, 1, H);
        due("without the third none is lawful, the other way", s, 1, 0, H);
        due("the first alone", s, 0, 0, 0, 2000, 0);
        due("the second alone", s, 1, 1, H);
        s.mend(2, 8, 10);
        due("0, 4, 8: only without the middle one", s, 1, 0, H);
    }

    private static void gameNotTold() {
        StormParting s = with(covers("h 9;o 1", "h 9"), everyFour(9));
        due("nine: eight are told", s, 0, 1, 0, 8000, 0);
        Check.loss(s, 10, 36);
        due("ten: nine are not", s, 0, 1, H);
        due("ten: nine are not, the other way", s, 1, 0, H);
        due("ten that may not overlap", s, 1, 1, 0, 9000, 0);
    }

    private static void askingChangesNothing() {
        for (int k = 1; k < 3; k++) {
            for (int one = 0; one < COVERS[k]; one++) {
                int c = one;
                Twins.asks("game", STATES[k], s -> s.game(c, 0, 0) + s.game(0, c, 1) + s.game(c, c, 2));
                Twins.asks("layers", STATES[k], s -> s.layers(1 << c, true) + s.layers(1 << c | 1, true) + s.layers(1, false));
                Twins.asks("mean", STATES[k], s -> s.mean(c, 0) + s.mean(c, 1) + s.mean(c, 2));
                Twins.asks("nearest", STATES[k], s -> s.nearest(c, 0) + s.nearest(c, 1));
                Twins.asks("judge", STATES[k], s -> s.judge(c) + s.brings(c, 1) + s.hangs(c));
            }
        }
    }
}
