/** The edges that the document names for LOSSES, for what MAY be ONE and for what is PAID: promises 7 to 9, 24, 25. */
public final class LossBoundsTest {
    private static final int[] WELL = {5, 500, 3, 50, 50, 1};
    private static final int[] LEAST = {1, 0, 0, 0, 0, 1};
    private static final int[] GREATEST = {99, 999, 99, 99, 99, 63};
    private static final String[] NAMES = {"sum", "hour", "later", "x", "y", "causes"};
    private static final Twins.Making[] STATES = {Twins::nothing, Twins::some, Twins::full};

    public static void main(String[] args) {
        outOfBounds();
        withinBounds();
        itsLastHourAbove999();
        twelveAtMost();
        sumsAsTold();
        hoursAsTold();
        lastHoursAsTold();
        placesAsTold();
        causesAsTold();
        belowHours();
        noMoreThanMiles();
        someCauseOfAll();
        oneByItself();
        mayOfNoSuchOnes();
        lessAboveUpTo();
        mendOutOfBounds();
        mendWithinBounds();
        itsLastHourStays();
        mendKeepsTheRest();
        counts();
        Check.end();
    }

    private static int loss(StormParting s, int[] v) {
        return s.loss(v[0], v[1], v[2], v[3], v[4], v[5]);
    }

    private static int[] with(int[] v, int place, int value) {
        int[] changed = v.clone();
        changed[place] = value;
        return changed;
    }

    /** 'NONE: out of bounds' */
    private static void outOfBounds() {
        for (int place = 0; place < 6; place++) {
            for (int value : Check.outside(LEAST[place], GREATEST[place])) {
                int[] wrong = with(WELL, place, value);
                for (Twins.Making state : STATES) {
                    Twins.refused("loss with " + NAMES[place] + " " + value, state, s -> loss(s, wrong));
                }
            }
        }
        int[][] together = {{Integer.MAX_VALUE, Integer.MAX_VALUE, Integer.MAX_VALUE, Integer.MAX_VALUE, Integer.MAX_VALUE,
            Integer.MAX_VALUE}, {Integer.MIN_VALUE, Integer.MIN_VALUE, Integer.MIN_VALUE, Integer.MIN_VALUE, Integer.MIN_VALUE,
            Integer.MIN_VALUE}, {0, 0, 0, 0, 0, 0}, {-1, -1, -1, -1, -1, -1}, {5, 1000, -1, 0, 0, 1}, {5, -1, 1, 0, 0, 1},
            {5, Integer.MAX_VALUE, 1, 0, 0, 1}, {5, Integer.MIN_VALUE, Integer.MIN_VALUE, 0, 0, 1},
            {5, 1, Integer.MAX_VALUE, 0, 0, 1}};
        for (int[] v : together) {
            Twins.refused("loss with several out of bounds", Twins::some, s -> loss(s, v));
        }
    }

    private static void withinBounds() {
        for (int place = 0; place < 6; place++) {
            int[] base = with(WELL, 2, 0);
            Check.due("the least " + NAMES[place], loss(new StormParting(), with(base, place, LEAST[place])), 0);
            Check.due("the greatest " + NAMES[place], loss(new StormParting(), with(base, place, GREATEST[place])), 0);
        }
        Check.due("all least", loss(new StormParting(), LEAST), 0);
        Check.due("all greatest", loss(new StormParting(), with(GREATEST, 2, 0)), 0);
    }

    /** '(its last hour above 999, too)' */
    private static void itsLastHourAbove999() {
        for (int later = 0; later <= 99; later++) {
            int hours = later;
            StormParting s = new StormParting();
            Check.due("a last hour of 999, " + later + " later", s.loss(1, 999 - later, later, 0, 0, 1), 0);
            if (later > 0) {
                Twins.refused("a last hour of 1000, " + later + " later", Twins::nothing,
                    t -> t.loss(1, 1000 - hours, hours, 0, 0, 1));
            }
        }
    }

    /** 'LOSSES (12 at most, numbered 0 ..)', 'there are twelve' */
    private static void twelveAtMost() {
        StormParting s = new StormParting();
        for (int i = 0; i < 12; i++) {
            Check.due("its number", loss(s, WELL), i);
            Check.due("losses", s.count(1), i + 1);
        }
        Check.due("a thirteenth", loss(s, WELL), Check.NONE);
        Twins.refused("a thirteenth", Twins::full, t -> loss(t, WELL));
        Twins.refused("a thirteenth of the least", Twins::full, t -> loss(t, LEAST));
    }

    private static void sumsAsTold() {
        for (int sum = 1; sum <= 99; sum++) {
            StormParting s = new StormParting();
            Check.cover(s, "h 1");
            Check.loss(s, sum, 0);
            Check.due("a sum of " + sum, s.paid(0, 1), sum);
        }
    }

    private static void hoursAsTold() {
        for (int hour = 0; hour < 999; hour += hour < 3 || hour > 990 ? 1 : 17) {
            StormParting s = new StormParting();
            Check.loss(s, 1, hour);
            Check.due("hour " + hour + " is not below itself", s.year(0, hour, false), 1);
            Check.due("hour " + hour + " is below the next", s.year(0, hour + 1, false), 0);
        }
        StormParting s = new StormParting();
        Check.loss(s, 1, 999);
        Check.due("hour 999", s.year(0, 999, false), 1);
    }

    /** A loss at 0 and one that may be later: both are one up to hour 9, then two, which brings 5 less. */
    private static void lastHoursAsTold() {
        for (int later = 0; later <= 99; later++) {
            StormParting s = new StormParting();
            Check.cover(s, "h " + Math.max(1, later) + ";a 5");
            Check.loss(s, 10, 0);
            s.loss(10, 0, later, 0, 0, 1);
            Check.due(later + " later, the least", s.ends(0, 1, 0), later == 0 ? 1500 : 1000);
            Check.due(later + " later, the greatest", s.ends(0, 1, 1), 1500);
            StormParting t = new StormParting();
            Check.cover(t, "h " + Math.min(99, later + 1) + ";a 5");
            Check.loss(t, 10, 0);
            t.loss(10, 0, later, 0, 0, 1);
            Check.due(later + " later and one hour more", t.ends(0, 1, 0), later == 99 ? 1000 : 1500);
        }
    }

    private static void placesAsTold() {
        for (int way = 0; way < 2; way++) {
            for (int far = 1; far <= 99; far++) {
                StormParting s = new StormParting();
                Check.cover(s, "h 1;r " + far);
                Check.cover(s, "h 1;r " + (far - 1));
                s.loss(1, 0, 0, 0, 0, 1);
                s.loss(1, 0, 0, way == 0 ? far : 0, way == 0 ? 0 : far, 1);
                Check.due(far + " miles within " + far, s.may(0, 3), 1);
                Check.due(far + " miles within one less", s.may(1, 3), 0);
            }
        }
    }

    /** 'CAUSES that may be it (bits 0 .. 5, one at least)' */
    private static void causesAsTold() {
        for (int causes = 1; causes < 64; causes++) {
            StormParting s = new StormParting();
            Check.cover(s, "h 1");
            s.loss(1, 0, 0, 0, 0, causes);
            for (int cause = 0; cause < 6; cause++) {
                int want = (causes >> cause & 1) == 1 ? 100 : Check.HIDDEN;
                Check.due("causes " + causes + " told as " + cause, s.told(0, 0, cause), want);
            }
        }
    }

    /** 'the greatest hour less the least is below HOURS' */
    private static void belowHours() {
        for (int hours = 1; hours <= 99; hours++) {
            StormParting s = new StormParting();
            Check.cover(s, "h " + hours);
            Check.loss(s, 1, 100);
            Check.loss(s, 1, 100 + hours - 1);
            Check.loss(s, 1, 100 + hours);
            Check.loss(s, 1, 100 - hours + 1);
            Check.loss(s, 1, 100 - hours);
            Check.due("just below " + hours, s.may(0, 3), 1);
            Check.due("just " + hours, s.may(0, 5), 0);
            Check.due("just below " + hours + " ahead", s.may(0, 9), 1);
            Check.due("just " + hours + " ahead", s.may(0, 17), 0);
            Check.due("of three the outer ones count", s.may(0, 11), hours == 1 ? 1 : 0);
        }
        StormParting s = new StormParting();
        Check.cover(s, "h 99");
        Check.loss(s, 1, 0);
        Check.loss(s, 1, 999);
        Check.due("the ends of all hours", s.may(0, 3), 0);
        StormParting t = new StormParting();
        Check.cover(t, "h 10");
        t.loss(1, 0, 99, 0, 0, 1);
        Check.loss(t, 1, 9);
        Check.loss(t, 1, 10);
        Check.due("their hour is as told, not later", t.may(0, 3), 1);
        Check.due("their hour is as told, not later: ten", t.may(0, 5), 0);
    }

    /** 'any two have places with ... together no more than MILES squared' */
    private static void noMoreThanMiles() {
        int[][] places = {{3, 4, 25}, {5, 0, 25}, {4, 4, 32}, {0, 6, 36}, {99, 0, 9801}, {99, 1, 9802}, {99, 99, 19602},
            {60, 79, 9841}, {70, 70, 9800}, {1, 1, 2}, {0, 0, 0}};
        for (int[] place : places) {
            for (int miles = 0; miles <= 99; miles++) {
                StormParting s = new StormParting();
                Check.cover(s, "h 1;r " + miles);
                s.loss(1, 0, 0, 0, 99 - place[1], 1);
                s.loss(1, 0, 0, place[0], 99, 1);
                Check.due(place[0] + ", " + place[1] + " within " + miles, s.may(0, 3), place[2] <= miles * miles ? 1 : 0);
            }
        }
        StormParting s = new StormParting();
        Check.cover(s, "h 1");
        Check.cover(s, "h 1;r 5");
        s.loss(1, 0, 0, 0, 0, 1);
        s.loss(1, 0, 0, 5, 0, 1);
        s.loss(1, 0, 0, 10, 0, 1);
        s.loss(1, 0, 0, 99, 99, 1);
        Check.due("not asked", s.may(0, 15), 1);
        Check.due("neighbours", s.may(1, 3) + s.may(1, 6), 2);
        Check.due("any two", s.may(1, 7), 0);
    }

    /** 'if CAUSES are asked: some CAUSE may be that of all' */
    private static void someCauseOfAll() {
        for (int i = 0; i < 6; i++) {
            for (int j = 0; j < 6; j++) {
                StormParting s = new StormParting();
                Check.cover(s, "h 1;c 1");
                Check.cover(s, "h 1;c 0");
                s.loss(1, 0, 0, 0, 0, 1 << i);
                s.loss(1, 0, 0, 0, 0, 1 << j);
                Check.due("causes " + i + " and " + j, s.may(0, 3), i == j ? 1 : 0);
                Check.due("causes " + i + " and " + j + ", not asked", s.may(1, 3), 1);
            }
        }
        StormParting s = new StormParting();
        Check.cover(s, "h 1;c 1");
        for (int i = 0; i < 7; i++) {
            s.loss(1, 0, 0, 0, 0, i == 6 ? 63 : 63 ^ (1 << i));
        }
        Check.due("any five of six leave one", s.may(0, 31), 1);
        Check.due("and with all that may be any", s.may(0, 31 + 64), 1);
        Check.due("six leave none", s.may(0, 63), 0);
    }

    private static void oneByItself() {
        StormParting s = new StormParting();
        Check.cover(s, "h 1;r 0;c 1;g 99;a 99;n 1;b 99;p 99;u 1");
        for (int i = 0; i < 12; i++) {
            s.loss(1, 80 * i, 9, i, 99 - i, 1 << i % 6);
            Check.due("one by itself: " + i, s.may(0, 1 << i), 1);
        }
    }

    /** 'NONE: no such ones', 'bits, not 0' */
    private static void mayOfNoSuchOnes() {
        int[] losses = {0, 5, 12};
        int[] covers = {0, 3, 6};
        for (int k = 0; k < 3; k++) {
            for (int cover : Check.outside(0, covers[k] - 1)) {
                Twins.refused("may(" + cover + ", 1)", STATES[k], s -> s.may(cover, 1));
                Twins.refused("paid(" + cover + ", 1)", STATES[k], s -> s.paid(cover, 1));
            }
            for (int set : Check.outside(1, (1 << losses[k]) - 1)) {
                Twins.refused("may(0, " + set + ")", STATES[k], s -> s.may(0, set));
                Twins.refused("paid(0, " + set + ")", STATES[k], s -> s.paid(0, set));
            }
        }
        for (int bit = 5; bit < 32; bit++) {
            int set = 1 << bit | 1;
            Twins.refused("may of bit " + bit, Twins::some, s -> s.may(0, set));
            Twins.refused("paid of bit " + bit, Twins::some, s -> s.paid(0, set));
        }
        StormParting s = new StormParting();
        Twins.full(s);
        Check.due("all twelve are such ones", s.may(0, 4095), 0);
        Check.due("all twelve are paid for", s.paid(5, 4095), 99);
        Check.due("the last alone", s.paid(0, 2048), 99 - 77 - 5);
        Check.due("the last cover", s.paid(5, 2048), 0);
    }

    /** 'the sum of its LOSSES less ABOVE, 0 at least, UP TO at most' */
    private static void lessAboveUpTo() {
        for (int sum = 1; sum <= 99; sum += 7) {
            for (int above = 0; above <= 99; above++) {
                for (int upTo = 1; upTo <= 99; upTo += upTo == 1 ? 1 : 97) {
                    StormParting s = new StormParting();
                    Check.cover(s, "h 1;a " + above + ";u " + upTo);
                    Check.loss(s, sum, 0);
                    int want = sum <= above ? 0 : Math.min(upTo, sum - above);
                    Check.due(sum + " above " + above + " up to " + upTo, s.paid(0, 1), want);
                }
            }
        }
        StormParting s = new StormParting();
        Check.cover(s, "h 1;a 99;u 99");
        for (int i = 0; i < 12; i++) {
            Check.loss(s, 99, 50 * i);
        }
        Check.due("99 above 99", s.paid(0, 1), 0);
        Check.due("198 above 99", s.paid(0, 3), 99);
        Check.due("1188 above 99, though not one", s.paid(0, 4095), 99);
        StormParting t = new StormParting();
        Check.cover(t, "h 1;n 1;b 99;p 99");
        Check.loss(t, 60, 0);
        Check.loss(t, 60, 500);
        Check.due("by itself: neither borne nor how often, nor whether they are one", t.paid(0, 3), 99);
    }

    /** 'False: no such LOSS, out of bounds.' */
    private static void mendOutOfBounds() {
        int[] losses = {0, 5, 12};
        for (int k = 0; k < 3; k++) {
            for (int loss : Check.outside(0, losses[k] - 1)) {
                Twins.refused("mend(" + loss + ", 1, 1)", STATES[k], s -> s.mend(loss, 1, 1) ? 1 : 0, 0);
            }
            for (int hour : Check.outside(0, 999)) {
                Twins.refused("mend(0, " + hour + ", 1)", STATES[k], s -> s.mend(0, hour, 1) ? 1 : 0, 0);
            }
            for (int sum : Check.outside(1, 99)) {
                Twins.refused("mend(0, 1, " + sum + ")", STATES[k], s -> s.mend(0, 1, sum) ? 1 : 0, 0);
            }
        }
    }

    private static void mendWithinBounds() {
        for (int hour : new int[] {0, 1, 500, 998, 999}) {
            for (int sum : new int[] {1, 2, 50, 98, 99}) {
                StormParting s = new StormParting();
                Check.cover(s, "h 1");
                Check.loss(s, 77, 77);
                Check.loss(s, 7, 300);
                s.put(1, 1);
                Check.due("mend(0, " + hour + ", " + sum + ")", s.mend(0, hour, sum), true);
                Check.due("its sum", s.paid(0, 1), sum);
                Check.due("its hour", s.year(0, hour, false), 1);
                Check.due("its hour and one", hour == 999 ? 0 : s.year(0, hour + 1, false), 0);
                Check.due("another's sum stays", s.paid(0, 2), 7);
                Check.due("another's hour stays", s.year(1, 300, false) + 10 * s.year(1, 301, false), 1);
            }
        }
    }

    private static StormParting toMend(int hour, int later) {
        StormParting s = new StormParting();
        Check.cover(s, "h 10;a 5");
        Check.loss(s, 10, 100);
        s.loss(10, hour, later, 0, 0, 1);
        return s;
    }

    /** '(its last hour stays, or is that, if it was below)': with the loss at 100 it is one at 91 .. 109. */
    private static void itsLastHourStays() {
        StormParting s = toMend(80, 10);
        Check.due("80 .. 90", s.ends(0, 1, 1), 1000);
        s.mend(1, 85, 10);
        Check.due("85 .. 90: it stays", s.ends(0, 1, 1), 1000);
        s.mend(1, 90, 10);
        Check.due("90 .. 90: at it", s.ends(0, 1, 1), 1000);
        s.mend(1, 91, 10);
        Check.due("91 .. 91: it is that", s.ends(0, 1, 0), 1500);
        s.mend(1, 90, 10);
        Check.due("90 .. 91: the last hour is 91 now", s.ends(0, 1, 1), 1500);
        Check.due("90 .. 91: the least", s.ends(0, 1, 0), 1000);
        StormParting t = toMend(100, 9);
        Check.due("100 .. 109", t.ends(0, 1, 0), 1500);
        t.mend(1, 105, 10);
        Check.due("105 .. 109", t.ends(0, 1, 0), 1500);
        t.mend(1, 110, 10);
        Check.due("110 .. 110", t.ends(0, 1, 1), 1000);
        t.mend(1, 109, 10);
        Check.due("109 .. 110", t.ends(0, 1, 0), 1000);
        t.mend(1, 0, 10);
        Check.due("0 .. 110, though more than 99 hours", t.ends(0, 1, 1), 1500);
        StormParting u = toMend(300, 0);
        u.mend(1, 999, 10);
        Check.due("999 .. 999", u.ends(0, 1, 1), 1000);
        u.mend(1, 0, 10);
        Check.due("0 .. 999", u.ends(0, 1, 1), 1500);
    }

    private static void mendKeepsTheRest() {
        StormParting s = new StormParting();
        Check.cover(s, "h 99;r 5;c 1");
        s.loss(10, 10, 5, 20, 30, 6);
        s.loss(10, 10, 0, 25, 30, 2);
        s.loss(10, 10, 0, 26, 30, 2);
        s.loss(10, 10, 0, 20, 35, 8);
        s.put(0, 7);
        s.mend(0, 12, 11);
        Check.due("its place stays", s.may(0, 3) * 10 + s.may(0, 5), 10);
        Check.due("its causes stay", s.may(0, 9), 0);
        Check.due("its number stays: hour 10 is not its happening's", s.year(0, 12, false), 1);
    }

    /** '0 COVERS, 1 LOSSES, 2 STORMS, 3 bytes of the TAPE. NONE for others.' */
    private static void counts() {
        int[][] want = {{0, 0, 0, 0}, {3, 5, 3, 7}, {6, 12, 12, 120}};
        for (int k = 0; k < 3; k++) {
            StormParting s = new StormParting();
            STATES[k].tell(s);
            for (int what = 0; what < 4; what++) {
                Check.due("count(" + what + ")", s.count(what), want[k][what]);
            }
            for (int what : Check.outside(0, 3)) {
                Twins.refused("count(" + what + ")", STATES[k], t -> t.count(what));
            }
        }
    }
}
