/** The edges that the document names for the TOLD PARTING: promises 10 to 13, LAWFUL, the row, BRINGS, NET, YEAR. */
public final class ToldBoundsTest {
    private static final Twins.Making[] STATES = {Twins::nothing, Twins::some, Twins::full};
    private static final int[] COVERS = {0, 3, 6};
    private static final int[] LOSSES = {0, 5, 12};

    public static void main(String[] args) {
        putOfNoSuchOnes();
        numbersFrom0To15();
        zeroAtFirst();
        judgeOfNoSuchCover();
        lawfulWithNothing();
        firstByTheLowerThenByTheUpper();
        notOneByThemselves();
        gapIsBelow();
        tooNearByAllTheirHours();
        oneInsideTheOther();
        ifTheyMayOverlap();
        wholeHappeningsLast();
        bringsOfNoSuchOnes();
        bringsIsHiddenUnlessLawful();
        bringsWithNothing();
        theRow();
        firstNOfTheRow();
        nothingPaidIsNotCounted();
        borne();
        usedIsNoMore();
        againTimesUsed();
        yearOfNoSuchOnes();
        leastHourBelow();
        moreOrAsMuchBelow();
        Check.end();
    }

    private static StormParting with(String text, int... hours) {
        StormParting s = new StormParting();
        Check.cover(s, text);
        for (int hour : hours) {
            Check.loss(s, 10, hour);
        }
        return s;
    }

    /** 'False: no such ones.' */
    private static void putOfNoSuchOnes() {
        for (int k = 0; k < 3; k++) {
            for (int loss : Check.outside(0, LOSSES[k] - 1)) {
                Twins.refused("put(" + loss + ", 1)", STATES[k], s -> s.put(loss, 1) ? 1 : 0, 0);
            }
            for (int number : Check.outside(0, 15)) {
                Twins.refused("put(0, " + number + ")", STATES[k], s -> s.put(0, number) ? 1 : 0, 0);
            }
        }
        Twins.refused("put of the loss that would be next", Twins::some, s -> s.put(5, 3) ? 1 : 0, 0);
        StormParting s = with("h 9", 1);
        s.put(1, 3);
        Check.loss(s, 10, 2);
        Check.due("what was refused does not come later", s.brings(0, 2), 1);
    }

    /** 'for each LOSS a number 0 .. 15', 'those with one number are a happening' */
    private static void numbersFrom0To15() {
        for (int one = 0; one <= 15; one++) {
            for (int other = 0; other <= 15; other++) {
                StormParting s = with("h 9", 1, 2);
                Check.due("put(0, " + one + ")", s.put(0, one), true);
                Check.due("put(1, " + other + ")", s.put(1, other), true);
                Check.due("happenings of " + one + " and " + other, s.brings(0, 2), one == other ? 1 : 2);
            }
        }
        StormParting s = with("h 9", 0, 10, 20, 30, 40, 50, 60, 70, 80, 90, 100, 110);
        for (int i = 0; i < 12; i++) {
            Check.due("put(" + i + ")", s.put(i, 15 - i), true);
        }
        Check.due("twelve happenings", s.brings(0, 2), 12);
        Check.due("told anew", s.put(11, 15), true);
        Check.due("first and last are one with all others between: 0 and 1 bar", s.judge(0), 1);
    }

    /** '(0 at first)' */
    private static void zeroAtFirst() {
        StormParting s = with("h 9", 1, 2, 3);
        Check.due("all in one", s.brings(0, 2), 1);
        s.put(1, 0);
        Check.due("told as 0 is as at first", s.brings(0, 2), 1);
        s.put(0, 1);
        s.put(1, 1);
        Check.due("the third has 0 still", s.brings(0, 2), 2);
        Check.loss(s, 10, 4);
        Check.due("a new one has 0 too", s.brings(0, 2), 2);
    }

    /** 'NONE: LAWFUL, no such COVER.' */
    private static void judgeOfNoSuchCover() {
        for (int k = 0; k < 3; k++) {
            for (int cover : Check.outside(0, COVERS[k] - 1)) {
                Twins.refused("judge(" + cover + ")", STATES[k], s -> s.judge(cover));
            }
        }
        StormParting s = with("h 9", 1, 100);
        Check.due("by the cover there is", s.judge(0), 1);
        Check.due("by the next there is not", s.judge(1), Check.NONE);
    }

    private static void lawfulWithNothing() {
        StormParting s = with("h 1;r 0;c 1;g 99");
        Check.due("no losses", s.judge(0), Check.NONE);
        Check.loss(s, 1, 0);
        Check.due("one loss", s.judge(0), Check.NONE);
    }

    /** 'the first two LOSSES (i, then j above it, as 16 i and j) that bar it' */
    private static void firstByTheLowerThenByTheUpper() {
        for (int i = 0; i < 12; i++) {
            for (int j = i + 1; j < 12; j++) {
                StormParting s = new StormParting();
                Check.cover(s, "h 99;r 5;o 1");
                for (int k = 0; k < 12; k++) {
                    s.loss(1, 0, 0, k == i ? 0 : k == j ? 6 : 3, 0, 1);
                }
                Check.due("only " + i + " and " + j + " bar", s.judge(0), 16 * i + j);
            }
        }
        StormParting s = with("h 9;o 1", 0, 1, 2, 9, 10);
        Check.due("0 with 3 is ahead of 0 with 4 and of 1 with 4", s.judge(0), 3);
        s.put(0, 1);
        Check.due("then 1 with 4", s.judge(0), 16 + 4);
        s.put(1, 1);
        Check.due("2 and 4 are one: 8 apart", s.judge(0), Check.NONE);
    }

    /** 'in one happening and not ONE by themselves' */
    private static void notOneByThemselves() {
        StormParting hours = with("h 9", 0, 8);
        Check.due("8 hours apart", hours.judge(0), Check.NONE);
        hours.mend(1, 9, 1);
        Check.due("9 hours apart", hours.judge(0), 1);
        StormParting miles = new StormParting();
        Check.cover(miles, "h 9;r 5");
        miles.loss(1, 0, 0, 0, 0, 1);
        miles.loss(1, 0, 0, 3, 4, 1);
        Check.due("5 miles", miles.judge(0), Check.NONE);
        miles.loss(1, 0, 0, 3, 5, 1);
        Check.due("more than 5 miles", miles.judge(0), 2);
        StormParting causes = new StormParting();
        Check.cover(causes, "h 9;c 1");
        Check.cover(causes, "h 9");
        causes.loss(1, 0, 0, 0, 0, 3);
        causes.loss(1, 0, 0, 0, 0, 2);
        Check.due("a cause of both", causes.judge(0), Check.NONE);
        causes.loss(1, 0, 0, 0, 0, 1);
        Check.due("0 and 2 have one, 1 and 2 have none", causes.judge(0), 16 + 2);
        Check.due("not asked", causes.judge(1), Check.NONE);
    }

    /** 'the greatest hour of one and GAP is below the least hour of the other' */
    private static void gapIsBelow() {
        for (int gap = 0; gap <= 99; gap++) {
            StormParting s = with("h 1;g " + gap, 200, 200 + gap);
            s.put(1, 1);
            Check.due("just GAP " + gap, s.judge(0), 1);
            s.mend(1, 201 + gap, 10);
            Check.due("one more than GAP " + gap, s.judge(0), Check.NONE);
            s.mend(1, 200 - gap, 10);
            Check.due("just GAP " + gap + " ahead", s.judge(0), 1);
            s.mend(1, 199 - gap, 10);
            Check.due("one more than GAP " + gap + " ahead", s.judge(0), Check.NONE);
        }
        StormParting s = with("h 1", 200, 201);
        s.put(1, 1);
        Check.due("no GAP at first", s.judge(0), Check.NONE);
        s.mend(1, 200, 10);
        Check.due("one hour for both", s.judge(0), 1);
    }

    /** 'in two happenings that are too near (all their hours)' */
    private static void tooNearByAllTheirHours() {
        StormParting s = with("h 50;g 3", 0, 40, 30, 44);
        s.put(1, 1);
        s.put(3, 1);
        Check.due("0, 30 and 40, 44", s.judge(0), Check.NONE);
        s.mend(2, 37, 10);
        Check.due("37 and 40: 0 and 1 bar, though 0 is far from 40", s.judge(0), 1);
        s.mend(2, 36, 10);
        Check.due("36 and 40", s.judge(0), Check.NONE);
        s.put(0, 9);
        Check.due("three happenings", s.judge(0), Check.NONE);
        s.mend(3, 39, 10);
        Check.due("0 is far from all; 1 with 2", s.judge(0), 16 + 2);
    }

    private static void oneInsideTheOther() {
        StormParting s = with("h 50", 0, 20, 40);
        s.put(1, 1);
        Check.due("20 is inside 0, 40", s.judge(0), 1);
        s.put(1, 0);
        s.put(0, 2);
        Check.due("0 ahead of 20, 40", s.judge(0), Check.NONE);
        s.put(1, 2);
        Check.due("0, 20 ahead of 40", s.judge(0), Check.NONE);
    }

    /** 'if they may not overlap' */
    private static void ifTheyMayOverlap() {
        StormParting s = with("h 50;g 99;o 1", 0, 20, 40, 40);
        s.put(1, 1);
        s.put(3, 2);
        Check.due("they may overlap", s.judge(0), Check.NONE);
        Check.cover(s, "h 50;o 1;o 0");
        Check.due("they may not", s.judge(1), 1);
    }

    /** 'else the two lowest of the first happening (by lowest LOSSES) that MAY not be ONE' */
    private static void wholeHappeningsLast() {
        StormParting s = new StormParting();
        Check.cover(s, "h 99;c 1;o 1");
        int[] causes = {8, 3, 3, 6, 6, 5, 5, 8};
        int[] numbers = {9, 12, 2, 2, 12, 12, 2, 9};
        for (int i = 0; i < 8; i++) {
            s.loss(1, i, 0, 0, 0, causes[i]);
            s.put(i, numbers[i]);
        }
        Check.due("1, 4, 5 are ahead of 2, 3, 6, whatever their numbers", s.judge(0), 16 + 4);
        s.put(1, 15);
        Check.due("then 2, 3, 6", s.judge(0), 16 * 2 + 3);
        s.put(2, 14);
        Check.due("then none", s.judge(0), Check.NONE);
        s.put(0, 2);
        Check.due("a pair is ahead of a whole", s.judge(0), 3);
        StormParting t = new StormParting();
        Check.cover(t, "h 99;c 1");
        for (int i = 0; i < 4; i++) {
            t.loss(1, i, 0, 0, 0, 15 ^ (1 << i));
        }
        Check.due("all four may not be one: the two lowest", t.judge(0), 1);
        t.put(3, 1);
        Check.due("three may", t.judge(0), Check.NONE);
    }

    /** 'HIDDEN: not LAWFUL, no such ones.' */
    private static void bringsOfNoSuchOnes() {
        for (int k = 0; k < 3; k++) {
            for (int cover : Check.outside(0, COVERS[k] - 1)) {
                for (int what = 0; what < 4; what++) {
                    int asked = what;
                    Twins.refused("brings(" + cover + ", " + what + ")", STATES[k], s -> s.brings(cover, asked), Check.HIDDEN);
                }
            }
            for (int what : Check.outside(0, 3)) {
                Twins.refused("brings(0, " + what + ")", STATES[k], s -> s.brings(0, what), Check.HIDDEN);
            }
        }
    }

    private static void bringsIsHiddenUnlessLawful() {
        StormParting s = with("h 9;g 2", 0, 8, 10);
        for (int what = 0; what < 4; what++) {
            Check.due("two are not one, " + what, s.brings(0, what), Check.HIDDEN);
        }
        s.put(2, 1);
        for (int what = 0; what < 4; what++) {
            Check.due("two happenings too near, " + what, s.brings(0, what), Check.HIDDEN);
        }
        s.mend(2, 11, 10);
        Check.due("lawful", s.brings(0, 0), 3000);
        StormParting t = new StormParting();
        Check.cover(t, "h 9;c 1");
        t.loss(1, 0, 0, 0, 0, 3);
        t.loss(1, 0, 0, 0, 0, 6);
        t.loss(1, 0, 0, 0, 0, 5);
        for (int what = 0; what < 4; what++) {
            Check.due("three are not one, " + what, t.brings(0, what), Check.HIDDEN);
        }
    }

    private static void bringsWithNothing() {
        StormParting s = with("h 1;r 0;c 1;g 99;p 99");
        for (int what = 0; what < 4; what++) {
            Check.due("no losses, " + what, s.brings(0, what), 0);
        }
    }

    /** 'by their least hours, of several with one by the lowest LOSS that each has at that hour' */
    private static void theRow() {
        StormParting s = new StormParting();
        Check.cover(s, "h 99;o 1;n 1");
        Check.loss(s, 1, 7);
        Check.loss(s, 2, 5);
        Check.loss(s, 4, 5);
        Check.loss(s, 8, 6);
        s.put(0, 1);
        s.put(2, 1);
        s.put(3, 2);
        Check.due("1 is ahead of 2 at hour 5, though 0 is with 2", s.brings(0, 0), 200);
        s.mend(0, 5, 1);
        Check.due("0 is at 5 too", s.brings(0, 0), 500);
        s.mend(3, 4, 8);
        Check.due("3 is at 4", s.brings(0, 0), 800);
        s.mend(1, 3, 2);
        Check.due("1 is at 3", s.brings(0, 0), 200);
        s.put(1, 15);
        Check.due("numbers of happenings do not count", s.brings(0, 0), 200);
        s.put(2, 15);
        s.mend(2, 900, 4);
        s.put(2, 0);
        Check.due("nor do hours that are not least", s.brings(0, 0), 200);
    }

    /** 'the first N happenings of the row with something PAID are PAID for, others are not', N 1 .. 9, 9 at first */
    private static void firstNOfTheRow() {
        for (int often = 1; often <= 9; often++) {
            StormParting s = new StormParting();
            Check.cover(s, often == 9 ? "h 1" : "h 1;n " + often);
            int want = 0;
            for (int i = 0; i < 12; i++) {
                Check.loss(s, 12 - i, 999 - i);
                s.put(i, i);
                want += i >= 12 - often ? 12 - i : 0;
            }
            Check.due("the first " + often + " of twelve", s.brings(0, 0), 100 * want);
            Check.due("happenings", s.brings(0, 2), 12);
            Check.due("PAID for", s.brings(0, 3), often);
        }
    }

    private static void nothingPaidIsNotCounted() {
        StormParting s = new StormParting();
        Check.cover(s, "h 1;a 10;n 2");
        int[] sums = {10, 11, 1, 10, 13, 99};
        for (int i = 0; i < sums.length; i++) {
            Check.loss(s, sums[i], i);
            s.put(i, i);
        }
        Check.due("1 and 3 above 10", s.brings(0, 0), 400);
        Check.due("PAID for", s.brings(0, 3), 2);
        Check.due("happenings", s.brings(0, 2), 6);
        s.mend(5, 5, 10);
        s.mend(4, 4, 10);
        Check.due("one alone", s.brings(0, 3), 1);
        s.mend(1, 1, 10);
        Check.due("none", s.brings(0, 3), 0);
        Check.due("nothing", s.brings(0, 0), 0);
    }

    /** 'PAID in all times (100 less BORNE), in hundredths' */
    private static void borne() {
        for (int borne = 0; borne <= 99; borne++) {
            StormParting s = with("h 1;b " + borne, 0, 5, 9);
            s.put(1, 1);
            s.put(2, 2);
            Check.due("30 with " + borne + " borne", s.brings(0, 0), 30 * (100 - borne));
        }
    }

    /** 'USED is PAID in all, but no more than UP TO times (N less 1)' */
    private static void usedIsNoMore() {
        for (int often = 1; often <= 4; often++) {
            StormParting s = new StormParting();
            Check.cover(s, "h 1;u 7;p 3;n " + often);
            int paid = 0;
            for (int i = 0; i < 4; i++) {
                int sum = i == 1 ? 5 : 9;
                Check.loss(s, sum, i);
                s.put(i, i);
                paid += i < often ? Math.min(sum, 7) : 0;
                int used = Math.min(paid, 7 * (often - 1));
                Check.due("net of " + (i + 1) + ", " + often + " often", s.brings(0, 1), paid * 100 * 7 - 300 * used);
            }
        }
        StormParting s = new StormParting();
        Check.cover(s, "h 1;u 10;p 1;n 2");
        Check.loss(s, 9, 0);
        Check.due("USED 9 of 10", s.brings(0, 1), 9000 - 900);
        s.mend(0, 0, 10);
        Check.due("USED 10 of 10", s.brings(0, 1), 10000 - 1000);
        Check.loss(s, 1, 1);
        s.put(1, 1);
        Check.due("USED 10 of 11", s.brings(0, 1), 11000 - 1000);
    }

    /** 'NET: what it BRINGS times UP TO, less 100 times AGAIN times USED' */
    private static void againTimesUsed() {
        StormParting s = new StormParting();
        Check.cover(s, "h 1;b 99;p 99");
        Check.cover(s, "h 1;p 0");
        Check.cover(s, "h 1");
        for (int i = 0; i < 9; i++) {
            Check.loss(s, 99, i);
            s.put(i, i);
        }
        Check.due("the least NET", s.brings(0, 1), 891 * 99 - 100 * 99 * 792);
        Check.due("the greatest NET", s.brings(1, 1), 891 * 100 * 99);
        Check.due("nothing AGAIN at first", s.brings(2, 1), 891 * 100 * 99);
    }

    /** 'NONE: no such LOSS, e (0 .. 999).' */
    private static void yearOfNoSuchOnes() {
        for (int k = 0; k < 3; k++) {
            for (boolean more : new boolean[] {false, true}) {
                for (int loss : Check.outside(0, LOSSES[k] - 1)) {
                    Twins.refused("year(" + loss + ", 5, " + more + ")", STATES[k], s -> s.year(loss, 5, more));
                }
                for (int e : Check.outside(0, 999)) {
                    Twins.refused("year(0, " + e + ", " + more + ")", STATES[k], s -> s.year(0, e, more));
                }
            }
        }
    }

    /** '0, if its least hour is below e (first word)', 'else 1' */
    private static void leastHourBelow() {
        StormParting s = with("h 1", 50, 40, 999, 0);
        s.put(2, 1);
        s.put(3, 2);
        Check.due("40 is not below 40", s.year(0, 40, false), 1);
        Check.due("40 is below 41", s.year(0, 41, false), 0);
        Check.due("of the other LOSS of it", s.year(1, 41, false), 0);
        Check.due("999 is not below 999", s.year(2, 999, false), 1);
        Check.due("0 is not below 0", s.year(3, 0, false), 1);
        Check.due("0 is below 1", s.year(3, 1, false), 0);
        s.put(0, 2);
        Check.due("with another number it has another happening", s.year(0, 1, false), 0);
        Check.due("a happening need not be lawful", s.year(1, 41, false), 0);
        s.loss(10, 30, 20, 0, 0, 1);
        s.put(4, 9);
        Check.due("its hour is as told", s.year(4, 31, false), 0);
    }

    /** 'if more of its sum, or as much, fell at hours below e (second word)' */
    private static void moreOrAsMuchBelow() {
        for (int below = 1; below <= 20; below++) {
            StormParting s = new StormParting();
            Check.loss(s, below, 99);
            Check.loss(s, 10, 100);
            Check.due(below + " of " + (below + 10) + " below 100", s.year(0, 100, true), below >= 10 ? 0 : 1);
            Check.due("all below 101", s.year(1, 101, true), 0);
            Check.due("none below 99", s.year(1, 99, true), 1);
            Check.due("by the first word", s.year(1, 100, false), 0);
            Check.loss(s, 99, 200);
            s.put(2, 1);
            Check.due("another happening does not count", s.year(0, 100, true), below >= 10 ? 0 : 1);
        }
        StormParting s = new StormParting();
        for (int i = 0; i < 12; i++) {
            Check.loss(s, 99, 988 + i);
        }
        Check.due("six of twelve", s.year(11, 994, true), 0);
        Check.due("five of twelve", s.year(11, 993, true), 1);
        Check.due("none below 0", s.year(0, 0, true), 1);
        Check.due("eleven of twelve below 999", s.year(0, 999, true), 0);
    }
}
