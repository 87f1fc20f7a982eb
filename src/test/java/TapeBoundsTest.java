/** The edges that the document names for texts: promises 1 to 6, and COVERS in 'Terms'. One method for a sentence. */
public final class TapeBoundsTest {
    private static final String LETTERS = "hrcogaunbp";
    private static final int[] LEAST = {1, 0, 0, 0, 0, 0, 1, 1, 0, 0};
    private static final int[] GREATEST = {99, 99, 1, 1, 99, 99, 99, 9, 99, 99};
    private static final int[] AT_FIRST = {7, -1, 0, 0, 0, 0, 99, 9, 0, 0};

    public static void main(String[] args) {
        twentyBytesTheHighestFirst();
        bytesOfZeroAreLeftOut();
        noMoreThan120();
        firstBytesAlone();
        falseN();
        faultOfNothing();
        eachByteInEachPlace();
        theLengthIfItEndsTooEarly();
        firstH();
        aSecondH();
        numbersOfOneOrTwoDigits();
        outOfBoundsAtTheLastDigit();
        aThirdDigit();
        blanksAheadOfANumber();
        blanksElsewhere();
        whatItIsAtFirst();
        theLatestCounts();
        theFirstFaultCounts();
        theTapeIsEmptyThen();
        noneOfAFault();
        sixAtMost();
        wordOfNoSuchOnes();
        aFaultIsOnlyAsked();
        Check.end();
    }

    private static int faultOf(String text) {
        StormParting s = new StormParting();
        Check.feed(s, text);
        return s.fault();
    }

    private static void due(String text, int want) {
        Check.due("FAULT of '" + text + "'", faultOf(text), want);
        StormParting s = new StormParting();
        Check.feed(s, text);
        Check.due("cover of '" + text + "'", s.cover(), want == Check.NONE ? 0 : Check.NONE);
    }

    private static int wordOf(String text, int what) {
        StormParting s = new StormParting();
        Check.cover(s, text);
        return (int) Twins.word(s, 0, what);
    }

    /** 'Twenty bytes more come to the TAPE (of each number the highest first)' */
    private static void twentyBytesTheHighestFirst() {
        StormParting s = new StormParting();
        Check.due("twenty bytes", s.feed(0x68203132, 0x3b722033, 0x343b6720, 0x35363b61, 0x2037383b), 20);
        Check.due("behind those that stand", s.feed(0x62203931, 0, 0, 0, 0), 24);
        Check.due("h 12;r 34;g 56;a 78;b 91", s.cover(), 0);
        int[] want = {12, 34, 0, 0, 56, 78, 99, 9, 91, 0};
        for (int what = 0; what < 10; what++) {
            Check.due("word " + what, Twins.word(s, 0, what), want[what]);
        }
        StormParting t = new StormParting();
        Check.due("a highest byte above 127", t.feed(0x80ff8180, -1, Integer.MIN_VALUE, 0, 0), 9);
    }

    /** 'bytes of 0 are left out' */
    private static void bytesOfZeroAreLeftOut() {
        StormParting s = new StormParting();
        Check.due("nothing but 0", s.feed(0, 0, 0, 0, 0), 0);
        Check.due("one in each number", s.feed(0x68000000, 0x00200000, 0x00003100, 0x00000032, 0), 4);
        Check.due("0 at each place", s.feed(0x003b6120, 0x37003800, 0, 0x00000020, 0x20000000), 11);
        Check.due("h 12;a 78 and two blanks", s.fault(), Check.NONE);
        Check.due("its number", s.cover(), 0);
        Check.due("HOURS", Twins.word(s, 0, 0), 12);
        Check.due("ABOVE", Twins.word(s, 0, 5), 78);
    }

    private static void tell(StormParting s, int bytes) {
        s.end(0);
        for (int at = 0; at < bytes; at += 20) {
            Check.feed(s, " ".repeat(Math.min(20, bytes - at)));
        }
    }

    /** 'NONE: more than 120' */
    private static void noMoreThan120() {
        for (int there = 100; there <= 120; there++) {
            for (int more = 1; more <= 20; more++) {
                StormParting s = new StormParting();
                tell(s, there);
                int want = there + more > 120 ? Check.NONE : there + more;
                Check.due(there + " bytes and " + more, Check.feed(s, " ".repeat(more)), want);
                Check.due("then there are", s.count(3), want == Check.NONE ? there : want);
            }
        }
        Twins.refused("feed to a full tape", s -> tell(s, 120), s -> s.feed(1, 0, 0, 0, 0));
        Twins.refused("twenty to 101", s -> tell(s, 101), s -> s.feed(-1, -1, -1, -1, -1));
        StormParting full = new StormParting();
        tell(full, 120);
        Check.due("none more to a full tape", full.feed(0, 0, 0, 0, 0), 120);
        Check.due("FAULT of 120 blanks", full.fault(), 120);
        StormParting text = new StormParting();
        Check.feed(text, "h 1");
        tellAll(text, 117);
        Check.due("a cover of 120 bytes", text.cover(), 0);
    }

    private static void tellAll(StormParting s, int blanks) {
        for (int at = 0; at < blanks; at += 20) {
            Check.feed(s, " ".repeat(Math.min(20, blanks - at)));
        }
    }

    /** 'The TAPE has its first n bytes alone.' */
    private static void firstBytesAlone() {
        String text = "h 12;a 34;u 56";
        int[] faults = {0, 1, 2, Check.NONE, Check.NONE, 5, 6, 7, Check.NONE, Check.NONE, 10, 11, 12, Check.NONE, Check.NONE};
        for (int n = 0; n <= text.length(); n++) {
            StormParting s = new StormParting();
            Check.feed(s, text);
            Check.due("end(" + n + ")", s.end(n), true);
            Check.due("bytes after end(" + n + ")", s.count(3), n);
            Check.due("FAULT after end(" + n + ")", s.fault(), faults[n]);
            Check.due("what was behind is gone", s.end(n + 1), false);
            Check.due("the next comes behind the " + n, s.feed(0, 0, 0, 0, 0x2020), n + 2);
        }
    }

    /** 'False: n.' */
    private static void falseN() {
        for (int length : new int[] {0, 1, 19, 20, 119, 120}) {
            for (int n : Check.outside(0, length)) {
                Twins.refused("end(" + n + ") of " + length, s -> tell(s, length), s -> s.end(n) ? 1 : 0, 0);
            }
            StormParting s = new StormParting();
            tell(s, length);
            Check.due("end(length) of " + length, s.end(length), true);
            Check.due("end(0) of " + length, s.end(0), true);
            Check.due("none then", s.count(3), 0);
        }
    }

    private static void faultOfNothing() {
        Check.due("FAULT of a new object", new StormParting().fault(), 0);
        StormParting s = new StormParting();
        Check.feed(s, "h 5");
        s.end(0);
        Check.due("FAULT of an empty tape", s.fault(), 0);
    }

    /** 'FAULT: the first byte at which no COVER can go on': all 255 bytes behind each kind of beginning. */
    private static void eachByteInEachPlace() {
        for (char b = 1; b < 256; b++) {
            boolean blank = b == ' ';
            boolean digit = b >= '0' && b <= '9';
            boolean letter = "rcogaunbp".indexOf(b) >= 0;
            due("" + b, blank || b == 'h' ? 1 : 0);
            due(" " + b, blank || b == 'h' ? 2 : 1);
            due("h" + b, blank ? 2 : 1);
            due("h " + b, blank ? 3 : digit && b != '0' ? Check.NONE : 2);
            due("h 5" + b, blank || digit ? Check.NONE : b == ';' ? 4 : 3);
            due("h 55" + b, blank ? Check.NONE : b == ';' ? 5 : 4);
            due("h 5 " + b, blank ? Check.NONE : b == ';' ? 5 : 4);
            due("h 5;" + b, blank || letter ? 5 : 4);
            due("h 5; " + b, blank || letter ? 6 : 5);
            due("h 5;p" + b, blank ? 6 : 5);
            due("h 5;p " + b, blank ? 7 : digit ? Check.NONE : 6);
            due("h 5;p 0" + b, blank || digit ? Check.NONE : b == ';' ? 8 : 7);
            due("h 5;p 99" + b, blank ? Check.NONE : b == ';' ? 9 : 8);
        }
    }

    /** '(the length, if it ends too early)' */
    private static void theLengthIfItEndsTooEarly() {
        String[] early = {"", " ", "    ", "h", " h", "h ", "h    ", "h 5;", "h 5 ;", "h 5;  ", "h 5;a", "h 5;a ", "h 5;a   ",
            "h 5;a 5;", "h 5;a 5 ; ", "h 5;a 5;n", "h 5;a 5;n "};
        for (String text : early) {
            due(text, text.length());
        }
        String longest = "h 1" + ";a 1".repeat(29);
        due(longest, Check.NONE);
        due(longest + ";", 120);
        due(longest.substring(0, 118), 118);
        due(longest.substring(0, 117), 117);
        due(longest.substring(0, 116), 116);
        due(longest.substring(0, 115), Check.NONE);
    }

    /** 'first h H' */
    private static void firstH() {
        for (int what = 1; what < 10; what++) {
            due(LETTERS.charAt(what) + " 1", 0);
            due("  " + LETTERS.charAt(what) + " 1;h 1", 2);
        }
        due("h 1", Check.NONE);
    }

    /** 'a second h are such' */
    private static void aSecondH() {
        due("h 1;h 1", 4);
        due("h 1;h", 4);
        due("h 1 ;  h 2", 7);
        due("h 1;r 1;h 2", 8);
    }

    private static String withH(int what) {
        return what == 0 ? "" : "h 7;";
    }

    /** 'Numbers of one or two digits': each letter with its bounds, the least and the greatest, with a 0 ahead too. */
    private static void numbersOfOneOrTwoDigits() {
        for (int what = 0; what < 10; what++) {
            String ahead = withH(what) + LETTERS.charAt(what) + " ";
            for (int number = LEAST[what]; number <= GREATEST[what]; number++) {
                due(ahead + number, Check.NONE);
                Check.due(ahead + number + " as word", wordOf(ahead + number, what), number);
                if (number < 10) {
                    due(ahead + "0" + number, Check.NONE);
                    Check.due(ahead + "0" + number + " as word", wordOf(ahead + "0" + number, what), number);
                }
            }
        }
    }

    /** '(one out of bounds is wrong at its last digit)' */
    private static void outOfBoundsAtTheLastDigit() {
        for (int what = 0; what < 10; what++) {
            String ahead = withH(what) + LETTERS.charAt(what) + " ";
            for (int number = 0; number <= 99; number++) {
                if (number >= LEAST[what] && number <= GREATEST[what]) {
                    continue;
                }
                String told = ahead + number;
                for (String behind : new String[] {"", " ", ";", ";a 1", "x", " 1"}) {
                    due(told + behind, told.length() - 1);
                }
                if (number < 10) {
                    due(ahead + "0" + number, ahead.length() + 1);
                    due(ahead + "0" + number + ";", ahead.length() + 1);
                }
            }
        }
    }

    /** 'a third digit ... are such' */
    private static void aThirdDigit() {
        for (int what = 0; what < 10; what++) {
            String ahead = withH(what) + LETTERS.charAt(what) + " ";
            for (int digit = 0; digit < 10; digit++) {
                due(ahead + "01" + digit, ahead.length() + 2);
                due(ahead + "01" + digit + ";a 1", ahead.length() + 2);
            }
        }
        due("h 100", 4);
        due("h 999", 4);
        due("h 1000", 4);
        due("h 001", 3);
        due("h 000", 3);
    }

    /** 'blanks (32), one or more, ahead of each number' */
    private static void blanksAheadOfANumber() {
        for (int what = 0; what < 10; what++) {
            String ahead = withH(what) + LETTERS.charAt(what);
            due(ahead + "1", ahead.length());
            for (int blanks = 1; blanks < 40; blanks += 6) {
                due(ahead + " ".repeat(blanks) + "1", Check.NONE);
                Check.due("behind " + blanks, wordOf(ahead + " ".repeat(blanks) + "1", what), 1);
            }
            due(ahead + "\t1", ahead.length());
            due(ahead + " \t1", ahead.length() + 1);
            due(ahead + "\n1", ahead.length());
            due(ahead + (char) 160 + "1", ahead.length());
        }
        due("h 1 2", 4);
        due("h 1  2", 5);
    }

    /** 'and as many as one likes ahead of a letter, of a ; and of the end' */
    private static void blanksElsewhere() {
        for (int blanks = 0; blanks < 20; blanks++) {
            String some = " ".repeat(blanks);
            due(some + "h 5", Check.NONE);
            due("h 5" + some, Check.NONE);
            due("h 5" + some + ";a 1", Check.NONE);
            due("h 5;" + some + "a 1", Check.NONE);
            due(some + "h 5" + some + ";" + some + "a 1" + some + ";" + some + "u 2" + some, Check.NONE);
            due("h 5" + some + ";" + some + ";a 1", 4 + 2 * blanks);
            due("h 5;" + some, 4 + blanks);
        }
    }

    /** 'not asked at first', '0 at first', '99 at first', '9 at first' */
    private static void whatItIsAtFirst() {
        for (int what = 1; what < 10; what++) {
            Check.due("word " + what + " at first", wordOf("h 7", what), AT_FIRST[what]);
            for (int told = 1; told < 10; told++) {
                String text = "h 7;" + LETTERS.charAt(told) + " 1";
                Check.due("word " + what + " with '" + text + "'", wordOf(text, what), told == what ? 1 : AT_FIRST[what]);
            }
        }
        StormParting s = new StormParting();
        Check.cover(s, "h 2;r 3;c 1;o 1;g 4;a 5;u 6;n 7;b 8;p 9");
        Check.cover(s, "h 7");
        for (int what = 0; what < 10; what++) {
            Check.due("not as in the cover ahead: " + what, Twins.word(s, 1, what), AT_FIRST[what]);
        }
    }

    /** 'the latest counts' */
    private static void theLatestCounts() {
        for (int what = 1; what < 10; what++) {
            char letter = LETTERS.charAt(what);
            int low = LEAST[what];
            int high = GREATEST[what];
            String up = "h 7;" + letter + " " + low + ";" + letter + " " + high;
            String down = "h 7;" + letter + " " + high + ";" + letter + " " + low;
            Check.due(up, wordOf(up, what), high);
            Check.due(down, wordOf(down, what), low);
            Check.due(up + " and down", wordOf(up + ";" + letter + " " + low, what), low);
        }
    }

    private static void theFirstFaultCounts() {
        due("h 0;a", 2);
        due("h 5;c 9;n 0", 6);
        due("h 5;n 0;x", 6);
        due("h 5;x;n 0", 4);
    }

    /** 'The TAPE (empty then) is a COVER: its number.' */
    private static void theTapeIsEmptyThen() {
        StormParting s = new StormParting();
        for (int i = 0; i < 6; i++) {
            Check.feed(s, "h 1" + i);
            Check.due("its number", s.cover(), i);
            Check.due("empty then", s.count(3), 0);
            Check.due("nothing is told then", s.fault(), 0);
            Check.due("covers", s.count(0), i + 1);
        }
    }

    /** 'NONE: a FAULT' */
    private static void noneOfAFault() {
        String[] texts = {"", "h", "h 0", "h 5;", "h 5;u 0", "h 5;a 7;h 5", "h 100", "x"};
        for (String text : texts) {
            Twins.refused("cover of '" + text + "'", s -> Check.feed(s, text), s -> s.cover());
            Twins.refused("a second cover of '" + text + "'", s -> {
                Check.cover(s, "h 9;a 4");
                Check.feed(s, text);
            }, s -> s.cover());
        }
    }

    private static void six(StormParting s) {
        for (int i = 0; i < 6; i++) {
            Check.cover(s, "h " + (11 + i));
        }
    }

    /** 'COVERS (6 at most)', 'there are six' */
    private static void sixAtMost() {
        StormParting s = new StormParting();
        six(s);
        Check.due("six", s.count(0), 6);
        Twins.refused("a seventh", t -> {
            six(t);
            Check.feed(t, "h 50;a 3");
        }, t -> t.cover());
        Twins.refused("a seventh of nothing", t -> six(t), t -> t.cover());
        Check.feed(s, "h 50");
        Check.due("a well told text has no FAULT, though there are six", s.fault(), Check.NONE);
        Check.due("feed goes on", s.feed(0x20000000, 0, 0, 0, 0), 5);
    }

    /** 'NoSuchElementException: no such ones.' */
    private static void wordOfNoSuchOnes() {
        for (int covers = 0; covers <= 6; covers++) {
            int made = covers;
            Twins.Making making = s -> {
                for (int i = 0; i < made; i++) {
                    Check.cover(s, "h " + (i + 1));
                }
            };
            for (int cover : Check.outside(0, covers - 1)) {
                Twins.refused("word(" + cover + ", 0) of " + covers, making, s -> Twins.word(s, cover, 0), Check.HIDDEN);
            }
            for (int what : Check.outside(0, 9)) {
                Twins.refused("word(0, " + what + ") of " + covers, making, s -> Twins.word(s, 0, what), Check.HIDDEN);
            }
            StormParting s = new StormParting();
            making.tell(s);
            for (int i = 0; i < covers; i++) {
                Check.due("HOURS of " + i, Twins.word(s, i, 0), i + 1);
                Check.due("AGAIN of " + i, Twins.word(s, i, 9), 0);
            }
        }
    }

    /** fault asks alone: what it has read so far becomes part of no cover. */
    private static void aFaultIsOnlyAsked() {
        Twins.asks("fault()", s -> {
            Check.cover(s, "h 9;a 4");
            Check.feed(s, "h 50;a 7;u 3;x");
        }, s -> s.fault());
    }
}
