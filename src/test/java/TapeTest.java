/** Promises 2 to 6: feed, end, fault, cover, word. */
public final class TapeTest {
    public static void main(String[] args) {
        feed();
        end();
        faults();
        numbersOutOfBounds();
        covers();
        words();
        Check.end();
    }

    private static void feed() {
        StormParting s = new StormParting();
        Check.due("feed of nothing", s.feed(0, 0, 0, 0, 0), 0);
        Check.due("bytes of 0 are left out", s.feed(0x68000020, 0, 0x00390000, 0, 0), 3);
        Check.due("they stand in their order", s.fault(), Check.NONE);
        Check.due("the last number comes last", s.feed(0, 0, 0, 0, 0x3b), 4);
        Check.due("highest first", s.feed(0x61002000, 0, 0, 0, 5 + '0'), 7);
        Check.due("h 9;a 5", s.cover(), 0);
        Check.dueWord(s, 0, 5, "5");
        int full = 0x20202020;
        for (int i = 1; i <= 5; i++) {
            Check.due("feed " + i, s.feed(full, full, full, full, full), 20 * i);
        }
        Check.due("feed to 119", s.feed(full, full, full, full, 0x20200020), 119);
        Check.due("121 are too many", s.feed(0x20000000, 0, 0, 0, 0x20), Check.NONE);
        Check.due("nothing came", s.count(3), 119);
        Check.due("120 are well", s.feed(0, 0, 0x2000, 0, 0), 120);
        Check.due("none more is well", s.feed(0, 0, 0, 0, 0), 120);
        Check.due("one more is not", s.feed(0, 0, 0, 0, 1), Check.NONE);
        StormParting t = new StormParting();
        Check.due("a byte above 127 is one", t.feed(0xff000000, 0, 0, 0, 0x80), 2);
        Check.due("and a fault", t.fault(), 0);
    }

    private static void end() {
        StormParting s = new StormParting();
        Check.due("end(0) of nothing", s.end(0), true);
        Check.due("end(1) of nothing", s.end(1), false);
        Check.due("end(-1)", s.end(-1), false);
        Check.feed(s, "h 12");
        Check.due("end(5)", s.end(5), false);
        Check.due("still four", s.count(3), 4);
        Check.due("end(4)", s.end(4), true);
        Check.due("end(3)", s.end(3), true);
        Check.due("now three", s.count(3), 3);
        Check.due("h 1", s.cover(), 0);
        Check.dueWord(s, 0, 0, "1");
        Check.due("empty then", s.count(3), 0);
        Check.due("end(min)", s.end(Integer.MIN_VALUE), false);
        Check.due("end(max)", s.end(Integer.MAX_VALUE), false);
    }

    private static void fault(String text, int want) {
        StormParting s = new StormParting();
        Check.feed(s, text);
        Check.due("fault of '" + text + "'", s.fault(), want);
        Check.due("fault again of '" + text + "'", s.fault(), want);
        Check.due("the tape stays with '" + text + "'", s.count(3), text.length());
        int cover = s.cover();
        Check.due("cover of '" + text + "'", cover, want == Check.NONE ? 0 : Check.NONE);
        Check.due("bytes after '" + text + "'", s.count(3), want == Check.NONE ? 0 : text.length());
    }

    private static void faults() {
        fault("", 0);
        fault("   ", 3);
        fault("h", 1);
        fault("h ", 2);
        fault("h   ", 4);
        fault("h5", 1);
        fault("h;", 1);
        fault("h ;", 2);
        fault("h x", 2);
        fault("h 5", Check.NONE);
        fault("  h   05  ", Check.NONE);
        fault("h 5;", 4);
        fault("h 5;  ", 6);
        fault("h 5;;", 4);
        fault("h 5 ; ;", 6);
        fault("h 5 6", 4);
        fault("h 5 a", 4);
        fault("h 5a 1", 3);
        fault("h 100", 4);
        fault("h 1000", 4);
        fault("a 5;h 5", 0);
        fault("5", 0);
        fault(";", 0);
        fault("H 5", 0);
        fault("h 5;A 5", 4);
        fault("h 5;h 5", 4);
        fault("h 5;a 5;h 5", 8);
        fault("h 5;q 5", 4);
        fault("h 5;r", 5);
        fault("h 5;r5", 5);
        fault("h 5;r 5", Check.NONE);
        fault("h 5;r 5.", 7);
        fault("h -5", 2);
        fault("h\t5", 1);
        fault("h 5;r 5;r 6;r 7;a 1;a 2", Check.NONE);
        fault("h 5 ;  r   5 ;c 1; o  0 ;g 00;a 0;u 1;n 9;b 99;p 99   ", Check.NONE);
        fault("h 5" + (char) 233, 3);
    }

    private static void numbersOutOfBounds() {
        fault("h 0", 2);
        fault("h 00", 3);
        fault("h 0;", 2);
        fault("h 0x", 2);
        fault("h 01", Check.NONE);
        fault("h 99", Check.NONE);
        String[] fromZeroTo99 = {"r", "g", "a", "b", "p"};
        for (String letter : fromZeroTo99) {
            fault("h 1;" + letter + " 0", Check.NONE);
            fault("h 1;" + letter + " 99", Check.NONE);
            fault("h 1;" + letter + " 990", 8);
        }
        String[] flags = {"c", "o"};
        for (String letter : flags) {
            fault("h 1;" + letter + " 0", Check.NONE);
            fault("h 1;" + letter + " 1", Check.NONE);
            fault("h 1;" + letter + " 01", Check.NONE);
            fault("h 1;" + letter + " 2", 6);
            fault("h 1;" + letter + " 02", 7);
            fault("h 1;" + letter + " 10", 7);
            fault("h 1;" + letter + " 20", 7);
            fault("h 1;" + letter + " 100", 7);
            fault("h 1;" + letter + " 010", 8);
        }
        fault("h 1;u 0", 6);
        fault("h 1;u 1", Check.NONE);
        fault("h 1;u 99", Check.NONE);
        fault("h 1;n 0", 6);
        fault("h 1;n 1", Check.NONE);
        fault("h 1;n 9", Check.NONE);
        fault("h 1;n 09", Check.NONE);
        fault("h 1;n 10", 7);
    }

    private static void covers() {
        StormParting s = new StormParting();
        for (int i = 0; i < 6; i++) {
            Check.due("cover " + i, Check.cover(s, "h " + (i + 1)), i);
        }
        Check.due("a seventh", Check.cover(s, "h 7"), Check.NONE);
        Check.due("its tape stays", s.count(3), 3);
        Check.due("six covers", s.count(0), 6);
        for (int i = 0; i < 6; i++) {
            Check.dueWord(s, i, 0, Integer.toString(i + 1));
        }
        StormParting t = new StormParting();
        Check.due("a fault", Check.cover(t, "h 5;a 3;u 0"), Check.NONE);
        Check.due("no cover", t.count(0), 0);
        Check.due("the next is 0", Check.cover(t, "h 5"), 0);
        Check.dueWord(t, 0, 5, "0");
    }

    private static void words() {
        StormParting s = new StormParting();
        Check.cover(s, "h 1");
        Check.cover(s, "h 2;r 3;c 1;o 1;g 4;a 5;u 6;n 7;b 8;p 9");
        Check.cover(s, "h 2;r 3;r 0;c 1;c 0;o 1;o 0;a 7;a 9;u 5;u 99");
        int[][] want = {{1, -1, 0, 0, 0, 0, 99, 9, 0, 0}, {2, 3, 1, 1, 4, 5, 6, 7, 8, 9}, {2, 0, 0, 0, 0, 9, 99, 9, 0, 0}};
        for (int cover = 0; cover < want.length; cover++) {
            for (int what = 0; what < 10; what++) {
                Check.dueWord(s, cover, what, Integer.toString(want[cover][what]));
            }
        }
        int[][] wrong = {{-1, 0}, {3, 0}, {0, -1}, {0, 10}, {Integer.MAX_VALUE, 0}, {0, Integer.MIN_VALUE}};
        for (int[] w : wrong) {
            Check.dueWord(s, w[0], w[1], "NoSuchElementException");
        }
        Check.cover(s, "h 50;a");
        Check.feed(s, " 7");
        s.fault();
        Check.dueWord(s, 0, 0, "1");
        Check.dueWord(s, 2, 5, "9");
    }
}
