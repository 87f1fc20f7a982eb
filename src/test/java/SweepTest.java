/**
 * Every call with arguments from everywhere, on an object at each fullness: nothing is thrown but by word,
 * what only asks adds nothing, and no call makes what would fill the room. No object gets more than 512 calls.
 */
public final class SweepTest {
    private static final int[] ANY = {Integer.MIN_VALUE, -100000000, -1, 0, 1, 2, 3, 5, 6, 11, 12, 15, 16, 31, 32, 33, 63, 64,
        255, 256, 511, 999, 1000, 4095, 4096, 1 << 30, Integer.MAX_VALUE};

    public static void main(String[] args) {
        for (int losses = 0; losses <= 12; losses++) {
            for (int covers = 0; covers <= 6; covers += losses == 12 ? 1 : 3) {
                for (int a : ANY) {
                    for (int b : ANY) {
                        ask(made(losses, covers), a, b);
                        tell(made(losses, covers), a, b);
                    }
                }
            }
        }
        fullTapes();
        twelveTogether();
        calledOften();
        all512Calls();
        Check.end();
    }

    private static StormParting made(int losses, int covers) {
        StormParting s = new StormParting();
        String[] texts = {"h 99", "h 9;a 5;n 2", "h 99;o 1;a 5;n 2;b 9;p 9", "h 20;c 1;g 3", "h 30;r 9;o 1", "h 99;u 9;p 99"};
        for (int i = 0; i < covers; i++) {
            Check.cover(s, texts[i]);
        }
        for (int i = 0; i < losses; i++) {
            s.loss(99 - i, i == 11 ? 999 : 7 * i, i == 11 ? 0 : 3, i, i, 63 - i);
            s.put(i, i);
            s.storm((1 << i) - 1, 99);
        }
        for (int i = 0; i < 6; i++) {
            Check.feed(s, "                    ");
        }
        return s;
    }

    /** Nothing is thrown but by word; how many there are stays as it was. */
    private static void ask(StormParting s, int a, int b) {
        int before = counts(s);
        Check.word(s, a, b);
        s.may(a, b);
        s.paid(a, b);
        s.judge(a);
        s.hangs(a);
        s.brings(a, b);
        s.year(a, b, true);
        s.year(a, b, false);
        s.layers(b, true);
        s.layers(b, false);
        s.nearest(a, b);
        s.mean(a, b);
        for (int c : ANY) {
            s.most(a, b, c);
            s.net(a, b, c);
            s.told(a, b, c);
            if (c < 2 || b < 4) {
                s.ends(a, b, c);
                s.game(a, b, c);
            }
        }
        Check.due("how many there are, after asking " + a + ", " + b, counts(s), before);
    }

    /** Nothing is thrown, whatever is told. */
    private static void tell(StormParting s, int a, int b) {
        s.put(a, b);
        s.storm(a, b);
        s.loss(b, a, 0, 0, 0, 1);
        s.loss(1, 0, a, b, 0, 1);
        s.loss(1, 0, 0, 0, a, b);
        for (int c : ANY) {
            s.mend(a, b, c);
        }
        s.feed(a, b, a, b, a);
        s.fault();
        s.cover();
        s.end(a);
        s.feed(b, a, b, a, b);
        s.cover();
        s.judge(0);
        s.ends(0, 0, 1);
        s.game(0, 1, 1);
        Check.due("bytes after " + a + ", " + b, s.count(3) >= 0 && s.count(3) <= 120, true);
    }

    private static int counts(StormParting s) {
        return s.count(0) + 7 * s.count(1) + 100 * s.count(2) + 2000 * s.count(3);
    }

    private static void fullTapes() {
        StormParting s = made(12, 6);
        for (int k = 0; k < 5; k++) {
            s.end(0);
            int[] n = new int[5];
            n[k] = 0x20202020;
            for (int i = 1; i <= 30; i++) {
                Check.due("four more in number " + k, s.feed(n[0], n[1], n[2], n[3], n[4]), 4 * i);
            }
            Check.due("no more in number " + k, s.feed(n[0], n[1], n[2], n[3], n[4]), Check.NONE);
        }
        StringBuilder longest = new StringBuilder("h 1");
        for (int i = 0; i < 29; i++) {
            longest.append(";a ").append(i % 10);
        }
        s.end(0);
        Check.feed(s, longest.toString());
        Check.due("119 bytes of statements", s.fault(), Check.NONE);
        Check.feed(s, ";");
        Check.due("ends too early at 120", s.fault(), 120);
        s.end(119);
        Check.feed(s, "7");
        Check.due("a last digit at 120", s.fault(), Check.NONE);
        s.end(118);
        Check.feed(s, "  ");
        Check.due("no number at 120", s.fault(), 120);
    }

    /** Twelve losses and six covers at once, with answers that can be told by hand. */
    private static void twelveTogether() {
        StormParting s = new StormParting();
        for (int i = 0; i < 6; i++) {
            Check.cover(s, "h 99;n 1;u " + (i + 1));
        }
        for (int i = 0; i < 12; i++) {
            Check.loss(s, 99, 988 + i);
        }
        Check.due("one is paid for by each, by one parting", s.layers(63, true), 2100);
        Check.due("and by their own", s.layers(63, false), 2100);
        Check.due("one happening is fewest", s.most(5, 4095, 2), 1);
        Check.due("all twelve", s.paid(5, 4095), 6);
        Check.due("the last hour counts", s.paid(5, 2048), 6);
        Check.due("game", s.game(0, 5, 1), 600);
        for (int i = 0; i < 12; i++) {
            s.put(i, i + 4);
        }
        Check.due("twelve happenings", s.brings(0, 2), 12);
        Check.due("one paid for", s.brings(0, 3), 1);
        for (int i = 0; i < 12; i++) {
            s.storm(4095, 99);
        }
        Check.due("mean of twelve", s.mean(5, 0), 12 * 99 * 600);
    }

    /** The room is one for all calls: the dearest calls make next to nothing. */
    private static void calledOften() {
        java.lang.management.ThreadMXBean bean = java.lang.management.ManagementFactory.getThreadMXBean();
        if (!(bean instanceof com.sun.management.ThreadMXBean)) {
            return;
        }
        com.sun.management.ThreadMXBean room = (com.sun.management.ThreadMXBean) bean;
        StormParting s = made(12, 6);
        long id = Thread.currentThread().getId();
        room.getThreadAllocatedBytes(id);
        long before = room.getThreadAllocatedBytes(id);
        for (int i = 0; i < 48; i++) {
            s.ends(0, i % 12, i % 2);
            s.nearest(i % 6, 0);
            s.layers(63, true);
            s.mean(i % 6, 0);
            s.game(0, 3, 2);
            s.judge(i % 6);
            s.brings(i % 6, 1);
            s.fault();
        }
        long made = room.getThreadAllocatedBytes(id) - before;
        Check.due("384 dear calls made " + made + " bytes", made < 100000, true);
    }

    /** 'An object is used for at most 512 calls': the last of them answers as the first does. */
    private static void all512Calls() {
        StormParting s = new StormParting();
        s.feed(0x68203900, 0, 0, 0, 0);
        s.cover();
        s.loss(10, 0, 0, 0, 0, 1);
        s.loss(10, 8, 0, 0, 0, 1);
        for (int call = 5; call <= 512; call++) {
            Check.due("call " + call, s.most(0, 3, call % 4), call % 4 < 2 ? 2000 : 1);
        }
    }
}
