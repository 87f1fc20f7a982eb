import java.util.ArrayList;
import java.util.List;
import java.util.NoSuchElementException;

/**
 * Two objects that are made by the same calls; one of them is refused a call; then both answer alike to all that can
 * be asked. An object gets less than 512 calls so, for what later ones answer is free.
 */
final class Twins {
    interface Making {
        void tell(StormParting s);
    }

    interface Call {
        long answer(StormParting s);
    }

    private Twins() { }

    /** The call answers want on an object that is made so, and leaves everything as it was. */
    static void refused(String name, Making making, Call call, long want) {
        StormParting one = new StormParting();
        StormParting other = new StormParting();
        making.tell(one);
        making.tell(other);
        Check.due(name, call.answer(other), want);
        alike(name + " changes nothing", one, other);
    }

    static void refused(String name, Making making, Call call) {
        refused(name, making, call, Check.NONE);
    }

    /** A call that only asks: its answer is free here, but it changes nothing. */
    static void asks(String name, Making making, Call call) {
        StormParting one = new StormParting();
        StormParting other = new StormParting();
        making.tell(one);
        making.tell(other);
        call.answer(other);
        alike(name + " changes nothing", one, other);
    }

    static void nothing(StormParting s) { }

    /** Three covers, five losses, a told parting, three storms, a text on the tape. */
    static void some(StormParting s) {
        Check.cover(s, "h 9;a 5;n 2");
        Check.cover(s, "h 20;o 1;c 1;u 30;p 7");
        Check.cover(s, "h 99;r 9;b 40");
        s.loss(20, 10, 9, 1, 1, 7);
        s.loss(9, 14, 0, 4, 5, 6);
        s.loss(33, 30, 3, 1, 2, 33);
        s.loss(7, 33, 0, 2, 2, 1);
        s.loss(50, 500, 99, 3, 3, 63);
        s.put(2, 4);
        s.put(3, 4);
        s.put(4, 15);
        s.storm(7, 3);
        s.storm(0, 99);
        s.storm(31, 1);
        Check.feed(s, "h 5;a 7");
    }

    /** All places taken: six covers, twelve losses, twelve storms, 120 bytes. */
    static void full(StormParting s) {
        String[] texts = {"h 9;a 5;n 2", "h 99;c 1;u 50;p 7", "h 50;r 9;b 40", "h 9;o 1", "h 30;g 2", "h 99;a 99"};
        for (String text : texts) {
            Check.cover(s, text);
        }
        for (int i = 0; i < 12; i++) {
            s.loss(99 - 7 * i, 80 * i + 9, i, i, i, 63 - i);
            s.put(i, i < 4 ? i : 15 - i);
            s.storm((1 << i) - 1, 1 + i);
        }
        Check.feed(s, "h 5;a 7" + " ".repeat(113));
    }

    private static void alike(String name, StormParting one, StormParting other) {
        List<String> before = picture(one);
        List<String> after = picture(other);
        String differs = "";
        for (int i = 0; i < before.size() && differs.isEmpty(); i++) {
            if (!before.get(i).equals(after.get(i))) {
                differs = " [" + before.get(i) + " became " + after.get(i) + "]";
            }
        }
        Check.due(name + differs, differs.isEmpty(), true);
    }

    /** word's exception as an answer that no word has. */
    static long word(StormParting s, int cover, int what) {
        try {
            return s.word(cover, what);
        } catch (NoSuchElementException e) {
            return Check.HIDDEN;
        }
    }

    private static List<String> picture(StormParting s) {
        List<String> seen = new ArrayList<>();
        for (int what = 0; what < 4; what++) {
            seen.add("count(" + what + ") = " + s.count(what));
        }
        seen.add("fault() = " + s.fault());
        int covers = s.count(0);
        int losses = s.count(1);
        int all = (1 << losses) - 1;
        for (int c = 0; c < covers; c++) {
            seeCover(s, c, all, seen);
        }
        for (int i = 0; i < losses; i++) {
            seen.add("paid(0, 1 << " + i + ") = " + s.paid(0, 1 << i));
            seen.add("ends(0, " + i + ", 0) = " + s.ends(0, i, 0));
            seen.add("ends(0, " + i + ", 1) = " + s.ends(0, i, 1));
            for (int cause = 0; cause < 6; cause++) {
                seen.add("told(1, " + i + ", " + cause + ") = " + s.told(1, i, cause));
            }
        }
        seen.add("layers own = " + s.layers((1 << covers) - 1, false));
        seen.add("layers one = " + s.layers((1 << covers) - 1, true));
        for (int what = 0; what < 3; what++) {
            seen.add("game(0, 1, " + what + ") = " + s.game(0, 1, what));
        }
        seeHours(s, losses, seen);
        seen.add("cover() = " + s.cover());
        seen.add("count(0) = " + s.count(0));
        for (int what = 0; what < 10; what++) {
            seen.add("word of the cover on the tape, " + what + " = " + word(s, s.count(0) - 1, what));
        }
        return seen;
    }

    private static void seeCover(StormParting s, int c, int all, List<String> seen) {
        for (int what = 0; what < 10; what++) {
            seen.add("word(" + c + ", " + what + ") = " + word(s, c, what));
        }
        for (int what = 0; what < 4; what++) {
            seen.add("brings(" + c + ", " + what + ") = " + s.brings(c, what));
        }
        seen.add("judge(" + c + ") = " + s.judge(c));
        seen.add("most(" + c + ") = " + s.most(c, all, 0));
        seen.add("least(" + c + ") = " + s.most(c, all, 1));
        seen.add("net(" + c + ") = " + s.net(c, all, 0));
        seen.add("hangs(" + c + ") = " + s.hangs(c));
        seen.add("nearest(" + c + ") = " + s.nearest(c, 0));
        for (int what = 0; what < 3; what++) {
            seen.add("mean(" + c + ", " + what + ") = " + s.mean(c, what));
        }
    }

    /** Each loss gets a happening of its own; the year's end at which the answer turns tells its hour. */
    private static void seeHours(StormParting s, int losses, List<String> seen) {
        for (int i = 0; i < losses; i++) {
            s.put(i, i);
        }
        for (int i = 0; i < losses; i++) {
            int low = 0;
            int high = 999;
            while (low < high) {
                int middle = (low + high + 1) / 2;
                if (s.year(i, middle, false) == 1) {
                    low = middle;
                } else {
                    high = middle - 1;
                }
            }
            seen.add("hour of " + i + " = " + low);
        }
    }
}
