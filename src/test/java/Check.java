import java.util.NoSuchElementException;

/** What all tests share: answers held against those that are due, and covers told as texts. */
final class Check {
    static final int NONE = -1;
    static final int HIDDEN = -100000000;
    private static int answers = 0;
    private static int wrong = 0;

    private Check() { }

    static void due(String call, long got, long want) {
        answers++;
        if (got != want) {
            wrong++;
            if (wrong <= 50) {
                System.out.println(call + " answered " + got + ", due is " + want);
            }
        }
    }

    static void due(String call, boolean got, boolean want) {
        due(call, got ? 1 : 0, want ? 1 : 0);
    }

    static void due(String call, java.util.Set<String> got, java.util.Set<String> want) {
        due(call, got.equals(want), true);
    }

    static void end() {
        System.out.println(answers + " answers, " + wrong + " not as due");
        if (wrong != 0 || answers == 0) {
            System.exit(1);
        }
    }

    /** The five numbers that tell a text of at most twenty bytes. */
    static int[] numbers(String text) {
        int[] numbers = new int[5];
        for (int i = 0; i < text.length() && i < 20; i++) {
            numbers[i / 4] |= text.charAt(i) << (24 - 8 * (i % 4));
        }
        return numbers;
    }

    static int feed(StormParting s, String text) {
        int answer = s.count(3);
        for (int i = 0; i < text.length(); i += 20) {
            int[] n = numbers(text.substring(i, Math.min(text.length(), i + 20)));
            answer = s.feed(n[0], n[1], n[2], n[3], n[4]);
        }
        return answer;
    }

    static int cover(StormParting s, String text) {
        s.end(0);
        feed(s, text);
        return s.cover();
    }

    /** A loss with its hour told, at one place, of one cause. */
    static int loss(StormParting s, int sum, int hour) {
        return s.loss(sum, hour, 0, 0, 0, 1);
    }

    static String word(StormParting s, int cover, int what) {
        try {
            return Integer.toString(s.word(cover, what));
        } catch (NoSuchElementException e) {
            return "NoSuchElementException";
        }
    }

    static void dueWord(StormParting s, int cover, int what, String want) {
        String got = word(s, cover, what);
        due("word(" + cover + ", " + what + ") [" + got + ", due " + want + "]", got.equals(want), true);
    }

    /** Numbers out of low .. high: the first on each side, the ends of int, and some that are as low in fewer bits. */
    static int[] outside(int low, int high) {
        int[] some = {low - 1, high + 1, low - 2, high + 2, Integer.MIN_VALUE, Integer.MIN_VALUE + 1, Integer.MAX_VALUE - 1,
            Integer.MAX_VALUE, low + 32, low + 64, low + 256, low + 65536, low + (1 << 30), low - 32, low - 256, -low, -high,
            HIDDEN, ~low, ~high, low + 1000, 1 << 31 | high};
        return java.util.Arrays.stream(some).filter(n -> n < low || n > high).distinct().toArray();
    }
}
