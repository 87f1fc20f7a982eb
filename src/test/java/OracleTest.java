import java.util.NoSuchElementException;
import java.util.Random;

/**
 * Runs of calls, drawn by fixed seeds, on StormParting and on Plain: both answer alike.
 * A run stays below 512 calls, for what later ones answer is free.
 */
public final class OracleTest {
    private static final String LETTERS = "rcogaunbp";
    private final Random random;
    private final String name;
    private final StormParting s = new StormParting();
    private final Plain p = new Plain();
    private final int mostLosses;
    private final int lastHour;
    /** All places taken, and numbers from the whole of their bounds. */
    private final boolean wide;

    private OracleTest(long seed, int mostLosses) {
        random = new Random(seed);
        name = "seed " + seed + ": ";
        this.mostLosses = mostLosses;
        wide = mostLosses == 12;
        int wideHour = new int[] {30, 99, 250, 999}[random.nextInt(4)];
        lastHour = wide ? wideHour : random.nextInt(3) == 0 ? 60 : 16;
    }

    public static void main(String[] args) {
        int runs = args.length > 0 ? Integer.parseInt(args[0]) : 500;
        for (int seed = 1; seed <= runs; seed++) {
            new OracleTest(seed, 6).run(200);
        }
        for (int seed = 1; seed <= runs / 25; seed++) {
            new OracleTest(-seed, 9).run(60);
            new OracleTest(-1000000L - seed, 12).run(100);
        }
        for (int seed = 1; seed <= 20000; seed++) {
            new OracleTest(1000000L + seed, 0).tapeRun();
        }
        Check.end();
    }

    private void run(int calls) {
        if (mostLosses > 6) {
            for (int i = 0; i < mostLosses; i++) {
                newLoss();
            }
        }
        for (int i = 0; i < calls; i++) {
            if (random.nextInt(4) == 0) {
                tell();
            } else {
                ask();
            }
        }
    }

    private void due(String call, long got, long want) {
        Check.due(name + call, got, want);
    }

    private void due(String call, boolean got, boolean want) {
        Check.due(name + call, got, want);
    }

    /** Mostly within the bounds, now and then out of them. */
    private int some(int low, int high) {
        int draw = random.nextInt(60);
        if (draw == 0) {
            return random.nextInt();
        }
        if (draw < 3) {
            return draw == 1 ? low - 1 : high + 1;
        }
        return low + random.nextInt(Math.max(1, high - low + 1));
    }

    private int someCover() {
        return some(0, p.count(0) - 1);
    }

    private int someLoss() {
        return some(0, p.count(1) - 1);
    }

    private int someSet() {
        int all = (1 << p.count(1)) - 1;
        return random.nextInt(3) == 0 ? all : some(0, all);
    }

    private void feed(String text) {
        for (int i = 0; i < text.length(); i += 20) {
            int[] n = Check.numbers(text.substring(i, Math.min(text.length(), i + 20)));
            due("feed '" + text + "'", s.feed(n[0], n[1], n[2], n[3], n[4]), p.feed(n[0], n[1], n[2], n[3], n[4]));
        }
    }

    private String blanks(int least) {
        int n = least + (random.nextInt(4) == 0 ? random.nextInt(3) : 0);
        return " ".repeat(n);
    }

    private int highOf(char letter) {
        if (wide && random.nextBoolean()) {
            return letter == 'c' || letter == 'o' ? 1 : letter == 'n' ? 9 : 99;
        }
        return letter == 'c' || letter == 'o' ? 1 : letter == 'n' ? 3 : letter == 'r' ? 9 : letter == 'g' ? 4
            : letter == 'a' ? 20 : letter == 'u' ? 40 : 99;
    }

    private String coverText() {
        StringBuilder text = new StringBuilder(blanks(0)).append('h').append(blanks(1));
        text.append(1 + random.nextInt(Math.min(99, lastHour)));
        for (int k = random.nextInt(7); k > 0; k--) {
            char letter = LETTERS.charAt(random.nextInt(LETTERS.length()));
            int value = random.nextInt(highOf(letter) + 1);
            value = value == 0 && (letter == 'u' || letter == 'n') ? 1 : value;
            text.append(blanks(0)).append(';').append(blanks(0)).append(letter).append(blanks(1));
            text.append(value < 10 && random.nextInt(5) == 0 ? "0" : "").append(value);
        }
        return text.append(blanks(0)).toString();
    }

    private String spoiled(String text) {
        StringBuilder spoiled = new StringBuilder(text);
        String signs = "hrcogaunbp;;  0123456789x" + (char) 233;
        for (int k = random.nextInt(3); k >= 0; k--) {
            int at = random.nextInt(spoiled.length() + 1);
            char sign = signs.charAt(random.nextInt(signs.length()));
            int how = random.nextInt(3);
            if (how == 0 || at == spoiled.length()) {
                spoiled.insert(at, sign);
            } else if (how == 1) {
                spoiled.setCharAt(at, sign);
            } else {
                spoiled.deleteCharAt(at);
            }
        }
        return spoiled.toString();
    }

    private void tapeRun() {
        String text = spoiled(coverText());
        feed(text);
        due("fault of '" + text + "'", s.fault(), p.fault());
        due("cover of '" + text + "'", s.cover(), p.cover());
        for (int what = 0; what < 10; what++) {
            word(0, what);
        }
        due("count(3)", s.count(3), p.count(3));
    }

    private void word(int cover, int what) {
        int got;
        try {
            got = s.word(cover, what);
        } catch (NoSuchElementException e) {
            got = Plain.HIDDEN;
        }
        due("word(" + cover + ", " + what + ")", got, p.word(cover, what));
    }

    private void newLoss() {
        int sum = random.nextInt(4) == 0 ? some(1, 99) : some(1, 20);
        int hour = some(0, lastHour);
        int later = random.nextInt(3) == 0 ? some(0, wide ? 99 : 8) : 0;
        int far = wide && random.nextInt(3) == 0 ? 99 : 8;
        int x = some(0, far);
        int y = some(0, far);
        int causes = random.nextInt(2) == 0 ? some(1, 7) : some(1, 63);
        due("loss", s.loss(sum, hour, later, x, y, causes), p.loss(sum, hour, later, x, y, causes));
    }

    private void tell() {
        int kind = random.nextInt(6);
        if (kind == 0 && p.count(0) < 6 || p.count(0) == 0) {
            due("end(0)", s.end(0), p.end(0));
            feed(random.nextInt(5) == 0 ? spoiled(coverText()) : coverText());
            due("fault", s.fault(), p.fault());
            due("cover", s.cover(), p.cover());
        } else if (kind == 1 || p.count(1) == 0) {
            if (p.count(1) < mostLosses) {
                newLoss();
            }
        } else if (kind == 2) {
            int loss = someLoss();
            int number = random.nextInt(3) == 0 ? some(0, 15) : some(0, 3);
            due("put", s.put(loss, number), p.put(loss, number));
        } else if (kind == 3) {
            int set = someSet();
            int weight = some(1, 99);
            due("storm", s.storm(set, weight), p.storm(set, weight));
        } else if (kind == 4) {
            int loss = someLoss();
            int hour = some(0, lastHour);
            int sum = some(1, 30);
            due("mend", s.mend(loss, hour, sum), p.mend(loss, hour, sum));
        } else {
            int n = some(0, p.count(3));
            due("end", s.end(n), p.end(n));
            feed(spoiled(coverText()));
        }
    }

    private void ask() {
        int kind = random.nextInt(mostLosses > 6 && random.nextInt(20) != 0 ? 19 : 20);
        int cover = someCover();
        int other = someCover();
        int set = someSet();
        int loss = someLoss();
        if (kind == 11 && wide && p.later(loss) > 20 + random.nextInt(200)) {
            return;
        }
        boolean flag = random.nextBoolean();
        int what;
        switch (kind) {
            case 0: word(cover, some(0, 9)); break;
            case 1: due("may", s.may(cover, set), p.may(cover, set)); break;
            case 2: due("paid", s.paid(cover, set), p.paid(cover, set)); break;
            case 3: case 4: due("judge", s.judge(cover), p.judge(cover)); break;
            case 5: case 6: what = some(0, 3); due("brings " + what, s.brings(cover, what), p.brings(cover, what)); break;
            case 7: what = some(0, lastHour); due("year", s.year(loss, what, flag), p.year(loss, what, flag)); break;
            case 8: case 9: what = some(0, 3); due("most " + what, s.most(cover, set, what), p.most(cover, set, what)); break;
            case 10: what = some(0, 1); due("net " + what, s.net(cover, set, what), p.net(cover, set, what)); break;
            case 11: what = some(0, 1); due("ends " + what, s.ends(cover, loss, what), p.ends(cover, loss, what)); break;
            case 12: due("hangs", s.hangs(cover), p.hangs(cover)); break;
            case 13: what = some(0, 5); due("told " + what, s.told(cover, loss, what), p.told(cover, loss, what)); break;
            case 14: what = some(1, (1 << p.count(0)) - 1); due("layers", s.layers(what, flag), p.layers(what, flag)); break;
            case 15: what = some(1, (1 << p.count(0)) - 1); due("one", s.layers(what, true), p.layers(what, true)); break;
            case 16: what = some(0, 2); due("mean " + what, s.mean(cover, what), p.mean(cover, what)); break;
            case 17: what = some(0, 2); due("game " + what, s.game(cover, other, what), p.game(cover, other, what)); break;
            case 18: what = some(0, 3); due("count " + what, s.count(what), p.count(what)); break;
            default: what = some(0, 1); due("nearest " + what, s.nearest(cover, what), p.nearest(cover, what)); break;
        }
    }
}
