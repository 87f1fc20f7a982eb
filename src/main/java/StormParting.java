import java.util.NoSuchElementException;

/** One storm or two: which losses are one happening, and what covers bring for them. */
public final class StormParting {
    public static final int NONE = -1;
    public static final int HIDDEN = -100000000;

    private static final int MOST_COVERS = 6;
    private static final int MOST_LOSSES = 12;
    private static final int MOST_STORMS = 12;
    private static final int MOST_NUMBER = 15;
    private static final int MOST_CAUSE = 5;
    private static final int LAST_HOUR = 999;
    private static final int TWO_DIGITS = 99;
    private static final int OVERLAPPING_LOSSES = 8;

    private static final int HOURS = 0;
    private static final int MILES = 1;
    private static final int CAUSES = 2;
    private static final int OVERLAP = 3;
    private static final int GAP = 4;
    private static final int ABOVE = 5;
    private static final int UP_TO = 6;
    private static final int OFTEN = 7;
    private static final int BORNE = 8;
    private static final int AGAIN = 9;
    private static final int WORDS = 10;

    private final Tape tape;
    private final Cover[] covers;
    private final Cover trial;
    private final Losses losses;
    private final ToldParting toldParting;
    private final Search search;
    private final int[] stormLosses;
    private final int[] stormWeights;
    private int coverCount;
    private int stormCount;

    public StormParting() {
        tape = new Tape();
        covers = new Cover[MOST_COVERS];
        for (int i = 0; i < MOST_COVERS; i++) {
            covers[i] = new Cover();
        }
        trial = new Cover();
        losses = new Losses();
        toldParting = new ToldParting(losses);
        search = new Search(losses);
        stormLosses = new int[MOST_STORMS];
        stormWeights = new int[MOST_STORMS];
        coverCount = 0;
        stormCount = 0;
    }

    public int feed(int a, int b, int c, int d, int e) {
        int more = Tape.bytesIn(a) + Tape.bytesIn(b) + Tape.bytesIn(c) + Tape.bytesIn(d) + Tape.bytesIn(e);
        if (tape.length + more > Tape.MOST_BYTES) {
            return NONE;
        }
        tape.append(a);
        tape.append(b);
        tape.append(c);
        tape.append(d);
        tape.append(e);
        return tape.length;
    }

    public boolean end(int n) {
        if (n < 0 || n > tape.length) {
            return false;
        }
        tape.length = n;
        return true;
    }

    public int fault() {
        return tape.readInto(trial);
    }

    public int cover() {
        if (coverCount >= MOST_COVERS || tape.readInto(trial) != NONE) {
            return NONE;
        }
        Cover made = covers[coverCount];
        if (made == null) {
            return NONE;
        }
        made.copyFrom(trial);
        tape.length = 0;
        coverCount++;
        return coverCount - 1;
    }

    public int word(int cover, int what) throws NoSuchElementException {
        Cover found = coverAt(cover);
        if (found == null || !isWithin(what, 0, WORDS - 1)) {
            throw new NoSuchElementException();
        }
        return found.words[what];
    }

    public int loss(int sum, int hour, int later, int x, int y, int causes) {
        boolean timeFits = isWithin(hour, 0, LAST_HOUR) && isWithin(later, 0, TWO_DIGITS) && hour + later <= LAST_HOUR;
        boolean placeFits = isWithin(x, 0, TWO_DIGITS) && isWithin(y, 0, TWO_DIGITS);
        boolean causesFit = isWithin(causes, 1, (1 << (MOST_CAUSE + 1)) - 1);
        if (losses.size >= MOST_LOSSES || !isWithin(sum, 1, TWO_DIGITS) || !timeFits || !placeFits || !causesFit) {
            return NONE;
        }
        int number = losses.size;
        losses.sums[number] = sum;
        losses.hours[number] = hour;
        losses.lastHours[number] = hour + later;
        losses.xs[number] = x;
        losses.ys[number] = y;
        losses.causes[number] = causes;
        losses.size = number + 1;
        return number;
    }

    public int may(int cover, int losses) {
        Cover found = coverAt(cover);
        if (found == null || losses == 0 || !this.losses.hasAll(losses)) {
            return NONE;
        }
        return this.losses.areOne(found, losses) ? 1 : 0;
    }

    public int paid(int cover, int losses) {
        Cover found = coverAt(cover);
        if (found == null || losses == 0 || !this.losses.hasAll(losses)) {
            return NONE;
        }
        return found.payFor(this.losses.sumOf(losses));
    }

    public boolean put(int loss, int number) {
        if (!losses.has(loss) || !isWithin(number, 0, MOST_NUMBER)) {
            return false;
        }
        toldParting.numbers[loss] = number;
        return true;
    }

    public int judge(int cover) {
        Cover found = coverAt(cover);
        return found == null ? NONE : toldParting.firstBar(found);
    }

    public int brings(int cover, int what) {
        Cover found = coverAt(cover);
        if (found == null || !isWithin(what, 0, 3) || toldParting.firstBar(found) != NONE) {
            return HIDDEN;
        }
        toldParting.reckon(found);
        if (what == 2) {
            return toldParting.happenings;
        }
        if (what == 3) {
            return toldParting.happeningsPaid;
        }
        int brought = found.bringFor(toldParting.paidInAll);
        return what == 0 ? brought : found.netOf(brought);
    }

    public int year(int loss, int e, boolean more) {
        if (!losses.has(loss) || !isWithin(e, 0, LAST_HOUR)) {
            return NONE;
        }
        int happening = toldParting.happeningOf(loss);
        if (!more) {
            return losses.leastHourOf(happening) < e ? 0 : 1;
        }
        int before = losses.sumBefore(happening, e);
        return before >= losses.sumOf(happening) - before ? 0 : 1;
    }

    public int most(int cover, int losses, int what) {
        Cover found = coverAt(cover);
        if (found == null || !isWithin(what, 0, 3) || !search.findFor(found, losses)) {
            return HIDDEN;
        }
        if (what == 0) {
            return search.greatest;
        }
        if (what == 1) {
            return search.least;
        }
        return what == 2 ? search.fewestForGreatest : search.fewestForLeast;
    }

    public int net(int cover, int losses, int what) {
        Cover found = coverAt(cover);
        if (found == null || !isWithin(what, 0, 1) || !search.findFor(found, losses)) {
            return HIDDEN;
        }
        // NET by what is PAID falls or rises first and rises after: its greatest is at one of both ends.
        int netOfGreatest = found.netOf(search.greatest);
        int netOfLeast = found.netOf(search.least);
        if (netOfLeast > netOfGreatest) {
            return what == 0 ? netOfLeast : search.least;
        }
        return what == 0 ? netOfGreatest : search.greatest;
    }

    public int ends(int cover, int loss, int what) {
        Cover found = coverAt(cover);
        if (found == null || !losses.has(loss) || !isWithin(what, 0, 1)) {
            return HIDDEN;
        }
        int toldHour = losses.hours[loss];
        int lastHour = losses.lastHours[loss];
        int answer = HIDDEN;
        for (int hour = toldHour; hour <= lastHour; hour++) {
            // Where it stands to all others as it did an hour before, MOST is what it was.
            if (hour > toldHour && !losses.standsAnewAt(hour, loss, found)) {
                continue;
            }
            losses.hours[loss] = hour;
            int here = greatestFor(found, losses.all());
            boolean better = what == 0 ? here < answer : here > answer;
            if (here != HIDDEN && (answer == HIDDEN || better)) {
                answer = here;
            }
        }
        losses.hours[loss] = toldHour;
        return answer;
    }

    public int hangs(int cover) {
        Cover found = coverAt(cover);
        return found == null ? NONE : lossOfGreatestWeight(found, false);
    }

    public int told(int cover, int loss, int cause) {
        Cover found = coverAt(cover);
        if (found == null || !losses.has(loss) || !isWithin(cause, 0, MOST_CAUSE)) {
            return HIDDEN;
        }
        int causes = losses.causes[loss];
        if ((causes & (1 << cause)) == 0) {
            return HIDDEN;
        }
        losses.causes[loss] = 1 << cause;
        int answer = greatestFor(found, losses.all());
        losses.causes[loss] = causes;
        return answer;
    }

    public int layers(int covers, boolean one) {
        int all = (1 << coverCount) - 1;
        if (covers == 0 || (covers & ~all) != 0) {
            return HIDDEN;
        }
        return one ? greatestByOneParting(covers) : greatestByOwnPartings(covers);
    }

    public int nearest(int cover, int what) {
        Cover found = coverAt(cover);
        if (found == null || !isWithin(what, 0, 1)) {
            return HIDDEN;
        }
        trial.copyFrom(found);
        int nearestHours = HIDDEN;
        int leastBetween = HIDDEN;
        for (int hours = 1; hours <= TWO_DIGITS; hours++) {
            // Where no two LOSSES are just so far apart, one hour more lets nothing more be ONE.
            if (hours > 1 && !losses.someAreApartBy(hours - 1)) {
                continue;
            }
            trial.words[HOURS] = hours;
            if (!search.findFor(trial, losses.all())) {
                continue;
            }
            int between = search.greatest - search.least;
            if (nearestHours == HIDDEN || between < leastBetween) {
                nearestHours = hours;
                leastBetween = between;
            }
        }
        return what == 0 ? nearestHours : leastBetween;
    }

    public int storm(int losses, int weight) {
        if (stormCount >= MOST_STORMS || !this.losses.hasAll(losses) || !isWithin(weight, 1, TWO_DIGITS)) {
            return NONE;
        }
        stormLosses[stormCount] = losses;
        stormWeights[stormCount] = weight;
        stormCount++;
        return stormCount;
    }

    public int mean(int cover, int what) {
        Cover found = coverAt(cover);
        if (found == null || !isWithin(what, 0, 2)) {
            return HIDDEN;
        }
        int sum = 0;
        int weights = 0;
        for (int storm = 0; storm < stormCount; storm++) {
            if (!Search.isToldFor(found, stormLosses[storm])) {
                return HIDDEN;
            }
            int weight = stormWeights[storm];
            weights += weight;
            if (what != 2 && search.findFor(found, stormLosses[storm])) {
                sum += weight * (what == 0 ? search.greatest : search.least);
            }
        }
        return what == 2 ? weights : sum;
    }

    public int game(int one, int other, int what) {
        Cover first = coverAt(one);
        Cover second = coverAt(other);
        if (first == null || second == null || !isWithin(what, 0, 2)) {
            return HIDDEN;
        }
        int struckOfFirst = lossOfGreatestWeight(first, true);
        int struckOfSecond = lossOfGreatestWeight(second, true);
        if (struckOfFirst == NONE || struckOfSecond == NONE) {
            return HIDDEN;
        }
        int leftOfFirst = greatestFor(first, losses.all() ^ (1 << struckOfFirst));
        int leftOfSecond = greatestFor(second, losses.all() ^ (1 << struckOfSecond));
        boolean takesSecond = leftOfSecond > leftOfFirst;
        if (what == 0) {
            return takesSecond ? 1 : 0;
        }
        if (what == 1) {
            return takesSecond ? leftOfSecond : leftOfFirst;
        }
        return takesSecond ? struckOfSecond : struckOfFirst;
    }

    public boolean mend(int loss, int hour, int sum) {
        if (!losses.has(loss) || !isWithin(hour, 0, LAST_HOUR) || !isWithin(sum, 1, TWO_DIGITS)) {
            return false;
        }
        losses.hours[loss] = hour;
        losses.lastHours[loss] = Math.max(hour, losses.lastHours[loss]);
        losses.sums[loss] = sum;
        return true;
    }

    public int count(int what) {
        switch (what) {
            case 0:
                return coverCount;
            case 1:
                return losses.size;
            case 2:
                return stormCount;
            case 3:
                return tape.length;
            default:
                return NONE;
        }
    }

    private static boolean isWithin(int value, int least, int greatest) {
        return value >= least && value <= greatest;
    }

    private Cover coverAt(int number) {
        return number >= 0 && number < coverCount ? covers[number] : null;
    }

    private int greatestFor(Cover cover, int set) {
        return search.findFor(cover, set) ? search.greatest : HIDDEN;
    }

    private int greatestByOwnPartings(int chosen) {
        int sum = 0;
        for (int number = 0; number < coverCount; number++) {
            Cover found = coverAt(number);
            if (found == null || (chosen & (1 << number)) == 0) {
                continue;
            }
            int greatest = greatestFor(found, losses.all());
            if (greatest == HIDDEN) {
                return HIDDEN;
            }
            sum += greatest;
        }
        return sum;
    }

    private int greatestByOneParting(int chosen) {
        search.startJoining();
        for (int number = 0; number < coverCount; number++) {
            Cover found = coverAt(number);
            if (found != null && (chosen & (1 << number)) != 0) {
                search.join(found);
            }
        }
        return search.findForJoined(losses.all()) ? search.greatest : HIDDEN;
    }

    /** The loss without which least is left; NONE, if for one nothing is told where each must be. */
    private int lossOfGreatestWeight(Cover cover, boolean eachMustBeTold) {
        int answer = NONE;
        int leastLeft = HIDDEN;
        for (int loss = 0; loss < losses.size; loss++) {
            int left = greatestFor(cover, losses.all() ^ (1 << loss));
            if (left == HIDDEN) {
                if (eachMustBeTold) {
                    return NONE;
                }
            } else if (answer == NONE || left < leastLeft) {
                answer = loss;
                leastLeft = left;
            }
        }
        return answer;
    }

    /** The bytes that are told, and how a COVER is read from them. */
    private static final class Tape {
        static final int MOST_BYTES = 120;
        private static final int BLANK = 32;

        final int[] bytes;
        int length;

        Tape() {
            bytes = new int[MOST_BYTES];
            length = 0;
        }

        static int bytesIn(int number) {
            int found = 0;
            for (int shift = 24; shift >= 0; shift -= 8) {
                if (((number >>> shift) & 255) != 0) {
                    found++;
                }
            }
            return found;
        }

        void append(int number) {
            for (int shift = 24; shift >= 0; shift -= 8) {
                int next = (number >>> shift) & 255;
                if (next != 0 && length < MOST_BYTES) {
                    bytes[length] = next;
                    length++;
                }
            }
        }

        /** The FAULT, or NONE: then the cover has all that the tape says. */
        int readInto(Cover cover) {
            cover.forget();
            int at = 0;
            for (int statement = 0; statement <= MOST_BYTES; statement++) {
                at = pastBlanks(at);
                int what = at < length ? Cover.whatOf(bytes[at]) : NONE;
                if (what == NONE || (what == HOURS) != (statement == 0)) {
                    return at;
                }
                int digit = pastBlanks(at + 1);
                if (digit == at + 1 || !isDigit(digit)) {
                    return digit;
                }
                int last = isDigit(digit + 1) ? digit + 1 : digit;
                if (!cover.tell(what, valueOf(digit, last))) {
                    return last;
                }
                at = pastBlanks(last + 1);
                if (at >= length) {
                    return NONE;
                }
                if (bytes[at] != ';') {
                    return at;
                }
                at++;
            }
            return at;
        }

        private int pastBlanks(int from) {
            int at = from;
            while (at < length && bytes[at] == BLANK) {
                at++;
            }
            return at;
        }

        private boolean isDigit(int at) {
            return at < length && bytes[at] >= '0' && bytes[at] <= '9';
        }

        private int valueOf(int first, int last) {
            int value = 0;
            for (int at = first; at <= last && at < length; at++) {
                value = 10 * value + bytes[at] - '0';
            }
            return value;
        }
    }

    /** What makes one happening, and what is paid for one. */
    private static final class Cover {
        private static final String LETTERS = "hrcogaunbp";
        private static final int[] LEAST = {1, 0, 0, 0, 0, 0, 1, 1, 0, 0};
        private static final int[] GREATEST = {99, 99, 1, 1, 99, 99, 99, 9, 99, 99};
        private static final int[] AT_FIRST = {99, NONE, 0, 0, 0, 0, 99, 9, 0, 0};

        final int[] words;

        Cover() {
            words = new int[WORDS];
        }

        static int whatOf(int letter) {
            return LETTERS.indexOf((char) letter);
        }

        void forget() {
            System.arraycopy(AT_FIRST, 0, words, 0, WORDS);
        }

        void copyFrom(Cover other) {
            System.arraycopy(other.words, 0, words, 0, WORDS);
        }

        boolean tell(int what, int value) {
            if (!isWithin(what, 0, WORDS - 1) || !isWithin(value, LEAST[what], GREATEST[what])) {
                return false;
            }
            words[what] = value;
            return true;
        }

        boolean overlaps() {
            return words[OVERLAP] == 1;
        }

        boolean asksCauses() {
            return words[CAUSES] == 1;
        }

        int payFor(int sum) {
            int above = sum > words[ABOVE] ? sum - words[ABOVE] : 0;
            return above < words[UP_TO] ? above : words[UP_TO];
        }

        int share() {
            return 100 - words[BORNE];
        }

        int bringFor(int paidInAll) {
            return paidInAll * share();
        }

        int netOf(int brought) {
            int share = share();
            int paidInAll = share > 0 ? brought / share : 0;
            int used = Math.min(paidInAll, words[UP_TO] * (words[OFTEN] - 1));
            return brought * words[UP_TO] - 100 * words[AGAIN] * used;
        }

        /** What is LAWFUL then is LAWFUL by this one and by the other. */
        void narrowBy(Cover other) {
            boolean bothOverlap = overlaps() && other.overlaps();
            int gap = overlaps() ? 0 : words[GAP];
            int otherGap = other.overlaps() ? 0 : other.words[GAP];
            int miles = words[MILES];
            int otherMiles = other.words[MILES];
            words[HOURS] = Math.min(words[HOURS], other.words[HOURS]);
            if (miles == NONE || (otherMiles != NONE && otherMiles < miles)) {
                words[MILES] = otherMiles;
            }
            words[CAUSES] = Math.max(words[CAUSES], other.words[CAUSES]);
            words[OVERLAP] = bothOverlap ? 1 : 0;
            words[GAP] = Math.max(gap, otherGap);
        }
    }

    /** The LOSSES, and what can be said of a set of them (bits). */
    private static final class Losses {
        final int[] sums;
        final int[] hours;
        final int[] lastHours;
        final int[] xs;
        final int[] ys;
        final int[] causes;
        int size;

        Losses() {
            sums = new int[MOST_LOSSES];
            hours = new int[MOST_LOSSES];
            lastHours = new int[MOST_LOSSES];
            xs = new int[MOST_LOSSES];
            ys = new int[MOST_LOSSES];
            causes = new int[MOST_LOSSES];
            size = 0;
        }

        boolean has(int loss) {
            return loss >= 0 && loss < size;
        }

        int all() {
            return (1 << size) - 1;
        }

        boolean hasAll(int set) {
            return (set & ~all()) == 0;
        }

        static boolean isIn(int loss, int set) {
            return (set & (1 << loss)) != 0;
        }

        int sumOf(int set) {
            return sumBefore(set, LAST_HOUR + 1);
        }

        int sumBefore(int set, int hour) {
            int sum = 0;
            for (int loss = 0; loss < size; loss++) {
                if (isIn(loss, set) && hours[loss] < hour) {
                    sum += sums[loss];
                }
            }
            return sum;
        }

        int leastHourOf(int set) {
            int least = LAST_HOUR;
            for (int loss = 0; loss < size; loss++) {
                if (isIn(loss, set)) {
                    least = Math.min(least, hours[loss]);
                }
            }
            return least;
        }

        int greatestHourOf(int set) {
            int greatest = 0;
            for (int loss = 0; loss < size; loss++) {
                if (isIn(loss, set)) {
                    greatest = Math.max(greatest, hours[loss]);
                }
            }
            return greatest;
        }

        boolean someAreApartBy(int apart) {
            for (int i = 0; i < size; i++) {
                for (int j = 0; j < size; j++) {
                    if (hours[j] - hours[i] == apart) {
                        return true;
                    }
                }
            }
            return false;
        }

        /**
         * Whether the loss stands to some other one otherwise at this hour than an hour before: in the row, by HOURS or
         * by GAP. Nothing else of the hours counts for what is LAWFUL and for what is PAID.
         */
        boolean standsAnewAt(int hour, int loss, Cover cover) {
            int near = cover.words[HOURS];
            int gap = cover.words[GAP];
            for (int other = 0; other < size; other++) {
                int behind = hour - hours[other];
                boolean inRow = behind == 0 || behind == 1;
                boolean inHours = behind == 1 - near || behind == near;
                boolean inGap = behind == -gap || behind == gap + 1;
                if (other != loss && (inRow || inHours || inGap)) {
                    return true;
                }
            }
            return false;
        }

        /** HOURS and MILES ask of any two just what they ask of all; CAUSES do not. */
        boolean areNear(Cover cover, int i, int j) {
            if (Math.abs(hours[i] - hours[j]) >= cover.words[HOURS]) {
                return false;
            }
            int miles = cover.words[MILES];
            int dx = xs[i] - xs[j];
            int dy = ys[i] - ys[j];
            return miles == NONE || dx * dx + dy * dy <= miles * miles;
        }

        boolean areOne(Cover cover, int set) {
            int common = -1;
            for (int i = 0; i < size; i++) {
                if (!isIn(i, set)) {
                    continue;
                }
                common &= causes[i];
                for (int j = i + 1; j < size; j++) {
                    if (isIn(j, set) && !areNear(cover, i, j)) {
                        return false;
                    }
                }
            }
            return common != 0 || !cover.asksCauses();
        }

        /**
         * Puts the set's losses into the order of the row: by hours, of one hour the lowest first.
         * A happening's place in the row is that of its first loss here.
         */
        int putInRow(int set, int[] row) {
            int length = 0;
            for (int loss = 0; loss < size && length < row.length; loss++) {
                if (!isIn(loss, set)) {
                    continue;
                }
                int at = length;
                while (at > 0 && hours[row[at - 1]] > hours[loss]) {
                    row[at] = row[at - 1];
                    at--;
                }
                row[at] = loss;
                length++;
            }
            return length;
        }
    }

    /** The parting told by hand. */
    private static final class ToldParting {
        final int[] numbers;
        int happenings;
        int happeningsPaid;
        int paidInAll;
        private final Losses losses;
        private final int[] row;

        ToldParting(Losses losses) {
            this.losses = losses;
            numbers = new int[MOST_LOSSES];
            row = new int[MOST_LOSSES];
        }

        int happeningOf(int loss) {
            int set = 0;
            for (int other = 0; other < losses.size; other++) {
                if (numbers[other] == numbers[loss]) {
                    set |= 1 << other;
                }
            }
            return set;
        }

        int firstBar(Cover cover) {
            for (int i = 0; i < losses.size; i++) {
                for (int j = i + 1; j < losses.size; j++) {
                    if (bar(cover, i, j)) {
                        return 16 * i + j;
                    }
                }
            }
            for (int i = 0; i < losses.size; i++) {
                int happening = happeningOf(i);
                if (!losses.areOne(cover, happening)) {
                    return 16 * i + Integer.numberOfTrailingZeros(happening & ~(1 << i));
                }
            }
            return NONE;
        }

        private boolean bar(Cover cover, int i, int j) {
            if (numbers[i] == numbers[j]) {
                return !losses.areOne(cover, (1 << i) | (1 << j));
            }
            return !cover.overlaps() && areTooNear(happeningOf(i), happeningOf(j), cover.words[GAP]);
        }

        private boolean areTooNear(int one, int other, int gap) {
            boolean oneIsAhead = losses.greatestHourOf(one) + gap < losses.leastHourOf(other);
            boolean otherIsAhead = losses.greatestHourOf(other) + gap < losses.leastHourOf(one);
            return !oneIsAhead && !otherIsAhead;
        }

        void reckon(Cover cover) {
            int length = losses.putInRow(losses.all(), row);
            int seen = 0;
            happenings = 0;
            happeningsPaid = 0;
            paidInAll = 0;
            for (int place = 0; place < length; place++) {
                if (Losses.isIn(row[place], seen)) {
                    continue;
                }
                int happening = happeningOf(row[place]);
                seen |= happening;
                happenings++;
                int pays = cover.payFor(losses.sumOf(happening));
                if (pays > 0 && happeningsPaid < cover.words[OFTEN]) {
                    happeningsPaid++;
                    paidInAll += pays;
                }
            }
        }
    }

    /** The covers that pay for one parting, as its happenings come in the order of the row. */
    private static final class Payers {
        private final int[] pays;
        private final int[] often;
        private final int[] shares;
        private final int[] timesPaid;
        private final Cover[] members;
        private int size;

        Payers() {
            pays = new int[MOST_COVERS * Search.MOST_HAPPENINGS];
            often = new int[MOST_COVERS];
            shares = new int[MOST_COVERS];
            timesPaid = new int[MOST_COVERS * (MOST_LOSSES + 1)];
            members = new Cover[MOST_COVERS];
            size = 0;
        }

        void clear() {
            size = 0;
        }

        boolean isEmpty() {
            return size == 0;
        }

        void join(Cover cover) {
            if (size < MOST_COVERS) {
                members[size] = cover;
                often[size] = cover.words[OFTEN];
                shares[size] = cover.share();
                timesPaid[size] = 0;
                size++;
            }
        }

        void price(int happening, int sum) {
            for (int payer = 0; payer < size; payer++) {
                Cover member = members[payer];
                if (member != null) {
                    pays[payer * Search.MOST_HAPPENINGS + happening] = member.payFor(sum);
                }
            }
        }

        /** What this happening brings behind so many others. */
        int bringFor(int happening, int ahead) {
            int brought = 0;
            for (int payer = 0; payer < size; payer++) {
                int times = timesPaid[ahead * MOST_COVERS + payer];
                int pay = times < often[payer] ? pays[payer * Search.MOST_HAPPENINGS + happening] : 0;
                timesPaid[(ahead + 1) * MOST_COVERS + payer] = pay > 0 ? times + 1 : times;
                brought += pay * shares[payer];
            }
            return brought;
        }
    }

    /** Goes through all LAWFUL PARTINGS of a set of losses by one cover, or by several at once. */
    private static final class Search {
        /** Eight losses that may overlap have 255 sets; twelve that may not have 78 runs in the row. */
        static final int MOST_HAPPENINGS = 256;

        int greatest;
        int least;
        int fewestForGreatest;
        int fewestForLeast;
        private boolean found;
        private final Losses losses;
        private final Cover joint;
        private final Payers payers;
        private final int[] row;
        private final int[] near;
        private final int[] happenings;
        private final int[] firstHappening;
        private int length;
        private int happeningCount;

        Search(Losses losses) {
            this.losses = losses;
            joint = new Cover();
            payers = new Payers();
            row = new int[MOST_LOSSES];
            near = new int[MOST_LOSSES];
            happenings = new int[MOST_HAPPENINGS];
            firstHappening = new int[MOST_LOSSES + 1];
        }

        static boolean isToldFor(Cover cover, int set) {
            return !cover.overlaps() || Integer.bitCount(set) <= OVERLAPPING_LOSSES;
        }

        boolean findFor(Cover cover, int set) {
            startJoining();
            join(cover);
            return findForJoined(set);
        }

        void startJoining() {
            payers.clear();
        }

        void join(Cover cover) {
            if (payers.isEmpty()) {
                joint.copyFrom(cover);
            } else {
                joint.narrowBy(cover);
            }
            payers.join(cover);
        }

        /** False: none is LAWFUL, it is not told, there are no such losses. */
        boolean findForJoined(int set) {
            found = false;
            if (payers.isEmpty() || !losses.hasAll(set) || !isToldFor(joint, set)) {
                return false;
            }
            length = losses.putInRow(set, row);
            seeWhoIsNear();
            happeningCount = 0;
            for (int first = 0; first < length; first++) {
                firstHappening[first] = happeningCount;
                if (joint.overlaps()) {
                    listSetsFrom(first);
                } else {
                    listRunsFrom(first);
                }
            }
            firstHappening[length] = happeningCount;
            priceHappenings();
            part((1 << length) - 1, 0, 0);
            return found;
        }

        /** Sets are bits of places in the row from here on. */
        private void seeWhoIsNear() {
            for (int i = 0; i < length; i++) {
                near[i] = 0;
                for (int j = 0; j < length; j++) {
                    if (losses.areNear(joint, row[i], row[j])) {
                        near[i] |= 1 << j;
                    }
                }
            }
        }

        private boolean areOne(int set) {
            int common = -1;
            for (int i = 0; i < length; i++) {
                if ((set & (1 << i)) != 0) {
                    if ((set & ~near[i]) != 0) {
                        return false;
                    }
                    common &= losses.causes[row[i]];
                }
            }
            return common != 0 || !joint.asksCauses();
        }

        private void listSetsFrom(int first) {
            int others = 1 << (length - 1 - first);
            for (int other = 0; other < others; other++) {
                int set = (2 * other + 1) << first;
                if (areOne(set)) {
                    list(set);
                }
            }
        }

        private void listRunsFrom(int first) {
            int set = 0;
            for (int last = first; last < length; last++) {
                set |= 1 << last;
                if (!areOne(set)) {
                    return;
                }
                boolean endsRow = last + 1 == length;
                if (endsRow || losses.hours[row[last]] + joint.words[GAP] < losses.hours[row[last + 1]]) {
                    list(set);
                }
            }
        }

        private void list(int set) {
            if (happeningCount < MOST_HAPPENINGS) {
                happenings[happeningCount] = set;
                happeningCount++;
            }
        }

        private void priceHappenings() {
            for (int happening = 0; happening < happeningCount; happening++) {
                int sum = 0;
                for (int i = 0; i < length; i++) {
                    if ((happenings[happening] & (1 << i)) != 0) {
                        sum += losses.sums[row[i]];
                    }
                }
                payers.price(happening, sum);
            }
        }

        /** The next happening of the row is the one that has the first loss which is left. */
        private void part(int left, int ahead, int brought) {
            if (left == 0) {
                note(brought, ahead);
                return;
            }
            int first = Integer.numberOfTrailingZeros(left);
            if (ahead >= MOST_LOSSES || first >= length) {
                return;
            }
            int end = firstHappening[first + 1];
            for (int happening = firstHappening[first]; happening < end; happening++) {
                int set = happenings[happening];
                if ((set & ~left) == 0) {
                    part(left ^ set, ahead + 1, brought + payers.bringFor(happening, ahead));
                }
            }
        }

        private void note(int brought, int count) {
            if (!found || brought > greatest || (brought == greatest && count < fewestForGreatest)) {
                greatest = brought;
                fewestForGreatest = count;
            }
            if (!found || brought < least || (brought == least && count < fewestForLeast)) {
                least = brought;
                fewestForLeast = count;
            }
            found = true;
        }
    }
}
