import java.util.Arrays;

/**
 * Promises 52 to 63 and 75 to 77 with Terms VII, VIII and IX, sentence by sentence: bounds on both sides, what is
 * refused and what stays then, what is cut. A remark with a number tells the promise, the words behind it are the document's.
 */
public final class SlotEdgesTest {
    private static final Check check = new Check();
    private static final int MIN = Integer.MIN_VALUE;
    private static final int MAX = Integer.MAX_VALUE;
    private static final String CAMP = "camp days 4 hunger 0 greed 3 odds 5;";

    public static void main(String[] args) {
        rowsOfAnySize();
        refusedRows();
        allNoughts();
        writtenPlaces();
        cutToWidth();
        pastedAsTheyWere();
        refusedPastes();
        pastesOfNone();
        refusedSeen();
        pairsThatFit();
        fedOrStarved();
        leastThatFits();
        dayToAsk();
        refusedLists();
        tallies();
        doubts();
        shares();
        leanings();
        pairsAtRest();
        leastBelief();
        check.end();
    }

    private static long[] repeated(int times, long... numbers) {
        long[] row = new long[times * numbers.length];
        for (int i = 0; i < row.length; i++) {
            row[i] = numbers[i % numbers.length];
        }
        return row;
    }

    // The slots.

    /** 75, Terms I: SLOTS 0 .. 3 have rows of numbers of WIDTH 0 .. 3, at most 60, or nothing. */
    private static void rowsOfAnySize() {
        SacredHens x = new SacredHens();
        check.all("nothing", -6, State.size(x, 0), State.size(x, 1), State.size(x, 2), State.size(x, 3));
        check.due("count(9)", x.count(9), 0);
        for (int slot = 0; slot < 4; slot++) {
            check.due("row of none", x.row(slot, slot, 0), 0);
            check.due("it has one", x.count(9), slot + 1);
            check.due("of none", State.size(x, slot), 0);
        }
        for (int n = 0; n <= 60; n++) {
            SacredHens y = new SacredHens();
            for (int width = 0; width < 4; width++) {
                check.due("row", y.row(width, 3 - width, n), 0);
                check.due("row of " + n, State.size(y, width), n);
            }
        }
    }

    /** 75: -2: there is no such SLOT or WIDTH, or n is above 60; -3, and the SLOT stays: n is below 0. */
    private static void refusedRows() {
        SacredHens x = Check.camp(CAMP);
        Check.fill(x, 0, 1, 1, 1, 1, 0);
        Check.fill(x, 3, 0, repeated(30, 0, 1));
        String ahead = State.of(x);
        check.all("no such slot", -2, x.row(-1, 0, 1), x.row(4, 0, 1), x.row(MIN, 0, 0), x.row(MAX, 0, 60));
        check.all("no such width", -2, x.row(0, -1, 1), x.row(0, 4, 1), x.row(3, MIN, 0), x.row(3, MAX, 0), x.row(1, 8, 1));
        check.all("n above 60", -2, x.row(0, 0, 61), x.row(1, 1, 61), x.row(3, 3, MAX));
        check.all("n below 0", -3, x.row(0, 1, -1), x.row(3, 0, -1), x.row(1, 3, MIN), x.row(2, 0, -60));
        check.all("-2 ahead of -3", -2, x.row(4, 0, -1), x.row(-1, 3, MIN), x.row(0, 4, -1), x.row(0, -1, -1));
        check.same("refused rows", ahead, State.of(x));
    }

    /** 75: all 0 (in place of another one). */
    private static void allNoughts() {
        SacredHens x = Check.camp(CAMP);
        for (int width = 0; width < 4; width++) {
            Check.fill(x, 0, 3 - width, repeated(30, 1, 1));
            check.due("thirty", x.tally(0, 1, 1), 30);
            x.row(0, width, 60);
            check.due("all 0", x.tally(0, 0, 0), 30);
        }
        Check.fill(x, 0, 0, repeated(30, 1, 1));
        x.row(0, 0, 2);
        check.due("the shorter one is 0", x.tally(0, 0, 0), 1);
        x.row(0, 0, 60);
        check.due("the longer one behind it is 0", x.tally(0, 0, 0), 30);
    }

    /** 76: 0. -2: there is no such SLOT; -6: it has nothing; -7: there is no such number. */
    private static void writtenPlaces() {
        SacredHens x = Check.camp(CAMP);
        Check.fill(x, 0, 0, 1, 1, 0, 1);
        x.row(1, 3, 60);
        x.row(2, 2, 0);
        String ahead = State.of(x);
        check.all("no such slot", -2, x.write(-1, 0, 1), x.write(4, 0, 1), x.write(MIN, -1, 1), x.write(MAX, 60, 1));
        check.all("nothing there", -6, x.write(3, 0, 1), x.write(3, -1, 1), x.write(3, 60, 1));
        check.all("no such number", -7, x.write(0, -1, 1), x.write(0, 4, 1), x.write(1, 60, 1), x.write(0, MIN, 1), x.write(0, MAX, 1));
        check.all("of none none", -7, x.write(2, 0, 1), x.write(2, -1, 1));
        check.same("refused writes", ahead, State.of(x));
        check.all("the first and the last", 0, x.write(0, 0, 0), x.write(0, 3, 0), x.write(1, 0, 1), x.write(1, 59, 1));
        check.due("0 1 and 0 0 there", x.tally(0, 0, 1), 1);
        check.due("1 0 at the start", x.tally(1, 1, 0), 1);
        check.due("0 1 at the end", x.tally(1, 0, 1), 1);
        check.due("all else is 0", x.tally(1, 0, 0), 28);
    }

    /** 76: Number i of the SLOT's row is v, cut to its WIDTH: of 1, 2, 4 or 8 bytes. */
    private static void cutToWidth() {
        for (int width = 0; width < 4; width++) {
            SacredHens x = Check.camp(CAMP);
            x.row(0, width, 2);
            for (int bit = 1; bit < 64; bit++) {
                long far = 1L << bit;
                boolean cut = bit >= 8 << width;
                x.write(0, 0, far);
                check.due("width " + width + ", bit " + bit, x.tally(0, 0, 0), cut ? 1 : -2);
                x.write(0, 0, far + 1);
                check.due("width " + width + ", 1 and bit " + bit, x.tally(0, 1, 0), cut ? 1 : -2);
            }
        }
        for (int width = 0; width < 3; width++) {
            SacredHens x = Check.camp(CAMP);
            x.row(0, width, 2);
            long span = 1L << (8 << width);
            long[] ones = {1, 1 + span, 1 - span, 1 + 7 * span, 1 - 9 * span, Long.MIN_VALUE + 1};
            for (long v : ones) {
                x.write(0, 0, v);
                check.due("1 by width " + width + " of " + v, x.tally(0, 1, 0), 1);
            }
            long[] others = {2, -1, span - 1, 2 - span, Long.MAX_VALUE};
            for (long v : others) {
                x.write(0, 0, v);
                check.due("neither 0 nor 1 by width " + width + " of " + v, x.tally(0, 1, 0), -2);
            }
        }
    }

    /** 77: So many numbers of a SLOT's row, from one on, are put to another one's (or its own), from one on, as they were. */
    private static void pastedAsTheyWere() {
        for (int width = 0; width < 4; width++) {
            SacredHens x = Check.camp(CAMP);
            Check.fill(x, 0, width, 1, 1, 1, 0, 0, 1);
            x.row(1, width, 60);
            check.due("paste of all", x.paste(0, 0, 1, 54, 6), 0);
            check.all("one of each at the end", 1, x.tally(1, 1, 1), x.tally(1, 1, 0), x.tally(1, 0, 1));
            check.due("it has its own still", x.tally(0, 1, 1), 1);
            check.due("paste back, from one on", x.paste(1, 56, 0, 0, 4), 0);
            // 1 0 0 1 0 1
            check.due("1 0", x.tally(0, 1, 0), 1);
            check.due("0 1", x.tally(0, 0, 1), 2);
        }
        // 1 0 0 1 1 1 0 0: to its own, over itself, to behind and to ahead.
        SacredHens x = Check.camp(CAMP);
        Check.fill(x, 2, 3, 1, 0, 0, 1, 1, 1, 0, 0);
        x.paste(2, 0, 2, 2, 6);
        tallies("1 0 1 0 0 1 1 1", x, 2, 1, 2, 1, 0);
        Check.fill(x, 2, 3, 1, 0, 0, 1, 1, 1, 0, 0);
        x.paste(2, 2, 2, 0, 6);
        tallies("0 1 1 1 0 0 0 0", x, 2, 1, 0, 1, 2);
        x.paste(2, 2, 2, 2, 6);
        tallies("onto where they stand", x, 2, 1, 0, 1, 2);
        Check.fill(x, 2, 3, 1L << 40, 1);
        Check.fill(x, 1, 3, 0, 0);
        x.paste(2, 0, 1, 0, 1);
        check.due("what is none such is put as it was", x.tally(1, 0, 0), -2);
    }

    private static void tallies(String name, SacredHens x, int slot, int goodWon, int goodLost, int badWon, int badLost) {
        check.due(name + ", 1 1", x.tally(slot, 1, 1), goodWon);
        check.due(name + ", 1 0", x.tally(slot, 1, 0), goodLost);
        check.due(name + ", 0 1", x.tally(slot, 0, 1), badWon);
        check.due(name + ", 0 0", x.tally(slot, 0, 0), badLost);
    }

    /** 77: -2: no such SLOT; -6: one has nothing; -8: not of one WIDTH; -7, and nothing happens: some are beyond, or a place or n is below 0. */
    private static void refusedPastes() {
        SacredHens x = Check.camp(CAMP);
        Check.fill(x, 0, 0, 1, 1, 0, 1, 1, 0);
        Check.fill(x, 1, 0, 0, 0, 0, 0);
        Check.fill(x, 2, 1, 0, 1);
        String ahead = State.of(x);
        check.all("no such slot", -2, x.paste(-1, 0, 0, 0, 0), x.paste(4, 0, 0, 0, 0), x.paste(0, 0, -1, 0, 0), x.paste(0, 0, 4, 0, 0),
            x.paste(MIN, 0, MAX, 0, 0));
        check.all("-2 ahead of -6, -8, -7", -2, x.paste(3, 0, 4, 0, 0), x.paste(-1, 0, 3, 0, 0), x.paste(4, -1, 2, 99, -1));
        check.all("one has nothing", -6, x.paste(3, 0, 0, 0, 0), x.paste(0, 0, 3, 0, 0), x.paste(3, 0, 3, 0, 0), x.paste(3, -1, 0, 0, 99));
        check.all("not of one width", -8, x.paste(0, 0, 2, 0, 0), x.paste(2, 0, 0, 0, 1), x.paste(2, -1, 1, 0, 99));
        check.all("beyond the row of the one", -7, x.paste(0, 3, 1, 0, 4), x.paste(0, 6, 1, 0, 1), x.paste(0, 0, 0, 0, 7), x.paste(0, 5, 0, 0, 2));
        check.all("beyond the row of the other", -7, x.paste(0, 0, 1, 0, 5), x.paste(0, 0, 1, 1, 4), x.paste(0, 0, 1, 4, 1), x.paste(0, 0, 0, 5, 2));
        check.all("below 0", -7, x.paste(0, -1, 1, 0, 1), x.paste(0, 0, 1, -1, 1), x.paste(0, 0, 1, 0, -1), x.paste(0, MIN, 1, 0, 1),
            x.paste(0, 0, 1, MIN, 1), x.paste(0, 0, 1, 0, MIN), x.paste(0, -1, 1, -1, 0), x.paste(0, 2, 1, 2, -2));
        check.all("sums beyond an int", -7, x.paste(0, 1, 1, 0, MAX), x.paste(0, MAX, 1, 0, 1), x.paste(0, 0, 1, MAX, 1), x.paste(0, MAX, 1, MAX, MAX),
            x.paste(0, MIN, 1, MIN, MIN));
        check.same("refused pastes", ahead, State.of(x));
        check.all("up to the ends", 0, x.paste(0, 2, 1, 0, 4), x.paste(0, 5, 1, 3, 1));
    }

    /** 77: also where n is 0: a place above how many it has. */
    private static void pastesOfNone() {
        SacredHens x = Check.camp(CAMP);
        Check.fill(x, 0, 0, 1, 1, 0, 1);
        x.row(1, 0, 0);
        x.row(2, 0, 60);
        String ahead = State.of(x);
        check.all("places up to how many it has", 0, x.paste(0, 0, 0, 0, 0), x.paste(0, 4, 0, 0, 0), x.paste(0, 0, 0, 4, 0), x.paste(1, 0, 0, 4, 0),
            x.paste(0, 0, 1, 0, 0), x.paste(2, 60, 2, 60, 0));
        check.all("above", -7, x.paste(0, 5, 0, 0, 0), x.paste(0, 0, 0, 5, 0), x.paste(1, 1, 0, 0, 0), x.paste(0, 0, 1, 1, 0), x.paste(2, 61, 2, 0, 0),
            x.paste(2, 0, 2, 61, 0), x.paste(0, MAX, 0, 0, 0));
        check.same("pastes of none", ahead, State.of(x));
    }

    // What was seen.

    private static void seenAnswers(String name, SacredHens x, int slot, long due) {
        check.all(name, due, x.fits(slot), x.fed(slot), x.starved(slot), x.least(slot), x.ask(slot), x.leaves(slot));
    }

    /** 52 to 57: -2: no such SLOT, no CAMP, a number is none such (asked last), not two each; -6: it has nothing. */
    private static void refusedSeen() {
        SacredHens x = new SacredHens();
        seenAnswers("no camp, nothing there", x, 0, -2);
        Check.fill(x, 0, 0, 0, 1);
        seenAnswers("no camp", x, 0, -2);
        Check.tell(x, CAMP);
        for (int slot : new int[] {-1, 4, MIN, MAX}) {
            seenAnswers("slot " + slot, x, slot, -2);
        }
        seenAnswers("nothing there", x, 3, -6);
        long[][] wrong = {{0}, {0, 0, 0}, {4, 0}, {-1, 0}, {14, 1}, {0, 2}, {0, -1}, {3, 1, 4, 1}, {3, 1, 3, 2}, {0, 1, 1}, repeated(30, 3, 1, 2, 2),
            {1L << 32, 1}, {0, 1L << 32}, {Long.MIN_VALUE, 0}, {0, Long.MAX_VALUE}};
        for (long[] row : wrong) {
            Check.fill(x, 0, 3, row);
            seenAnswers(Arrays.toString(row), x, 0, -2);
        }
        Check.fill(x, 0, 3, repeated(15, 3, 1, 0, 0));
        check.due("the last day and the first, thirty times", x.fits(0), 9);
        Check.tell(x, "camp days 3 hunger 0 greed 3 odds 5;");
        seenAnswers("the day is none in another camp", x, 0, -2);
    }

    private static void fits(String camp, int due, long... row) {
        SacredHens x = Check.camp(camp);
        Check.fill(x, 1, 0, row);
        check.due("fits " + Arrays.toString(row), x.fits(1), due);
    }

    /** 52, Terms VII: HUNGER of DAY 0 was 0 .. 9 (told or not), and they were fed on one DAY, or on none; asked on no DAY. */
    private static void pairsThatFit() {
        for (int days = 1; days <= 14; days++) {
            String camp = "camp days " + days + " hunger 4 greed 9 odds 5;";
            fits(camp, 10 * (days + 1));
            fits(camp, days + 1, 0, 1);
            fits(camp, 9 * (days + 1), 0, 0);
        }
        // Greed 1: by hunger 0 they do not eat on day 0; on each other day they do, even on the day behind the feeding.
        fits("camp days 3 hunger 4 greed 1 odds 5;", 36, 0, 1);
        fits("camp days 3 hunger 4 greed 1 odds 5;", 4, 0, 0);
        fits("camp days 3 hunger 4 greed 1 odds 5;", 0, 1, 0);
        // Greed 3: eating on 0, not on 1 is feeding on 0; they eat on 3 again, not on 2.
        fits(CAMP, 7, 0, 1, 1, 0);
        fits(CAMP, 7, 0, 1, 1, 0, 2, 0, 3, 1);
        fits(CAMP, 0, 0, 1, 1, 0, 2, 1);
        fits(CAMP, 0, 0, 1, 1, 0, 3, 0);
        fits(CAMP, 0, 2, 1, 2, 0);
        fits(CAMP, 7, 0, 1, 0, 1, 1, 0, 1, 0);
        SacredHens x = Check.camp(CAMP + "bill of 0 worth 3;");
        Check.fill(x, 0, 0, 0, 1, 1, 0);
        x.asks(0, 0);
        x.feeds(2);
        check.due("acts and hunger as told are no matter", x.fits(0), 7);
    }

    /** 53, 54: DAYS on which they may have been fed; 1 if they may have been fed on none, else 0. */
    private static void fedOrStarved() {
        SacredHens x = Check.camp("camp days 14 hunger 0 greed 3 odds 5;");
        x.row(0, 0, 0);
        check.due("nothing seen: on each day", x.fed(0), (1 << 14) - 1);
        check.due("or on none", x.starved(0), 1);
        Check.fill(x, 0, 0, 13, 1);
        check.due("eating on the last: not on the two ahead of it", x.fed(0), (1 << 14) - 1 & ~Check.bits(11, 12));
        Check.fill(x, 0, 0, 13, 0);
        check.due("not eating on the last: on those two", x.fed(0), Check.bits(11, 12));
        check.due("not on none", x.starved(0), 0);
        Check.fill(x, 0, 0, 12, 1, 13, 0);
        check.due("on one day", x.fed(0), 1 << 12);
        Check.fill(x, 0, 0, 0, 1, 13, 0);
        check.due("starved", x.starved(0), 0);
        Check.fill(x, 0, 0, 5, 1, 5, 0);
        check.all("nothing fits", 0, x.fits(0), x.fed(0), x.starved(0));
    }

    /** 55: The least HUNGER of DAY 0 that fits. NONE: none. */
    private static void leastThatFits() {
        SacredHens x = Check.camp("camp days 14 hunger 0 greed 9 odds 5;");
        x.row(0, 0, 0);
        check.due("nothing seen", x.least(0), 0);
        for (int day = 0; day <= 9; day++) {
            Check.fill(x, 0, 0, day, 1);
            check.due("eating on " + day, x.least(0), day < 9 ? 9 - day : 0);
        }
        Check.fill(x, 0, 0, 0, 1, 0, 0);
        check.due("nothing fits", x.least(0), -1);
    }

    private static void asks(String name, SacredHens x, int day, int left) {
        check.due("ask, " + name, x.ask(0), day);
        check.due("leaves, " + name, x.leaves(0), left);
    }

    /** 56, 57: The DAY of which to know whether they EAT leaves fewest at worst, if fewer than now, the first of several; as now without. */
    private static void dayToAsk() {
        SacredHens one = Check.camp("camp days 1 hunger 0 greed 5 odds 5;");
        one.row(0, 0, 0);
        asks("the only day", one, 0, 10);
        Check.fill(one, 0, 0, 0, 1);
        asks("it is known", one, -1, 10);
        SacredHens two = Check.camp("camp days 2 hunger 0 greed 8 odds 5;");
        two.row(0, 0, 0);
        asks("6 of 30 eat on each day: the first of several", two, 0, 24);
        SacredHens three = Check.camp("camp days 3 hunger 0 greed 9 odds 5;");
        three.row(0, 0, 0);
        asks("4, 6 and 6 of 40 eat: the first of two", three, 1, 34);
        SacredHens near = Check.camp("camp days 3 hunger 0 greed 9 odds 5;");
        Check.fill(near, 0, 0, 0, 1);
        asks("3 of 4 eat on 1, fed on 0 they do not; 2 of 4 on 2: one fewer", near, 2, 2);
        SacredHens last = Check.camp("camp days 14 hunger 0 greed 9 odds 5;");
        Check.fill(last, 0, 0, 0, 1, 4, 0, 11, 0, 12, 1);
        check.due("fed on 3 alone", last.fits(0), 1);
        asks("one is left", last, -1, 1);
        Check.fill(last, 0, 0, 0, 1, 1, 1, 2, 1, 3, 1, 4, 1, 5, 1, 6, 1, 7, 1, 8, 1, 9, 1, 10, 1, 11, 1, 12, 1);
        asks("12, 13 or none: the last day", last, 13, 2);
        Check.fill(last, 0, 0, 0, 1, 0, 0);
        asks("nothing fits", last, -1, 0);
    }

    // Lists.

    private static void listAnswers(String name, SacredHens x, int slot, long due) {
        check.all(name, due, x.tally(slot, 1, 1), x.tally(slot, 0, 0), x.doubt(slot, 0), x.doubt(slot, 1), x.share(slot, 1, 0), x.share(slot, 0, 1),
            x.leans(slot));
    }

    /** 58 to 61: -2: there are none such, no such SLOT, no CAMP, a number of the row is none such (asked last), not two each; -6: it has nothing. */
    private static void refusedLists() {
        SacredHens x = new SacredHens();
        listAnswers("no camp, nothing there", x, 0, -2);
        Check.fill(x, 0, 0, 1, 1);
        listAnswers("no camp", x, 0, -2);
        Check.tell(x, CAMP);
        for (int slot : new int[] {-1, 4, MIN, MAX}) {
            listAnswers("slot " + slot, x, slot, -2);
        }
        listAnswers("nothing there", x, 3, -6);
        long[][] wrong = {{0}, {0, 0, 0}, {2, 0}, {-1, 0}, {0, 2}, {0, -1}, {1, 1, 1, 2}, {1, 1, 2, 1}, {1L << 32, 1}, {0, 1L << 32},
            {Long.MIN_VALUE, 0}, {0, Long.MAX_VALUE}, Arrays.copyOf(repeated(30, 1, 1), 59)};
        for (long[] row : wrong) {
            Check.fill(x, 0, 3, row);
            listAnswers(Arrays.toString(row), x, 0, -2);
        }
        Check.fill(x, 0, 3, 1, 1, 0, 1);
        for (int slot : new int[] {0, 3}) {
            for (int n : new int[] {-1, 2, MIN, MAX}) {
                check.all("no such sign, end, what: " + n, -2, x.tally(slot, n, 0), x.tally(slot, 0, n), x.doubt(slot, n), x.share(slot, n, 0),
                    x.share(slot, 1, n));
            }
        }
    }

    private static SacredHens list(int goodWon, int goodLost, int badWon, int badLost) {
        SacredHens x = Check.camp(CAMP);
        long[] row = new long[2 * (goodWon + goodLost + badWon + badLost)];
        for (int i = 0; i < row.length / 2; i++) {
            row[2 * i] = i < goodWon + goodLost ? 1 : 0;
            row[2 * i + 1] = i < goodWon || i >= goodWon + goodLost && i < goodWon + goodLost + badWon ? 1 : 0;
        }
        Check.fill(x, 0, 0, row);
        return x;
    }

    /** 58: how many of it had a sign as told and ended as told: of none up to thirty. */
    private static void tallies() {
        tallies("an empty list", list(0, 0, 0, 0), 0, 0, 0, 0, 0);
        tallies("one of each", list(1, 1, 1, 1), 0, 1, 1, 1, 1);
        tallies("all alike", list(0, 30, 0, 0), 0, 0, 30, 0, 0);
        tallies("thirty", list(9, 8, 7, 6), 0, 9, 8, 7, 6);
    }

    private static void fraction(String name, long above, long below, long dueAbove, long dueBelow) {
        check.due(name + ", above", above, dueAbove);
        check.due(name + ", below", below, dueBelow);
    }

    private static void doubt(int goodWon, int goodLost, int badWon, int badLost, long above, long below) {
        SacredHens x = list(goodWon, goodLost, badWon, badLost);
        fraction("doubt " + goodWon + " " + goodLost + " " + badWon + " " + badLost, x.doubt(0, 0), x.doubt(0, 1), above, below);
    }

    /** 59, Terms VIII: of all ways to part as many wins among as many signs the chance of as many wins by good signs, or more; lowest terms. */
    private static void doubts() {
        doubt(0, 0, 0, 0, 1, 1);
        doubt(1, 0, 0, 0, 1, 1);
        doubt(0, 1, 1, 0, 1, 1);
        doubt(1, 0, 0, 1, 1, 2);
        doubt(1, 0, 1, 1, 2, 3);
        doubt(1, 1, 0, 1, 2, 3);
        doubt(2, 1, 1, 2, 1, 2);
        doubt(3, 0, 0, 3, 1, 20);
        doubt(0, 3, 3, 0, 1, 1);
        doubt(1, 2, 2, 1, 19, 20);
        doubt(0, 5, 0, 5, 1, 1);
        doubt(5, 0, 5, 0, 1, 1);
        doubt(15, 0, 0, 15, 1, 155117520);
        doubt(1, 14, 14, 1, 155117519, 155117520);
        doubt(1, 0, 0, 29, 1, 30);
        doubt(0, 1, 29, 0, 1, 1);
    }

    private static void share(SacredHens x, int sign, int above, int below) {
        fraction("share of sign " + sign, x.share(0, sign, 0), x.share(0, sign, 1), above, below);
    }

    /** 60: Of those with a sign the share that was won. NONE: there are none. */
    private static void shares() {
        share(list(0, 0, 0, 0), 1, -1, -1);
        share(list(0, 0, 0, 0), 0, -1, -1);
        SacredHens good = list(2, 4, 0, 0);
        share(good, 1, 1, 3);
        share(good, 0, -1, -1);
        SacredHens bad = list(0, 0, 30, 0);
        share(bad, 0, 1, 1);
        share(bad, 1, -1, -1);
        SacredHens both = list(0, 7, 10, 5);
        share(both, 1, 0, 1);
        share(both, 0, 2, 3);
        share(list(7, 22, 1, 0), 1, 7, 29);
    }

    /** 61: 1 if more of those with a good sign were won, by shares, -1 if fewer, else 0 (also if there are none of one kind). */
    private static void leanings() {
        check.due("all of one, none of ten", list(1, 0, 0, 10).leans(0), 1);
        check.due("1 of 2 and 2 of 3", list(1, 1, 2, 1).leans(0), -1);
        check.due("2 of 3 and 1 of 2", list(2, 1, 1, 1).leans(0), 1);
        check.due("1 of 3 and 4 of 12: by shares", list(1, 2, 4, 8).leans(0), 0);
        check.due("5 of 14 and 4 of 11", list(5, 9, 4, 7).leans(0), -1);
        check.due("none of either", list(0, 4, 0, 5).leans(0), 0);
        check.due("all of both", list(4, 0, 5, 0).leans(0), 0);
        check.due("no bad ones", list(4, 1, 0, 0).leans(0), 0);
        check.due("no good ones", list(0, 0, 4, 1).leans(0), 0);
        check.due("none at all", list(0, 0, 0, 0).leans(0), 0);
    }

    // The general and the augur.

    /** 62, Terms IX: 1 asked, seen; 2 asked, not seen; 4 not asked, seen; 8 not asked, not seen; worth and belief 0 .. 99. */
    private static void pairsAtRest() {
        SacredHens x = new SacredHens();
        for (int n : new int[] {-1, 100, MIN, MAX}) {
            check.all("no such worth or belief: " + n, -2, x.rests(n, 0), x.rests(0, n), x.rests(n, n), x.rests(99, n), x.rests(n, 99));
        }
        for (int worth = 0; worth <= 99; worth += worth < 3 ? 1 : 32) {
            for (int belief = 0; belief <= 99; belief += belief < 3 ? 1 : 32) {
                int due = 0;
                // Seen: to ask has 0, not to ask worth - belief; asked: to see has worth - 1, not to see 0.
                due |= 0 >= worth - belief && worth - 1 >= 0 ? 1 : 0;
                // Not seen: worth, worth - belief.
                due |= worth >= worth - belief && 0 >= worth - 1 ? 2 : 0;
                // Not asked: to see has belief - 1, not to see belief, so that it is never seen at rest.
                due |= worth - belief >= worth ? 8 : 0;
                check.due("rests(" + worth + ", " + belief + ")", x.rests(worth, belief), due);
            }
        }
        check.due("the greatest", x.rests(99, 99), 1);
        check.due("one less of belief", x.rests(99, 98), 0);
        check.due("worth 1, belief 0: asked and not seen too", x.rests(1, 0), 10);
        check.due("worth 1, belief 1: to see or not", x.rests(1, 1), 3);
    }

    /** 63: The least belief (0 .. 99) by which asked, seen is at REST. NONE: by none; -2: there is no such worth (0 .. 99). */
    private static void leastBelief() {
        SacredHens x = new SacredHens();
        check.due("worth 0: by none", x.believes(0), -1);
        for (int worth = 1; worth <= 99; worth++) {
            check.due("believes(" + worth + ")", x.believes(worth), worth);
        }
        check.all("no such worth", -2, x.believes(-1), x.believes(100), x.believes(MIN), x.believes(MAX));
    }
}
