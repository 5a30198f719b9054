import java.math.BigInteger;
import java.util.List;
import java.util.function.ToLongFunction;

/**
 * Promises 13 to 22, 48 to 51, 64 to 71, 73 and 74 with Terms II, III, VI and X, sentence by sentence: bounds on
 * both sides, what is refused and what stays then, which of several it is. A remark with a number tells the promise.
 */
public final class DoneEdgesTest {
    private static final Check check = new Check();
    private static final int MIN = Integer.MIN_VALUE;
    private static final int MAX = Integer.MAX_VALUE;
    /** They eat on each day where nothing is done; side 0 is stopped on 2 and 4, side 1 on 2 and 5. */
    private static final String CAMP = "camp days 6 hunger 2 greed 2 odds 5; mark 2; augur of 1 from 4 to 4; augur of 0 from 5 to 5;"
        + "bill of 0 worth 5; bill of 0 worth 9 after 0; bill of 1 worth 9; bill of 1 worth 9;";
    /** They eat on each day, whatever is done: eight bills of side 0 for fourteen days. */
    private static final String EIGHT = "camp days 14 hunger 1 greed 1 odds 5;" + "bill of 0 worth 2;".repeat(8);

    public static void main(String[] args) {
        noneSuch();
        couldPass();
        noneCouldPass();
        firstOfTheBest();
        askedAndFed();
        longestFast();
        leastHunger();
        passedAndWhen();
        leastReason();
        passesAheadAlone();
        worths();
        allThatAreAfter();
        needsAndHeirs();
        mostThatFalls();
        fractions();
        refusedAsks();
        refusedFeeds();
        takenBack();
        actsAsNow();
        allThatACampHolds();
        drawsAsTold();
        seasons();
        seeds();
        ratings();
        imagesKeep();
        imagesRefused();
        check.end();
    }

    /** 13, 14, 18 to 22, 48, 50, 51, 64 to 66, 69 to 71: -2: no such DAY, BILL, SIDE, what; nothing happens. */
    private static void noneSuch() {
        SacredHens x = Check.camp(CAMP);
        x.asks(0, 1);
        String ahead = State.of(x);
        for (int day : new int[] {-1, 6, 14, MIN, MAX}) {
            check.all("day " + day, -2, x.best(day), x.first(day), x.passed(day), x.falls(day), x.asks(1, day), x.feeds(day));
        }
        for (int bill : new int[] {-1, 4, 8, MIN, MAX}) {
            check.all("bill " + bill, -2, x.when(bill), x.why(bill), x.needs(bill), x.heirs(bill), x.asks(bill, 4), x.luck(0, 1, bill),
                x.rate(bill, 5));
        }
        for (int n : new int[] {-1, 2, MIN, MAX}) {
            check.all("side or what " + n, -2, x.open(n), x.worth(n), x.chance(n), x.drawn(0, n));
        }
        check.same("calls for none such", ahead, State.of(x));
    }

    /** 13, 14: a BILL that is asked for on no other DAY, if it were asked for then; acts on other DAYS as now, what is done on it aside. */
    private static void couldPass() {
        SacredHens x = Check.camp(CAMP);
        check.due("open(0)", x.open(0), Check.bits(0, 1, 3, 5));
        check.due("open(1)", x.open(1), Check.bits(0, 1, 3, 4));
        best("nothing done", x, 2, 2, -1, 2, 2, 0);
        x.asks(2, 0);
        best("bill 2 on day 0", x, 2, -1, -1, 3, 3, 0);
        check.due("open(0), they do not eat on 1", x.open(0), Check.bits(0, 3, 5));
        check.due("open(1)", x.open(1), Check.bits(0, 3, 4));
        x.asks(0, 3);
        best("bill 0 on day 3", x, 2, -1, -1, 3, -1, 1);
        check.due("open(0): 0 on its own day, 1 behind it", x.open(0), Check.bits(3, 5));
        check.due("open(1): day 3 is done with, and aside", x.open(1), Check.bits(0, 3));
        x.undo();
        x.feeds(3);
        check.due("open(0): the feeding of day 3 aside", x.open(0), Check.bits(0, 3, 5));
        x.asks(0, 4);
        check.due("asked for, though it did not pass: on no other day", x.open(0), 0);
        check.due("best(3) of those left", x.best(3), 3);
        check.due("best(5): 1 is after one that did not pass", x.best(5), -1);
    }

    private static void best(String name, SacredHens x, int... due) {
        for (int day = 0; day < due.length; day++) {
            check.due(name + ": best(" + day + ")", x.best(day), due[day]);
        }
    }

    /** 13, 14: 0, NONE: none. */
    private static void noneCouldPass() {
        SacredHens none = Check.camp("camp days 3 hunger 9 greed 1 odds 5;");
        check.all("open without bills", 0, none.open(0), none.open(1));
        best("without bills", none, -1, -1, -1);
        SacredHens hungry = Check.camp("camp days 3 hunger 0 greed 2 odds 5;bill of 1 worth 0;");
        check.due("open from the day on which they eat", hungry.open(1), Check.bits(2));
        best("from that day, of no worth", hungry, -1, -1, 0);
        SacredHens near = Check.camp("camp days 1 hunger 5 greed 2 odds 5;bill of 1 worth 7;bill of 0 worth 8;bill of 1 worth 8;bill of 0 worth 7;");
        best("worth one more, of two such the first", near, 1);
        SacredHens all = Check.camp(EIGHT);
        check.due("open on all days", all.open(0), (1 << 14) - 1);
        for (int bill = 0; bill < 8; bill++) {
            all.asks(bill, bill);
        }
        check.due("open on their own days", all.open(0), 255);
        check.due("best(7)", all.best(7), 7);
        check.due("best(8)", all.best(8), -1);
    }

    /** 14: The BILL of most worth (of either SIDE), the first of several. */
    private static void firstOfTheBest() {
        SacredHens x = Check.camp("camp days 4 hunger 1 greed 1 odds 5;bill of 1 worth 3;bill of 0 worth 8;bill of 1 worth 8;bill of 0 worth 7;");
        check.due("best(0)", x.best(0), 1);
        x.asks(1, 3);
        check.due("best(0) without it", x.best(0), 2);
        x.asks(2, 2);
        check.due("best(0) without both", x.best(0), 3);
        x.asks(3, 1);
        check.due("best(0) of the last", x.best(0), 0);
    }

    /** 15, 16: DAYS on which hens are asked, are fed, as bits. */
    private static void askedAndFed() {
        SacredHens x = Check.camp(EIGHT);
        check.all("nothing done", 0, x.asked(), x.fattened());
        x.asks(0, 0);
        x.feeds(13);
        check.due("asked()", x.asked(), 1);
        check.due("fattened()", x.fattened(), 1 << 13);
        x.asks(7, 12);
        x.feeds(1);
        check.due("asked()", x.asked(), 1 | 1 << 12);
        check.due("fattened()", x.fattened(), 2 | 1 << 13);
    }

    /** 17: The most DAYS one behind the other on which hens are neither asked nor fed. */
    private static void longestFast() {
        SacredHens x = Check.camp(EIGHT);
        check.due("all days", x.fast(), 14);
        x.feeds(13);
        check.due("up to the last", x.fast(), 13);
        x.asks(0, 6);
        check.due("0 .. 5 or 7 .. 12", x.fast(), 6);
        x.asks(1, 3);
        check.due("7 .. 12, at the end", x.fast(), 6);
        x.undo();
        x.asks(2, 9);
        check.due("0 .. 5, at the start", x.fast(), 6);
        x.anew();
        for (int day = 0; day < 13; day++) {
            x.feeds(day);
        }
        check.due("the last day alone", x.fast(), 1);
        x.asks(0, 13);
        check.due("none", x.fast(), 0);
        check.due("a camp of one day", Check.camp("camp days 1 hunger 0 greed 1 odds 5;").fast(), 1);
    }

    /** 18: The least HUNGER of DAY 0 (0 .. 9) by which hens EAT on a DAY, acts as now. NONE: by none. */
    private static void leastHunger() {
        SacredHens x = Check.camp("camp days 14 hunger 4 greed 9 odds 5;");
        for (int day = 0; day < 14; day++) {
            check.due("first(" + day + ")", x.first(day), Math.max(0, 9 - day));
        }
        x.feeds(0);
        for (int day = 1; day < 14; day++) {
            check.due("first(" + day + "), fed on 0", x.first(day), day < 9 ? -1 : 0);
        }
        check.due("first(0), fed on it", x.first(0), 9);
        x.anew();
        x.feeds(4);
        check.due("first(4), fed on it", x.first(4), 5);
        check.due("first(5), fed ahead", x.first(5), -1);
        check.due("first(12): hunger is 8", x.first(12), -1);
        check.due("first(13): hunger is 9", x.first(13), 0);
        SacredHens least = Check.camp("camp days 3 hunger 0 greed 1 odds 5;");
        check.due("first(0) of greed 1", least.first(0), 1);
        check.due("first(1) of greed 1", least.first(1), 0);
        least.feeds(1);
        check.due("first(2), fed ahead", least.first(2), 0);
    }

    /** 19, 20: The BILL that PASSES on a DAY, the DAY on which a BILL PASSES. NONE: none, on none. */
    private static void passedAndWhen() {
        SacredHens x = Check.camp(CAMP);
        check.all("nothing done", -1, x.passed(0), x.passed(5), x.when(0), x.when(3));
        x.asks(3, 0);
        x.asks(0, 2);
        x.feeds(3);
        x.asks(1, 5);
        check.due("passed(0)", x.passed(0), 3);
        check.due("when(3)", x.when(3), 0);
        check.all("asked, fed, or free: passed", -1, x.passed(1), x.passed(2), x.passed(3), x.passed(4), x.passed(5));
        check.all("asked for or not: when", -1, x.when(0), x.when(1), x.when(2));
        x.undo();
        x.asks(0, 5);
        check.due("asked for already", x.count(6), 3);
        SacredHens last = Check.camp(EIGHT);
        last.asks(7, 13);
        check.due("passed on the last day", last.passed(13), 7);
        check.due("when", last.when(7), 13);
    }

    /** 21: Why a BILL does not PASS on the DAY on which it is asked for, 1 .. 4 (the least). 0: it PASSES; NONE: it is not asked for. */
    private static void leastReason() {
        for (int set = 0; set < 16; set++) {
            boolean fasting = (set & 1) != 0;
            boolean marked = (set & 2) != 0;
            boolean seen = (set & 4) != 0;
            boolean behindNone = (set & 8) != 0;
            SacredHens x = Check.camp("camp days 4 hunger 2 greed 2 odds 5;bill of 0 worth 1;bill of 0 worth 1 after 0;augur of 0 from 0 to 3;"
                + (marked ? "mark 2;" : "") + (seen ? "augur of 1 from 2 to 3;" : ""));
            if (!behindNone) {
                x.asks(0, 0);
            }
            if (fasting) {
                x.feeds(1);
            }
            check.due("why ahead of asking", x.why(1), -1);
            int due = fasting ? 1 : marked ? 2 : seen ? 3 : behindNone ? 4 : 0;
            check.due("asks, reasons " + set, x.asks(1, 2), due == 0 ? 1 : 0);
            check.due("why, reasons " + set, x.why(1), due);
            check.due("why of the one ahead", x.why(0), behindNone ? -1 : 0);
        }
    }

    /** Terms III: the BILL it is after PASSED on a DAY ahead; hens were asked then, whether it PASSES or not. */
    private static void passesAheadAlone() {
        SacredHens x = Check.camp(CAMP);
        x.asks(1, 1);
        check.due("not asked for at all", x.why(1), 4);
        x.asks(0, 3);
        check.due("it passes behind it", x.why(1), 4);
        check.due("itself it passes", x.why(0), 0);
        x.anew();
        x.asks(0, 2);
        x.asks(1, 5);
        check.due("asked for ahead, in vain", x.why(1), 4);
        x.anew();
        x.asks(0, 3);
        check.due("the day behind, and not hungry", x.asks(1, 4), 0);
        check.due("why", x.why(1), 1);
        x.anew();
        x.asks(2, 2);
        check.due("asked in vain, they ate", x.hunger(3), 1);
        check.due("so they do not eat", x.asks(0, 3), 0);
        check.due("why", x.why(0), 1);
        SacredHens next = Check.camp("camp days 2 hunger 1 greed 1 odds 5;bill of 0 worth 1;bill of 0 worth 1 after 0;");
        next.asks(0, 0);
        check.due("the very next day is behind it", next.asks(1, 1), 1);
        SacredHens other = Check.camp("camp days 2 hunger 1 greed 1 odds 5;bill of 1 worth 1;bill of 0 worth 1 after 0;");
        other.asks(0, 0);
        check.due("after one of the other side", other.asks(1, 1), 1);
    }

    /** 22: Worth of all BILLS of a SIDE that PASS. */
    private static void worths() {
        SacredHens x = Check.camp("camp days 14 hunger 1 greed 1 odds 5;mark 9;" + "bill of 1 worth 99;".repeat(7) + "bill of 0 worth 99;");
        check.all("nothing done", 0, x.worth(0), x.worth(1));
        for (int bill = 0; bill < 7; bill++) {
            x.asks(bill, bill);
            check.due("worth(1)", x.worth(1), 99 * (bill + 1));
        }
        x.asks(7, 9);
        check.due("in vain", x.worth(0), 0);
        x.undo();
        x.asks(7, 10);
        check.due("worth(0)", x.worth(0), 99);
        check.due("worth(1) still", x.worth(1), 693);
    }

    /** 48, Terms VI: BILLS that fall (of those that PASS): the DAY's, all that are after it, and after these. */
    private static void allThatAreAfter() {
        SacredHens x = Check.camp("camp days 8 hunger 1 greed 1 odds 5;mark 6;bill of 0 worth 1;bill of 1 worth 2 after 0;bill of 0 worth 3 after 1;"
            + "bill of 0 worth 4 after 0;bill of 0 worth 5;bill of 1 worth 6 after 2;");
        check.all("nothing passes", 0, x.falls(0), x.falls(7));
        for (int bill = 0; bill < 4; bill++) {
            x.asks(bill, bill);
        }
        x.asks(5, 6);
        x.asks(4, 7);
        int[] falls = {15, 6, 4, 8, 0, 0, 0, 16};
        for (int day = 0; day < 8; day++) {
            check.due("falls(" + day + "), bill 5 in vain", x.falls(day), falls[day]);
        }
        x.undo();
        x.undo();
        x.asks(5, 4);
        check.due("falls(0) with bill 5", x.falls(0), 47);
        check.due("falls(2) with bill 5", x.falls(2), 36);
        check.due("falls(3)", x.falls(3), 8);
        x.feeds(5);
        check.due("falls of a day of feeding", x.falls(5), 0);
    }

    /** 50, 51: BILLS that a BILL is after, and those they are; BILLS that have it among them. */
    private static void needsAndHeirs() {
        SacredHens x = Check.camp("camp days 8 hunger 1 greed 1 odds 5;bill of 0 worth 1;bill of 1 worth 2 after 0;bill of 0 worth 3 after 1;"
            + "bill of 0 worth 4 after 0;bill of 0 worth 5;bill of 1 worth 6 after 2;bill of 1 worth 0 after 4;bill of 0 worth 0 after 5;");
        int[] needs = {0, 1, 3, 1, 0, 7, 16, 39};
        int[] heirs = {174, 164, 160, 0, 64, 128, 0, 0};
        for (int bill = 0; bill < 8; bill++) {
            check.due("needs(" + bill + ")", x.needs(bill), needs[bill]);
            check.due("heirs(" + bill + ")", x.heirs(bill), heirs[bill]);
        }
    }

    /** 49: The DAY by which, ANNULLED, most worth falls, the first of several, if any does. NONE: none. */
    private static void mostThatFalls() {
        SacredHens x = Check.camp("camp days 6 hunger 1 greed 1 odds 5;bill of 0 worth 0;bill of 0 worth 4;bill of 1 worth 4;bill of 1 worth 5 after 0;");
        check.due("nothing passes", x.worst(), -1);
        x.asks(0, 0);
        check.due("no worth falls", x.worst(), -1);
        SacredHens least = Check.camp("camp days 2 hunger 1 greed 1 odds 5;bill of 0 worth 1;");
        least.asks(0, 1);
        check.due("a worth of 1", least.worst(), 1);
        x.asks(2, 5);
        check.due("the last day", x.worst(), 5);
        x.asks(1, 4);
        check.due("the first of several", x.worst(), 4);
        x.asks(3, 3);
        check.due("with those that are after it, the first of two", x.worst(), 0);
        x.undo();
        x.undo();
        x.undo();
        x.asks(3, 5);
        x.asks(2, 1);
        check.due("5 by day 0 and by day 5, not 4", x.worst(), 0);
    }

    /** 64, Terms X: that all BILLS PASS that do; FRACTIONS in lowest terms (0 / 1). */
    private static void fractions() {
        for (int odds = 0; odds <= 10; odds++) {
            SacredHens x = Check.camp(EIGHT.replace("odds 5", "odds " + odds));
            BigInteger above = BigInteger.ONE;
            BigInteger below = BigInteger.ONE;
            for (int passing = 0; passing <= 8; passing++) {
                BigInteger common = above.gcd(below);
                check.due("chance(0), odds " + odds + ", " + passing + " pass", x.chance(0), above.divide(common).longValue());
                check.due("chance(1), odds " + odds + ", " + passing + " pass", x.chance(1), below.divide(common).longValue());
                x.asks(passing, passing + 1);
                above = above.multiply(BigInteger.valueOf(odds));
                below = below.multiply(BigInteger.TEN);
            }
            check.all("no such what", -2, x.chance(-1), x.chance(2), x.chance(MIN), x.chance(MAX));
        }
        SacredHens vain = Check.camp(CAMP.replace("odds 5", "odds 0"));
        vain.asks(0, 2);
        check.due("of those that do not pass none must", vain.chance(0), 1);
        vain.asks(2, 4);
        check.due("0 / 1, above", vain.chance(0), 0);
        check.due("0 / 1, below", vain.chance(1), 1);
    }

    /** 65: -2: there are none such; -5: they were asked or fed on that DAY, it was asked for. 20 acts are never come to: days are 14 at most. */
    private static void refusedAsks() {
        SacredHens x = Check.camp(CAMP);
        x.asks(0, 0);
        x.feeds(3);
        String ahead = State.of(x);
        check.all("asked on that day", -5, x.asks(1, 0), x.asks(2, 0), x.asks(0, 0));
        check.due("fed on that day", x.asks(2, 3), -5);
        check.due("it was asked for", x.asks(0, 5), -5);
        check.all("-2 ahead of -5", -2, x.asks(4, 0), x.asks(-1, 3), x.asks(0, 6), x.asks(0, -1), x.asks(MAX, MIN));
        check.same("refused asks", ahead, State.of(x));
        SacredHens full = Check.camp(EIGHT);
        for (int day = 0; day < 14; day++) {
            check.due("act " + day, day < 8 ? full.asks(day, day) : full.feeds(day), 1);
        }
        check.due("count(6) of all days", full.count(6), 14);
        full.undo();
        check.due("asked for, on a free day", full.asks(3, 13), -5);
    }

    /** 66: HUNGER on it. -2: there is none such; -5: they were asked or fed on it. */
    private static void refusedFeeds() {
        SacredHens x = Check.camp(CAMP);
        check.due("feeds(0), hunger as told", x.feeds(0), 2);
        check.due("feeds(5), hunger as it grew", x.feeds(5), 5);
        x.asks(0, 3);
        check.due("feeds(4), behind a day asked", x.feeds(4), 1);
        String ahead = State.of(x);
        check.all("asked or fed on it", -5, x.feeds(0), x.feeds(3), x.feeds(4), x.feeds(5));
        check.all("none such", -2, x.feeds(-1), x.feeds(6), x.feeds(MIN), x.feeds(MAX));
        check.same("refused feeds", ahead, State.of(x));
        x.undo();
        check.due("free again", x.feeds(4), 1);
    }

    /** 67, 68: The latest act is taken back: how many there are. -5: there is none. All are: how many there were. */
    private static void takenBack() {
        SacredHens x = Check.camp(CAMP);
        check.due("undo of none", x.undo(), -5);
        check.due("anew of none", x.anew(), 0);
        x.feeds(4);
        x.asks(1, 1);
        x.asks(0, 5);
        check.due("undo, the latest", x.undo(), 2);
        check.due("not that of the last day", x.asked(), 2);
        check.due("nor the feeding", x.fattened(), 16);
        check.due("undo", x.undo(), 1);
        check.due("undo to none", x.undo(), 0);
        check.all("nothing done", 0, x.asked(), x.fattened(), x.count(6));
        check.due("undo beyond", x.undo(), -5);
        x.asks(0, 1);
        x.asks(1, 3);
        check.due("anew", x.anew(), 2);
        check.all("nothing done", 0, x.asked(), x.count(6), x.anew());
        check.due("and none is left to take back", x.undo(), -5);
        check.due("its bill is free again", x.asks(1, 3), 0);
    }

    private static final List<ToLongFunction<SacredHens>> OF_ACTS = List.of(x -> x.hunger(3), x -> x.hunger(5), SacredHens::eat, x -> x.open(0),
        x -> x.open(1), x -> x.best(3), x -> x.best(5), SacredHens::asked, SacredHens::fattened, SacredHens::fast, x -> x.first(5),
        x -> x.passed(1), x -> x.passed(3), x -> x.when(0), x -> x.when(1), x -> x.why(0), x -> x.why(1), x -> x.worth(0), x -> x.falls(1),
        SacredHens::worst, x -> x.chance(1), x -> x.drawn(0, 0), x -> x.drawn(0, 1), x -> x.luck(0, 20, 0), x -> x.count(6));

    /** 11 to 22, 48, 49, 64, 69, 70: acts as now: by what is taken back, drawn, or gone back to nothing is left of what was. */
    private static void actsAsNow() {
        for (int i = 0; i < OF_ACTS.size(); i++) {
            ToLongFunction<SacredHens> call = OF_ACTS.get(i);
            SacredHens plain = Check.camp(CAMP);
            plain.asks(0, 1);
            long due = call.applyAsLong(plain);
            SacredHens undone = Check.camp(CAMP);
            undone.asks(0, 1);
            undone.asks(1, 3);
            undone.undo();
            check.due("call " + i + " behind undo()", call.applyAsLong(undone), due);
            SacredHens again = Check.camp(CAMP);
            again.asks(2, 3);
            again.feeds(5);
            again.anew();
            again.asks(0, 1);
            again.image(0);
            again.asks(1, 3);
            again.back(0);
            check.due("call " + i + " behind back()", call.applyAsLong(again), due);
            SacredHens drawn = Check.camp(CAMP.replace("odds 5", "odds 0"));
            drawn.asks(0, 1);
            drawn.drawn(1, 0);
            SacredHens notDrawn = Check.camp(CAMP.replace("odds 5", "odds 0"));
            notDrawn.asks(0, 1);
            check.due("call " + i + " behind drawn()", call.applyAsLong(drawn), call.applyAsLong(notDrawn));
            SacredHens other = Check.camp(SECOND);
            doSecond(other);
            Check.tell(other, CAMP);
            check.due("call " + i + " behind camp()", call.applyAsLong(other), call.applyAsLong(Check.camp(CAMP)));
        }
    }

    /** Terms I: 14 days, 8 augurs, 8 bills, and as many acts as there can be: each call has its place. */
    private static void allThatACampHolds() {
        SacredHens x = Check.camp("camp days 14 hunger 1 greed 1 odds 5;mark 13;" + "augur of 1 from 12 to 12;augur of 0 from 13 to 13;".repeat(4)
            + "bill of 0 worth 1;bill of 1 worth 2;".repeat(4));
        for (int bill = 0; bill < 8; bill++) {
            x.asks(bill, bill + 5);
        }
        for (int day = 0; day < 5; day++) {
            x.feeds(day);
        }
        x.feeds(13);
        for (int day = 0; day < 14; day++) {
            boolean passes = day >= 5 && day < 13;
            check.due("passed(" + day + ")", x.passed(day), passes ? day - 5 : -1);
            check.due("falls(" + day + ")", x.falls(day), passes ? 1 << day - 5 : 0);
            check.due("hunger(" + day + ")", x.hunger(day), 1);
            check.due("best(" + day + ")", x.best(day), passes ? day - 5 : -1);
        }
        check.due("worth(0)", x.worth(0), 4);
        check.due("worth(1)", x.worth(1), 8);
        check.due("worst()", x.worst(), 6);
        check.due("open(0)", x.open(0), Check.bits(5, 7, 9, 11));
        check.due("open(1)", x.open(1), Check.bits(6, 8, 10, 12));
        check.due("no day is left", x.asks(0, 13), -5);
    }

    private static long next(long state) {
        return BigInteger.valueOf(state).multiply(BigInteger.valueOf(1103515245)).add(BigInteger.valueOf(12345))
            .mod(BigInteger.valueOf(2147483648L)).longValue();
    }

    private static long draw(long state) {
        return state / 65536 % 10;
    }

    /** Terms X: x becomes (1103515245 x + 12345) modulo 2,147,483,648; a draw: x / 65536, cut, modulo 10; below odds they do. */
    private static void drawsAsTold() {
        int[] seeds = {0, 1, 2, 9, 65536, 1103515245, 1073741824, 1999999999, 2000000000};
        for (int odds = 0; odds <= 10; odds++) {
            SacredHens x = Check.camp(EIGHT.replace("odds 5", "odds " + odds));
            for (int bill = 0; bill < 8; bill++) {
                x.asks(bill, 7 - bill);
            }
            for (int seed : seeds) {
                long state = seed;
                int due = 0;
                for (int day = 0; day < 8; day++) {
                    state = next(state);
                    due |= draw(state) < odds ? 1 << 7 - day : 0;
                }
                check.due("drawn(" + seed + ", 0), odds " + odds, x.drawn(seed, 0), due);
                check.due("drawn(" + seed + ", 1)", x.drawn(seed, 1), 8);
            }
        }
    }

    /** 69, Terms X: on each DAY on which hens are asked and would EAT a draw; what 0: BILLS that PASS, 1: draws. */
    private static void seasons() {
        SacredHens x = Check.camp(CAMP.replace("odds 5", "odds 10"));
        check.all("nothing asked", 0, x.drawn(7, 0), x.drawn(7, 1));
        x.feeds(0);
        check.due("no draw where they are fed", x.drawn(7, 1), 0);
        x.asks(1, 1);
        check.due("nor where they would not eat", x.drawn(7, 1), 0);
        x.asks(0, 3);
        check.due("a draw", x.drawn(7, 1), 1);
        x.undo();
        x.undo();
        x.asks(0, 2);
        check.due("one where the day is marked", x.drawn(7, 1), 1);
        x.asks(2, 5);
        check.due("and where it is seen", x.drawn(7, 1), 2);
        check.due("none pass", x.drawn(7, 0), 0);
        x.anew();
        x.asks(0, 0);
        x.asks(1, 3);
        check.due("one after the other", x.drawn(7, 0), 3);
        check.due("acts are as they were", x.count(6), 2);
        check.due("passing is as it was", x.when(1), 3);
        // After one that did not pass none does, whatever is drawn for it.
        SacredHens half = Check.camp("camp days 3 hunger 1 greed 1 odds 6;bill of 0 worth 1;bill of 0 worth 1 after 0;");
        half.asks(0, 0);
        half.asks(1, 1);
        int seed = 0;
        while (draw(next(seed)) < 6 || draw(next(next(seed))) >= 6) {
            seed++;
        }
        check.due("the first not, the second would", half.drawn(seed, 0), 0);
        check.due("a draw for each", half.drawn(seed, 1), 2);
    }

    /** 69, 70: a seed (0 .. 2,000,000,000), n (1 .. 20); of n such from seeds, the seed and 1, .., in how many a BILL PASSES. */
    private static void seeds() {
        SacredHens x = Check.camp(EIGHT.replace("odds 5", "odds 4"));
        x.asks(0, 1);
        check.all("no such seed", -2, x.drawn(-1, 0), x.drawn(2000000001, 0), x.drawn(MIN, 1), x.drawn(MAX, 1), x.luck(-1, 1, 0),
            x.luck(2000000001, 1, 0), x.luck(MIN, 1, 0), x.luck(MAX, 20, 0));
        check.all("no such n", -2, x.luck(0, 0, 0), x.luck(0, 21, 0), x.luck(0, -1, 0), x.luck(0, MIN, 0), x.luck(0, MAX, 0));
        check.all("no such bill", -2, x.luck(0, 1, -1), x.luck(0, 1, 8));
        for (int first : new int[] {0, 77, 1999999980}) {
            int lucky = 0;
            for (int n = 1; n <= 20; n++) {
                lucky += draw(next(first + n - 1)) < 4 ? 1 : 0;
                check.due("luck(" + first + ", " + n + ", 0)", x.luck(first, n, 0), lucky);
            }
        }
        check.due("the last seed", x.luck(2000000000, 1, 0), draw(next(2000000000)) < 4 ? 1 : 0);
        check.due("a bill not asked for", x.luck(0, 20, 1), 0);
    }

    /** 71: The worth of a BILL is n (0 .. 99) from now on: what it was. -5: there are acts that are not taken back. */
    private static void ratings() {
        SacredHens x = Check.camp(CAMP);
        check.all("no such worth", -2, x.rate(1, -1), x.rate(1, 100), x.rate(1, MIN), x.rate(1, MAX));
        check.due("it stays", x.bill(1, 1), 9);
        check.due("rate to 0", x.rate(1, 0), 9);
        check.due("bill(1, 1)", x.bill(1, 1), 0);
        check.due("rate to 99", x.rate(1, 99), 0);
        check.due("best by the new worth", x.plan(0), 104);
        x.asks(0, 0);
        check.due("with an act", x.rate(1, 5), -5);
        check.all("-2 ahead of -5", -2, x.rate(4, 5), x.rate(-1, 5), x.rate(1, 100));
        check.due("it stays", x.bill(1, 1), 99);
        x.anew();
        check.due("taken back", x.rate(1, 5), 99);
        check.due("the others stay", x.bill(2, 1), 9);
        Check.tell(x, CAMP);
        check.due("a camp told again is as told", x.bill(1, 1), 9);
    }

    private static SacredHens first() {
        SacredHens x = Check.camp(CAMP);
        x.rate(1, 33);
        doFirst(x);
        return x;
    }

    private static void doFirst(SacredHens x) {
        x.asks(1, 5);
        x.feeds(1);
        x.asks(0, 3);
    }

    private static final String SECOND = "camp days 9 hunger 7 greed 4 odds 1; mark 0; mark 8;augur of 0 from 1 to 2; augur of 1 from 3 to 7;"
        + "augur of 1 from 2 to 2;bill of 1 worth 50;bill of 1 worth 60;bill of 0 worth 70 after 1;bill of 1 worth 80 after 0;bill of 0 worth 90 after 3;";

    private static void doSecond(SacredHens x) {
        x.feeds(0);
        x.asks(3, 8);
    }

    /** 73, 74: IMAGE k (0 .. 2) keeps the CAMP, and acts. It is as IMAGE k has it. */
    private static void imagesKeep() {
        SacredHens second = Check.camp(SECOND);
        doSecond(second);
        String firstSeen = State.of(first());
        String secondSeen = State.of(second);
        for (int k = 0; k < 3; k++) {
            SacredHens x = first();
            check.due("image", x.image(k), 0);
            Check.tell(x, SECOND);
            doSecond(x);
            check.due("back from another camp", x.back(k), 0);
            check.same("image " + k + " and back", firstSeen, State.of(x));
            check.due("the latest act is the latest", x.undo(), 2);
            check.due("it was asked last", x.asked(), 32);
            SacredHens y = Check.camp(SECOND);
            doSecond(y);
            y.image((k + 1) % 3);
            Check.tell(y, CAMP);
            y.rate(1, 33);
            doFirst(y);
            y.image(k);
            y.image(k);
            y.camp();
            check.due("no camp", y.marks(), -2);
            check.due("back from none", y.back((k + 1) % 3), 0);
            check.same("image and back from none", secondSeen, State.of(y));
            check.due("back to the other", y.back(k), 0);
            check.same("the other image", firstSeen, State.of(y));
        }
    }

    /** 73, 74: -2: no such k; -6: it has nothing. An image is not changed by what is done later, nor used up. */
    private static void imagesRefused() {
        SacredHens x = first();
        check.all("nothing kept", -6, x.back(0), x.back(1), x.back(2));
        check.all("no such k", -2, x.image(-1), x.image(3), x.image(MIN), x.image(MAX), x.back(-1), x.back(3), x.back(MIN), x.back(MAX));
        check.all("refused images keep nothing", -6, x.back(0), x.back(1), x.back(2));
        check.due("refused backs change nothing", x.count(6), 3);
        x.image(1);
        check.all("the others have nothing", -6, x.back(0), x.back(2));
        x.anew();
        x.rate(1, 44);
        x.feeds(0);
        for (int time = 0; time < 3; time++) {
            check.due("back", x.back(1), 0);
            check.due("acts as kept", x.count(6), 3);
            check.due("asked as kept", x.asked(), 40);
            x.anew();
            check.due("worth as kept", x.rate(1, 44), 33);
        }
        x.image(1);
        x.back(1);
        check.due("in place of what it kept", x.count(6), 0);
        check.due("the worth too", x.bill(1, 1), 44);
        SacredHens none = new SacredHens();
        check.due("image of no camp", none.image(2), 0);
        Check.tell(none, CAMP);
        check.due("back to no camp", none.back(2), 0);
        check.all("there is none", -2, none.marks(), none.undo());
        check.due("count(7)", none.count(7), 0);
        // The tape, the fault and the slots are no part of an image.
        SacredHens y = first();
        y.image(0);
        Check.tell(y, "?");
        y.row(3, 2, 4);
        y.feed(0, 0, 0, 0, 0);
        y.back(0);
        check.due("the tape stays", y.count(8), 20);
        check.due("the fault stays", y.fault(0), 1);
        check.due("the slot stays", y.count(9), 1);
    }
}
