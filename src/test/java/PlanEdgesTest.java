/**
 * Promises 23 to 38 with Terms IV and V, sentence by sentence: bounds on both sides, NONE, and which of several it
 * is. A remark with a number tells the promise, the words behind it are the document's.
 */
public final class PlanEdgesTest {
    private static final Check check = new Check();
    private static final int MIN = Integer.MIN_VALUE;
    private static final int MAX = Integer.MAX_VALUE;
    private static final String EVERY_DAY = "camp days 14 hunger 9 greed 1 odds 5;";

    public static void main(String[] args) {
        noneSuch();
        noBills();
        hungryInTime();
        clearDaysAlone();
        aheadOfOthers();
        actsAside();
        mostWorth();
        leastRow();
        ofThisCampAlone();
        allRows();
        mostBills();
        firstAndLastDay();
        mostAhead();
        askedForOnNoDay();
        billsOfBoth();
        neverPasses();
        fewestDays();
        leastSetOfDays();
        dayToWatch();
        augurToBribe();
        markToTake();
        check.end();
    }

    /** 23 to 38: -2: there is no such SIDE, BILL, DAY; nothing happens. */
    private static void noneSuch() {
        SacredHens x = Check.camp("camp days 3 hunger 9 greed 1 odds 5;mark 0;bill of 0 worth 4;bill of 1 worth 5;augur of 1 from 1 to 1;");
        x.asks(0, 2);
        String ahead = State.of(x);
        for (int side : new int[] {-1, 2, MIN, MAX}) {
            check.all("side " + side, -2, x.plan(side), x.planned(side, 0), x.ways(side), x.many(side), x.spoil(side), x.spoilt(side),
                x.bribe(side), x.unmark(side));
        }
        for (int bill : new int[] {-1, 2, 8, MIN, MAX}) {
            check.all("bill " + bill, -2, x.soonest(bill), x.latest(bill), x.without(bill), x.value(bill), x.stop(bill), x.stops(bill));
        }
        check.all("no such day", -2, x.planned(0, -1), x.planned(0, 3), x.planned(1, 14), x.planned(0, MIN), x.planned(0, MAX), x.planned(2, 3));
        check.same("calls for none such", ahead, State.of(x));
    }

    /** 23 to 26, 29, 32, 35 to 38: a SIDE without BILLS has one PLAN, of no worth. */
    private static void noBills() {
        SacredHens x = Check.camp(EVERY_DAY + "mark 3;augur of 0 from 5 to 6;bill of 1 worth 9;");
        check.all("no worth, no bills", 0, x.plan(0), x.many(0), x.spoilt(0));
        check.due("ways", x.ways(0), 1);
        check.all("none", -1, x.planned(0, 0), x.planned(0, 13), x.spoil(0), x.bribe(0), x.unmark(0));
        SacredHens none = Check.camp(EVERY_DAY);
        check.all("none at all", 0, none.plan(0), none.plan(1), none.together(), none.many(1));
        check.due("deepest", none.deepest(), -1);
    }

    /** Terms IV: hens are asked on no other DAY, nor fed: they EAT by hunger as told and by greed, not a day sooner. */
    private static void hungryInTime() {
        for (int greed = 1; greed <= 9; greed++) {
            for (int days = 1; days <= 14; days++) {
                for (int hunger = 0; hunger <= 9; hunger++) {
                    SacredHens x = Check.camp("camp days " + days + " hunger " + hunger + " greed " + greed + " odds 5;"
                        + "bill of 1 worth 1;".repeat(8));
                    int from = Math.max(0, greed - hunger);
                    int times = from >= days ? 0 : Math.min(8, 1 + (days - 1 - from) / greed);
                    String name = days + " days, hunger " + hunger + ", greed " + greed;
                    check.due("plan, " + name, x.plan(1), times);
                    check.due("many, " + name, x.many(1), times);
                    check.due("soonest, " + name, x.soonest(7), times == 0 ? -1 : from);
                    check.due("latest, " + name, x.latest(7), times == 0 ? -1 : days - 1);
                    check.due("stop, " + name, x.stop(7), Math.max(0, days - from));
                }
            }
        }
    }

    /** Terms III, IV: on no marked DAY, on none that the other SIDE watches; its own AUGURS are no matter. */
    private static void clearDaysAlone() {
        SacredHens x = Check.camp("camp days 5 hunger 9 greed 1 odds 5;mark 0;augur of 1 from 4 to 4;augur of 0 from 1 to 2;"
            + "bill of 0 worth 5;bill of 1 worth 5;");
        check.due("soonest of side 0", x.soonest(0), 1);
        check.due("latest of side 0", x.latest(0), 3);
        check.due("ways of side 0", x.ways(0), 3);
        check.due("soonest of side 1", x.soonest(1), 3);
        check.due("latest of side 1", x.latest(1), 4);
        check.due("ways of side 1", x.ways(1), 2);
        SacredHens shut = Check.camp("camp days 3 hunger 9 greed 1 odds 5;mark 1;augur of 1 from 0 to 0;augur of 1 from 2 to 2;bill of 0 worth 5;");
        check.all("no day is left", 0, shut.plan(0), shut.many(0), shut.stop(0), shut.stops(0), shut.together(), shut.without(0), shut.value(0));
        check.all("no day is left", -1, shut.planned(0, 0), shut.soonest(0), shut.latest(0), shut.spoil(0));
        check.due("the one row", shut.ways(0), 1);
    }

    /** Terms III, IV: the BILL it is after PASSED on a DAY ahead, by the same row. */
    private static void aheadOfOthers() {
        String chain = "bill of 0 worth 1;bill of 0 worth 9 after 0;bill of 0 worth 9 after 1;";
        SacredHens x = Check.camp("camp days 2 hunger 9 greed 1 odds 5;" + chain);
        check.due("two days for three", x.plan(0), 10);
        check.due("the third never", x.soonest(2), -1);
        check.due("the second on the last day", x.soonest(1), 1);
        check.due("the first, on either", x.latest(0), 1);
        SacredHens y = Check.camp("camp days 3 hunger 9 greed 1 odds 5;" + chain);
        check.due("three days for three", y.plan(0), 19);
        check.due("the third on the last day", y.soonest(2), 2);
        SacredHens other = Check.camp("camp days 5 hunger 9 greed 1 odds 5;bill of 1 worth 5;bill of 0 worth 9 after 0;bill of 0 worth 3 after 1;");
        check.all("after one of the other side", 0, other.plan(0), other.many(0), other.stop(1), other.stops(2), other.value(1));
        check.all("never", -1, other.soonest(1), other.latest(1), other.soonest(2));
        check.due("without it they would not pass either", other.without(1), 0);
    }

    /** Terms IV: acts aside. */
    private static void actsAside() {
        SacredHens x = Check.camp("camp days 6 hunger 2 greed 2 odds 5;mark 1;augur of 1 from 2 to 2;bill of 0 worth 5;bill of 0 worth 6 after 0;bill of 1 worth 2;");
        int[] ahead = planAnswers(x);
        x.asks(1, 0);
        x.feeds(3);
        x.asks(2, 5);
        int[] behind = planAnswers(x);
        for (int i = 0; i < ahead.length; i++) {
            check.due("answer " + i + " with acts", behind[i], ahead[i]);
        }
    }

    private static int[] planAnswers(SacredHens x) {
        return new int[] {x.plan(0), x.planned(0, 5), x.ways(0), x.many(0), x.soonest(1), x.latest(1), x.deepest(), x.without(0), x.value(0),
            x.together(), x.stop(1), x.stops(1), x.spoil(0), x.spoilt(0), x.bribe(0), x.unmark(0), x.plan(1), x.ways(1)};
    }

    /** 23: the greatest worth of a SIDE: fewer BILLS, if they are worth more; all of them, if there are days. */
    private static void mostWorth() {
        check.due("99 each", Check.camp(EVERY_DAY + "bill of 1 worth 99;".repeat(8)).plan(1), 792);
        SacredHens x = Check.camp("camp days 1 hunger 9 greed 1 odds 5;bill of 0 worth 98;bill of 0 worth 99;bill of 0 worth 97;");
        check.due("of one day", x.plan(0), 99);
        check.due("its bill", x.planned(0, 0), 1);
        SacredHens y = Check.camp("camp days 2 hunger 9 greed 1 odds 5;bill of 0 worth 0;bill of 0 worth 50 after 0;bill of 0 worth 20;bill of 0 worth 20;");
        check.due("one of no worth for another's sake", y.plan(0), 50);
        SacredHens z = Check.camp("camp days 2 hunger 9 greed 1 odds 5;bill of 0 worth 0;bill of 0 worth 50 after 0;bill of 0 worth 20;bill of 0 worth 31;");
        check.due("or two others", z.plan(0), 51);
    }

    /** 24: The BILL of a DAY by the first such (the least row, NONE first). NONE: none. */
    private static void leastRow() {
        plannedRow("late rather than soon", "camp days 3 hunger 9 greed 1 odds 5;bill of 1 worth 5;", 1, -1, -1, 0);
        plannedRow("bills by their numbers", "camp days 3 hunger 9 greed 1 odds 5;bill of 1 worth 5;bill of 1 worth 7;bill of 1 worth 6;", 1, 0, 1, 2);
        plannedRow("the least bill of equal ones", "camp days 2 hunger 9 greed 2 odds 5;bill of 0 worth 5;bill of 0 worth 5;", 0, -1, 0);
        plannedRow("a greater one, if it must be", "camp days 3 hunger 9 greed 2 odds 5;bill of 0 worth 4;bill of 0 worth 5;bill of 0 worth 5;", 0, 1, -1, 2);
        plannedRow("none of no worth", "camp days 3 hunger 9 greed 1 odds 5;bill of 0 worth 0;bill of 0 worth 0;", 0, -1, -1, -1);
        plannedRow("one of no worth ahead of another", "camp days 3 hunger 9 greed 1 odds 5;bill of 0 worth 0;bill of 0 worth 7 after 0;", 0, -1, 0, 1);
        plannedRow("no day but one", "camp days 3 hunger 9 greed 1 odds 5;mark 1;mark 2;bill of 0 worth 3;bill of 1 worth 7;", 0, 0, -1, -1);
        plannedRow("a side of its own", "camp days 3 hunger 9 greed 1 odds 5;mark 1;mark 2;bill of 0 worth 3;bill of 1 worth 7;", 1, 1, -1, -1);
        plannedRow("not one that is after another, though it is worth as much", "camp days 1 hunger 9 greed 1 odds 5;bill of 0 worth 0;bill of 0 worth 9 after 0;bill of 0 worth 9;", 0, 2);
        plannedRow("as late as hunger lets", "camp days 5 hunger 0 greed 2 odds 5;bill of 0 worth 3;bill of 0 worth 3;", 0, -1, -1, 0, -1, 1);
    }

    /** 23 to 26, 32: what was answered of another camp, side or day leaves nothing behind. */
    private static void ofThisCampAlone() {
        SacredHens x = Check.camp(EVERY_DAY + "bill of 0 worth 99;bill of 1 worth 98;".repeat(4));
        check.due("together", x.together(), 788);
        check.due("plan of either", x.plan(0) + x.plan(1), 788);
        check.due("planned", x.planned(1, 13), 7);
        Check.tell(x, "camp days 6 hunger 9 greed 2 odds 5;bill of 0 worth 3;bill of 0 worth 3;bill of 1 worth 2;bill of 1 worth 2 after 2;");
        int[] first = {-1, -1, -1, 0, -1, 1};
        int[] second = {-1, -1, -1, 2, -1, 3};
        for (int day = 5; day >= 0; day--) {
            check.due("planned(0, " + day + ")", x.planned(0, day), first[day]);
            check.due("planned(1, " + day + ")", x.planned(1, day), second[day]);
        }
        check.due("many, and then plan", x.many(0), 2);
        check.due("plan", x.plan(0), 6);
        check.due("ways", x.ways(0), 20);
        check.due("ways of the other", x.ways(1), 10);
        behindAnother("camp days 2 hunger 5 greed 1 odds 5;bill of 0 worth 2;bill of 0 worth 2;",
            "camp days 5 hunger 0 greed 2 odds 5;bill of 0 worth 2;bill of 0 worth 2;bill of 0 worth 3;", -1, -1, 0, -1, 2);
        behindAnother("camp days 5 hunger 8 greed 2 odds 5;bill of 0 worth 3;bill of 0 worth 1;",
            "camp days 3 hunger 3 greed 1 odds 5;mark 0;bill of 0 worth 2;bill of 0 worth 3;bill of 0 worth 3 after 0;", -1, 0, 1);
    }

    private static void behindAnother(String ahead, String text, int... row) {
        SacredHens x = Check.camp(ahead);
        check.due("plan of the one ahead", x.plan(0), 4);
        Check.tell(x, text);
        for (int day = row.length - 1; day >= 0; day--) {
            check.due("planned(0, " + day + ") behind another camp", x.planned(0, day), row[day]);
        }
    }

    private static void plannedRow(String name, String text, int side, int... row) {
        SacredHens x = Check.camp(text);
        for (int day = 0; day < row.length; day++) {
            check.due(name + ": planned(" + side + ", " + day + ")", x.planned(side, day), row[day]);
        }
    }

    /** 25: How many PLANS have that worth: rows, the order told apart, those with bills of no worth too. */
    private static void allRows() {
        String two = "camp days 2 hunger 9 greed 1 odds 5;";
        check.due("never hungry: the row of none", Check.camp("camp days 2 hunger 0 greed 5 odds 5;bill of 0 worth 1;").ways(0), 1);
        check.due("one bill, two days", Check.camp(two + "bill of 0 worth 1;").ways(0), 2);
        check.due("of no worth: on neither too", Check.camp(two + "bill of 0 worth 0;").ways(0), 3);
        check.due("two bills, either order", Check.camp(two + "bill of 0 worth 1;bill of 0 worth 2;").ways(0), 2);
        check.due("one after the other", Check.camp(two + "bill of 0 worth 1;bill of 0 worth 2 after 0;").ways(0), 1);
        check.due("one of three in vain", Check.camp(two + "bill of 0 worth 1;bill of 0 worth 1;bill of 0 worth 1;").ways(0), 6);
        check.due("none of the other side", Check.camp(two + "bill of 1 worth 1;").ways(0), 1);
        long most = 14L * 13 * 12 * 11 * 10 * 9 * 8 * 7;
        check.due("eight on fourteen days", Check.camp(EVERY_DAY + "bill of 0 worth 1;".repeat(8)).ways(0), most);
    }

    /** 26: The most BILLS that PASS by any PLAN, not by the one worth most. */
    private static void mostBills() {
        SacredHens x = Check.camp("camp days 2 hunger 9 greed 1 odds 5;bill of 0 worth 0;bill of 0 worth 0;bill of 0 worth 0;");
        check.due("of no worth", x.many(0), 2);
        check.due("of the other side none", x.many(1), 0);
        check.due("all eight", Check.camp(EVERY_DAY + "bill of 0 worth 0;".repeat(8)).many(0), 8);
        SacredHens y = Check.camp("camp days 6 hunger 9 greed 3 odds 5;bill of 0 worth 0;bill of 0 worth 80 after 0;bill of 0 worth 90;");
        check.due("two are worth most", y.plan(0), 90);
        check.due("two are most", y.many(0), 2);
        y.rate(0, 50);
        check.due("its worth is no matter", y.many(0), 2);
    }

    /** 27, 28: The first, the last DAY on which a BILL can PASS. NONE: on none. */
    private static void firstAndLastDay() {
        SacredHens x = Check.camp("camp days 14 hunger 1 greed 2 odds 5;mark 1;mark 13;augur of 1 from 5 to 5;bill of 0 worth 0;bill of 0 worth 0 after 0;"
            + "bill of 0 worth 0 after 1;bill of 0 worth 0 after 2;bill of 0 worth 0 after 3;bill of 0 worth 0 after 4;bill of 0 worth 0 after 5;");
        int[] soonest = {2, 4, 6, 8, 10, 12, -1};
        for (int bill = 0; bill < 7; bill++) {
            check.due("soonest(" + bill + ")", x.soonest(bill), soonest[bill]);
            check.due("latest(" + bill + ")", x.latest(bill), bill < 6 ? 12 : -1);
        }
        SacredHens ends = Check.camp(EVERY_DAY + "bill of 1 worth 0;");
        check.due("day 0", ends.soonest(0), 0);
        check.due("day 13", ends.latest(0), 13);
    }

    /** 29: The BILL with most BILLS ahead of it, the first of several, if any has one. NONE: none. */
    private static void mostAhead() {
        String head = "camp days 1 hunger 0 greed 1 odds 5;bill of 0 worth 1;bill of 1 worth 1;";
        check.due("none has one", Check.camp(head).deepest(), -1);
        check.due("one ahead", Check.camp(head + "bill of 0 worth 1 after 1;").deepest(), 2);
        check.due("the first of several", Check.camp(head + "bill of 0 worth 1 after 1;bill of 0 worth 1 after 0;").deepest(), 2);
        check.due("most, of either side", Check.camp(head + "bill of 0 worth 1 after 1;bill of 0 worth 1 after 0;bill of 1 worth 1 after 3;").deepest(), 4);
        check.due("seven ahead", Check.camp("camp days 1 hunger 0 greed 1 odds 5;bill of 0 worth 1;bill of 0 worth 1 after 0;bill of 0 worth 1 after 1;"
            + "bill of 0 worth 1 after 2;bill of 0 worth 1 after 3;bill of 0 worth 1 after 4;bill of 0 worth 1 after 5;bill of 0 worth 1 after 6;")
            .deepest(), 7);
    }

    /** 30, 31: if a BILL were asked for on no DAY; by how much that is less than plan(). */
    private static void askedForOnNoDay() {
        SacredHens x = Check.camp("camp days 2 hunger 9 greed 1 odds 5;bill of 0 worth 10;bill of 0 worth 20 after 0;bill of 0 worth 10;bill of 1 worth 40;bill of 0 worth 0;");
        int[] without = {10, 20, 30, 0, 30};
        int[] value = {20, 10, 0, 40, 0};
        for (int bill = 0; bill < 5; bill++) {
            check.due("without(" + bill + ")", x.without(bill), without[bill]);
            check.due("value(" + bill + ")", x.value(bill), value[bill]);
        }
        check.due("the only bill of its side", x.plan(1), 40);
    }

    /** 32: BILLS of both SIDES by any row, DAY by DAY a BILL of either that PASSES then, or none. */
    private static void billsOfBoth() {
        SacredHens x = Check.camp("camp days 3 hunger 9 greed 1 odds 5;augur of 0 from 0 to 1;augur of 1 from 1 to 2;"
            + "bill of 0 worth 10;bill of 1 worth 20 after 0;bill of 0 worth 40 after 1;bill of 1 worth 5;bill of 0 worth 7;");
        check.due("0 on day 0, 1 on day 2; 2 never", x.together(), 30);
        check.due("side 0 alone", x.plan(0), 10);
        check.due("side 1 alone", x.plan(1), 5);
        SacredHens one = Check.camp("camp days 3 hunger 9 greed 3 odds 5;bill of 0 worth 10;bill of 1 worth 20;");
        check.due("one day for both", one.together(), 20);
        SacredHens two = Check.camp("camp days 4 hunger 9 greed 3 odds 5;bill of 0 worth 10;bill of 1 worth 20;");
        check.due("a day for each", two.together(), 30);
        check.due("all there are", Check.camp(EVERY_DAY + "bill of 0 worth 99;bill of 1 worth 99;".repeat(4)).together(), 792);
    }

    /** 33, 34: none are needed, where a BILL never PASSES. */
    private static void neverPasses() {
        SacredHens x = Check.camp("camp days 3 hunger 9 greed 2 odds 5;mark 0;bill of 0 worth 1;bill of 0 worth 1 after 0;bill of 1 worth 1;bill of 0 worth 1 after 2;");
        check.all("no second day; after one of the other side", 0, x.stop(1), x.stops(1), x.stop(3), x.stops(3));
        check.due("stop(0): days that are not marked", x.stop(0), 2);
        check.due("stops(0)", x.stops(0), Check.bits(1, 2));
        SacredHens fasting = Check.camp("camp days 3 hunger 0 greed 3 odds 5;bill of 0 worth 1;");
        check.all("they never eat", 0, fasting.stop(0), fasting.stops(0));
        SacredHens last = Check.camp("camp days 4 hunger 0 greed 3 odds 5;bill of 0 worth 1;");
        check.due("they eat on the last day", last.stop(0), 1);
        check.due("that day", last.stops(0), 8);
    }

    /** 33: the fewest DAYS to WATCH: from none to all fourteen. */
    private static void fewestDays() {
        StringBuilder text = new StringBuilder(EVERY_DAY + "bill of 0 worth 1;");
        for (int after = 0; after < 7; after++) {
            text.append("bill of 0 worth 1 after ").append(after).append(";");
        }
        SacredHens x = Check.camp(text.toString());
        for (int bill = 0; bill < 8; bill++) {
            check.due("stop(" + bill + ")", x.stop(bill), 14 - bill);
            check.due("stops(" + bill + ")", x.stops(bill), (1 << 14 - bill) - 1);
        }
        for (int clear = 1; clear <= 14; clear++) {
            String marks = "";
            for (int day = clear; day < 14; day++) {
                marks = marks + "mark " + day + ";";
            }
            SacredHens y = Check.camp(text + marks);
            check.due("stop(7), " + clear + " days", y.stop(7), Math.max(0, clear - 7));
            check.due("stop(0), " + clear + " days", y.stop(0), clear);
        }
    }

    /** 34: the least set of so few. */
    private static void leastSetOfDays() {
        String chain = "bill of 0 worth 1;bill of 0 worth 1 after 0;";
        SacredHens either = Check.camp("camp days 3 hunger 9 greed 2 odds 5;" + chain);
        check.due("day 0 or day 2: one", either.stop(1), 1);
        check.due("the least", either.stops(1), 1);
        SacredHens last = Check.camp("camp days 5 hunger 9 greed 3 odds 5;mark 2;mark 3;" + chain);
        check.due("0 or 1 and then 4: one", last.stop(1), 1);
        check.due("4 alone, not 0 and 1", last.stops(1), 16);
        SacredHens two = Check.camp("camp days 6 hunger 9 greed 4 odds 5;mark 2;mark 3;" + chain);
        check.due("0 or 1 and then 4 or 5: two", two.stop(1), 2);
        check.due("0 and 1, or 0 and 5, not 4 and 5", two.stops(1), 3);
        SacredHens own = Check.camp("camp days 3 hunger 9 greed 2 odds 5;augur of 1 from 0 to 0;" + chain);
        check.due("one watches already", own.stop(1), 0);
    }

    /** 35, 36: The DAY to WATCH besides by which PLAN is least worth, if less than now, the first of several; as now without. */
    private static void dayToWatch() {
        String bills = "bill of 1 worth 5;bill of 1 worth 6;";
        SacredHens both = Check.camp("camp days 4 hunger 9 greed 3 odds 5;" + bills);
        check.due("day 0 or day 3: the first", both.spoil(1), 0);
        check.due("one bill is left", both.spoilt(1), 6);
        SacredHens last = Check.camp("camp days 5 hunger 9 greed 3 odds 5;mark 2;mark 3;" + bills);
        check.due("day 4 alone", last.spoil(1), 4);
        check.due("one bill is left", last.spoilt(1), 6);
        SacredHens spare = Check.camp("camp days 3 hunger 9 greed 1 odds 5;" + bills);
        check.due("another day serves as well", spare.spoil(1), -1);
        check.due("as now", spare.spoilt(1), 11);
        SacredHens only = Check.camp("camp days 3 hunger 9 greed 1 odds 5;mark 0;mark 2;bill of 0 worth 1;");
        check.due("the only day", only.spoil(0), 1);
        check.due("nothing is left", only.spoilt(0), 0);
        only.rate(0, 0);
        check.due("nothing is less than nothing", only.spoil(0), -1);
        check.due("as now", only.spoilt(0), 0);
        SacredHens near = Check.camp("camp days 2 hunger 9 greed 1 odds 5;bill of 0 worth 1;bill of 0 worth 9;");
        check.due("less by one alone", near.spoil(0), 0);
        check.due("one less", near.spoilt(0), 9);
        SacredHens end = Check.camp("camp days 14 hunger 0 greed 9 odds 5;mark 9;mark 10;mark 11;mark 12;bill of 0 worth 1;");
        check.due("the last day", end.spoil(0), 13);
    }

    /** 37: The AUGUR of the other SIDE without whom PLAN is worth most, if more than now, the first of several. NONE: none. */
    private static void augurToBribe() {
        String head = "camp days 6 hunger 9 greed 1 odds 5;bill of 0 worth 5;bill of 0 worth 6;bill of 0 worth 7;";
        SacredHens x = Check.camp(head + "augur of 0 from 0 to 5;augur of 1 from 0 to 0;augur of 1 from 2 to 4;augur of 1 from 1 to 1;augur of 1 from 4 to 5;");
        check.due("days 2 and 3 by augur 2, one day by each other", x.bribe(0), 2);
        SacredHens first = Check.camp(head + "augur of 1 from 0 to 1;augur of 1 from 2 to 3;augur of 1 from 4 to 4;");
        check.due("two days by either of two, the first", first.bribe(0), 0);
        SacredHens covered = Check.camp(head + "augur of 1 from 0 to 5;augur of 1 from 0 to 5;");
        check.due("each is covered by the other", covered.bribe(0), -1);
        SacredHens idle = Check.camp(head + "augur of 1 from 0 to 1;");
        check.due("there are days enough", idle.bribe(0), -1);
        SacredHens own = Check.camp(head + "augur of 0 from 0 to 5;");
        check.due("its own never stopped it", own.bribe(0), -1);
        check.due("side 1 has no bill", own.bribe(1), -1);
        String near = "camp days 3 hunger 9 greed 1 odds 5;augur of 1 from 0 to 0;augur of 1 from 1 to 2;bill of 0 worth 5;";
        check.due("either makes it 5", Check.camp(near).bribe(0), 0);
        check.due("the other one more than that", Check.camp(near + "bill of 0 worth 1;").bribe(0), 1);
        check.due("one more than now", Check.camp("camp days 2 hunger 9 greed 1 odds 5;augur of 1 from 1 to 1;bill of 0 worth 9;bill of 0 worth 1;").bribe(0), 0);
        check.due("no more than now", Check.camp("camp days 2 hunger 9 greed 1 odds 5;augur of 1 from 1 to 1;bill of 0 worth 9;bill of 0 worth 0;").bribe(0), -1);
        SacredHens last = Check.camp(head + "augur of 0 from 0 to 5;".repeat(7) + "augur of 1 from 0 to 5;");
        check.due("augur 7", last.bribe(0), 7);
    }

    /** 38: The marked DAY without whose mark PLAN is worth most, if more than now, the first of several. NONE: none. */
    private static void markToTake() {
        String bills = "bill of 0 worth 5;bill of 0 worth 6;bill of 0 worth 7;";
        String every = "camp days 4 hunger 9 greed 1 odds 5;mark 3;mark 1;mark 0;";
        check.due("the first of several", Check.camp(every + bills).unmark(0), 0);
        check.due("not one that is watched too", Check.camp(every + bills + "augur of 1 from 0 to 0;").unmark(0), 1);
        check.due("the last day", Check.camp(every + bills + "augur of 1 from 0 to 2;").unmark(0), 3);
        check.due("all are watched too", Check.camp(every + bills + "augur of 1 from 0 to 3;").unmark(0), -1);
        check.due("its own augurs are no matter", Check.camp(every + bills + "augur of 0 from 0 to 3;").unmark(0), 0);
        check.due("days enough", Check.camp("camp days 4 hunger 9 greed 1 odds 5;mark 2;" + bills).unmark(0), -1);
        check.due("no marks", Check.camp("camp days 2 hunger 9 greed 1 odds 5;" + bills).unmark(0), -1);
        check.due("of no use so near", Check.camp("camp days 3 hunger 9 greed 2 odds 5;mark 1;" + bills).unmark(0), -1);
        check.due("of use for one more alone", Check.camp("camp days 2 hunger 9 greed 1 odds 5;mark 1;bill of 0 worth 9;bill of 0 worth 1;").unmark(0), 1);
        check.due("of use for no more", Check.camp("camp days 2 hunger 9 greed 1 odds 5;mark 1;bill of 0 worth 9;bill of 0 worth 0;").unmark(0), -1);
        check.due("a day that is of use, not the first marked", Check.camp("camp days 5 hunger 9 greed 2 odds 5;mark 1;mark 4;" + bills).unmark(0), 4);
    }
}
