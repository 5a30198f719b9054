/** Promises 23 to 38: plans, what stops bills, what spoils plans and what helps them. */
public final class PlanTest {
    private static final Check check = new Check();
    /** Hens can be asked on every other day from day 1 on: 1, 3, 5, 7 at most. */
    private static final String CAMP = "camp days 8 hunger 1 greed 2 odds 5; mark 3; augur of 1 from 6 to 7; augur of 0 from 1 to 2;"
        + "bill of 0 worth 5; bill of 0 worth 20 after 0; bill of 0 worth 8; bill of 1 worth 4; bill of 0 worth 50 after 3;";

    public static void main(String[] args) {
        noneSuch();
        plans();
        hungerBounds();
        equalPlans();
        mostWays();
        soonestAndLatest();
        withoutBills();
        stopping();
        changing();
        noChange();
        longChain();
        shorterCampBehindALonger();
        check.end();
    }

    private static void noneSuch() {
        SacredHens empty = new SacredHens();
        SacredHens x = Check.camp(CAMP);
        check.due("deepest() without a camp", empty.deepest(), -2);
        check.due("together() without a camp", empty.together(), -2);
        sideAnswers(empty, 0);
        sideAnswers(x, -1);
        sideAnswers(x, 2);
        billAnswers(empty, 0);
        billAnswers(x, -1);
        billAnswers(x, 5);
        check.due("planned, day -1", x.planned(0, -1), -2);
        check.due("planned, day 8", x.planned(0, 8), -2);
    }

    private static void sideAnswers(SacredHens x, int side) {
        int[] answers = {x.plan(side), x.planned(side, 0), x.ways(side), x.many(side), x.spoil(side), x.spoilt(side),
            x.bribe(side), x.unmark(side)};
        for (int i = 0; i < answers.length; i++) {
            check.due("answer " + i + " to side " + side, answers[i], -2);
        }
    }

    private static void billAnswers(SacredHens x, int bill) {
        int[] answers = {x.soonest(bill), x.latest(bill), x.without(bill), x.value(bill), x.stop(bill), x.stops(bill)};
        for (int i = 0; i < answers.length; i++) {
            check.due("answer " + i + " to bill " + bill, answers[i], -2);
        }
    }

    /** Side 0 may ask on 1, 2, 4, 5: two bills at most. */
    private static void plans() {
        SacredHens x = Check.camp(CAMP);
        check.due("plan(0)", x.plan(0), 25);
        // 0 on 1 or 2 and 1 on 4 or 5, but for days too near.
        check.due("ways(0)", x.ways(0), 4);
        int[] first = {-1, -1, 0, -1, -1, 1, -1, -1};
        for (int day = 0; day < 8; day++) {
            check.due("planned(0, " + day + ")", x.planned(0, day), first[day]);
        }
        check.due("many(0)", x.many(0), 2);
        check.due("plan(1)", x.plan(1), 4);
        check.due("ways(1)", x.ways(1), 4);
        check.due("planned(1, 7): the least row asks last", x.planned(1, 7), 3);
        check.due("together(): 0 on 2, 1 on 4, 3 on 6; 4 would be too late", x.together(), 29);
        check.due("deepest()", x.deepest(), 1);
        check.due("asks(0, 1)", x.asks(0, 1), 1);
        check.due("feeds(4)", x.feeds(4), 3);
        check.due("acts are aside", x.plan(0), 25);
        check.due("ways with acts", x.ways(0), 4);
        SacredHens y = Check.camp("camp days 3 hunger 9 greed 2 odds 5; augur of 0 from 2 to 2; augur of 1 from 0 to 0;"
            + "bill of 1 worth 4; bill of 0 worth 50 after 0;");
        check.due("together(): after one of the other side", y.together(), 54);
        check.due("plan(0) alone never comes to it", y.plan(0), 0);
    }

    private static void hungerBounds() {
        SacredHens never = Check.camp("camp days 4 hunger 5 greed 9 odds 5; bill of 0 worth 5;");
        check.due("plan where they never eat", never.plan(0), 0);
        check.due("ways", never.ways(0), 1);
        check.due("many", never.many(0), 0);
        check.due("planned", never.planned(0, 3), -1);
        check.due("soonest", never.soonest(0), -1);
        check.due("latest", never.latest(0), -1);
        check.due("stop", never.stop(0), 0);
        check.due("stops", never.stops(0), 0);
        check.due("together", never.together(), 0);
        SacredHens last = Check.camp("camp days 5 hunger 5 greed 9 odds 5; bill of 0 worth 5; bill of 0 worth 6;");
        check.due("plan on the last day", last.plan(0), 6);
        check.due("planned", last.planned(0, 4), 1);
        check.due("soonest", last.soonest(0), 4);
        SacredHens none = Check.camp("camp days 2 hunger 9 greed 1 odds 5;");
        check.due("plan without bills", none.plan(1), 0);
        check.due("ways without bills", none.ways(1), 1);
        check.due("deepest without bills", none.deepest(), -1);
        check.due("together without bills", none.together(), 0);
    }

    private static void equalPlans() {
        SacredHens x = Check.camp("camp days 3 hunger 9 greed 1 odds 5; bill of 0 worth 5; bill of 0 worth 5; bill of 0 worth 0;");
        check.due("plan", x.plan(0), 10);
        // Rows of both bills: 3 pairs of days, 2 orders; with the third of no worth on the day left, or not.
        check.due("ways", x.ways(0), 12);
        check.due("planned 0", x.planned(0, 0), -1);
        check.due("planned 1", x.planned(0, 1), 0);
        check.due("planned 2", x.planned(0, 2), 1);
        check.due("many counts the one of no worth", x.many(0), 3);
        check.due("deepest: none is after another", x.deepest(), -1);
    }

    private static void mostWays() {
        SacredHens x = Check.camp("camp days 14 hunger 9 greed 1 odds 5;" + "bill of 1 worth 0;".repeat(8));
        long ways = 0;
        for (int k = 0; k <= 8; k++) {
            long rows = 1;
            for (int i = 0; i < k; i++) {
                rows = rows * (14 - i) * (8 - i) / (i + 1);
            }
            ways += rows;
        }
        check.due("ways of bills of no worth", x.ways(1), ways);
        check.due("the first asks for none", x.planned(1, 13), -1);
        check.due("many", x.many(1), 8);
    }

    private static void soonestAndLatest() {
        SacredHens x = Check.camp(CAMP);
        int[] soonest = {1, 4, 1, 4, -1};
        int[] latest = {5, 5, 5, 7, -1};
        for (int bill = 0; bill < 5; bill++) {
            check.due("soonest(" + bill + ")", x.soonest(bill), soonest[bill]);
            check.due("latest(" + bill + ")", x.latest(bill), latest[bill]);
        }
    }

    private static void withoutBills() {
        SacredHens x = Check.camp(CAMP);
        int[] without = {8, 13, 25, 0, 25};
        int[] value = {17, 12, 0, 4, 0};
        for (int bill = 0; bill < 5; bill++) {
            check.due("without(" + bill + ")", x.without(bill), without[bill]);
            check.due("value(" + bill + ")", x.value(bill), value[bill]);
        }
    }

    private static void stopping() {
        SacredHens x = Check.camp(CAMP);
        check.due("stop(0): all its days", x.stop(0), 4);
        check.due("stops(0)", x.stops(0), Check.bits(1, 2, 4, 5));
        check.due("stop(1): either half", x.stop(1), 2);
        check.due("stops(1): the least half", x.stops(1), Check.bits(1, 2));
        check.due("stop(4) never passes", x.stop(4), 0);
        check.due("stops(4)", x.stops(4), 0);
        SacredHens chain = Check.camp("camp days 9 hunger 0 greed 3 odds 5; bill of 0 worth 1; bill of 0 worth 1 after 0; augur of 1 from 5 to 5;");
        // 0 on 3 and 1 on 6 .. 8; 0 on 4 and 1 on 7, 8. Days 3 and 4 are enough.
        check.due("stop", chain.stop(1), 2);
        check.due("stops", chain.stops(1), Check.bits(3, 4));
    }

    private static void changing() {
        SacredHens x = Check.camp(CAMP);
        check.due("spoil(0): no one day spoils it", x.spoil(0), -1);
        check.due("spoilt(0)", x.spoilt(0), 25);
        check.due("unmark(0): 1, 3 and 5", x.unmark(0), 3);
        check.due("bribe(0): 2, 4 and 6", x.bribe(0), 0);
        check.due("bribe(1): nothing more", x.bribe(1), -1);
        check.due("unmark(1)", x.unmark(1), -1);
        SacredHens y = Check.camp("camp days 4 hunger 9 greed 1 odds 5; augur of 0 from 2 to 3; augur of 0 from 3 to 3; augur of 1 from 0 to 3; mark 1;"
            + "bill of 1 worth 5; bill of 1 worth 6;");
        check.due("plan on day 0 alone", y.plan(1), 6);
        check.due("spoil(1)", y.spoil(1), 0);
        check.due("spoilt(1)", y.spoilt(1), 0);
        check.due("bribe(1): day 2 is free then", y.bribe(1), 0);
        check.due("unmark(1)", y.unmark(1), 1);
        check.due("spoil(0) without bills", y.spoil(0), -1);
        check.due("spoilt(0) without bills", y.spoilt(0), 0);
    }

    private static void noChange() {
        SacredHens x = Check.camp("camp days 4 hunger 9 greed 3 odds 5; bill of 0 worth 5; bill of 0 worth 6; mark 1; mark 2; augur of 1 from 1 to 2;");
        check.due("plan on days 0 and 3", x.plan(0), 11);
        check.due("the first of several spoils", x.spoil(0), 0);
        check.due("spoilt", x.spoilt(0), 6);
        check.due("bribe of no use", x.bribe(0), -1);
        check.due("unmark of no use", x.unmark(0), -1);
    }

    private static void longChain() {
        StringBuilder text = new StringBuilder("camp days 14 hunger 9 greed 1 odds 5; bill of 1 worth 1;");
        for (int after = 0; after < 7; after++) {
            text.append("bill of 1 worth 1 after ").append(after).append(";");
        }
        SacredHens x = Check.camp(text.toString());
        check.due("plan", x.plan(1), 8);
        check.due("ways: 8 of 14 days", x.ways(1), 3003);
        check.due("together", x.together(), 8);
        check.due("deepest", x.deepest(), 7);
        for (int bill = 0; bill < 8; bill++) {
            check.due("soonest(" + bill + ")", x.soonest(bill), bill);
            check.due("latest(" + bill + ")", x.latest(bill), 13);
            check.due("stop(" + bill + "): as many days are left as are ahead", x.stop(bill), 14 - bill);
            check.due("stops(" + bill + ")", x.stops(bill), (1 << 14 - bill) - 1);
            check.due("without(" + bill + ")", x.without(bill), bill);
            check.due("needs(" + bill + ")", x.needs(bill), (1 << bill) - 1);
            check.due("heirs(" + bill + ")", x.heirs(bill), 256 - (2 << bill));
            check.due("planned(" + (6 + bill) + ")", x.planned(1, 6 + bill), bill);
        }
    }

    private static void shorterCampBehindALonger() {
        SacredHens x = Check.camp("camp days 14 hunger 9 greed 1 odds 5; augur of 0 from 7 to 13;" + "bill of 0 worth 9;".repeat(8));
        check.due("plan", x.plan(0), 72);
        check.due("many", x.many(0), 8);
        check.due("stop", x.stop(7), 14);
        x.asks(7, 13);
        Check.tell(x, "camp days 5 hunger 9 greed 2 odds 5; bill of 1 worth 2; bill of 1 worth 3 after 0; bill of 0 worth 4;");
        check.due("plan(1)", x.plan(1), 5);
        check.due("ways(1)", x.ways(1), 6);
        check.due("plan(0)", x.plan(0), 4);
        check.due("ways(0)", x.ways(0), 5);
        check.due("together", x.together(), 9);
        check.due("stop(1)", x.stop(1), 3);
        check.due("stops(1)", x.stops(1), Check.bits(0, 1, 2));
        check.due("when(1)", x.when(1), -1);
        check.due("eat()", x.eat(), 31);
    }
}
