/** Promises 13 to 22, 48 to 51, 64 to 71, 73 and 74: acts, what passes by them, what falls, chances, draws, images. */
public final class DoneTest {
    private static final Check check = new Check();
    /** Hens eat on days 1 .. 9 when nothing is done; side 0 is stopped on 4 (mark) and 6 (augur 0). */
    private static final String CAMP = "camp days 10 hunger 1 greed 2 odds 5; mark 4; augur of 1 from 6 to 6; augur of 0 from 8 to 8;"
        + "bill of 0 worth 7; bill of 0 worth 9 after 0; bill of 1 worth 9; bill of 1 worth 0 after 1;";

    public static void main(String[] args) {
        noCamp();
        wrongInputs();
        opening();
        asking();
        reasons();
        takingBack();
        feeding();
        falling();
        nothingWorthFalls();
        chances();
        draws();
        rating();
        images();
        check.end();
    }

    private static void noCamp() {
        SacredHens x = new SacredHens();
        long[] answers = {x.open(0), x.best(0), x.asked(), x.fattened(), x.fast(), x.first(0), x.passed(0), x.when(0), x.why(0),
            x.worth(0), x.falls(0), x.worst(), x.needs(0), x.heirs(0), x.chance(0), x.asks(0, 0), x.feeds(0), x.undo(), x.anew(),
            x.drawn(0, 0), x.luck(0, 1, 0), x.rate(0, 0)};
        for (int i = 0; i < answers.length; i++) {
            check.due("answer " + i + " without a camp", answers[i], -2);
        }
    }

    private static void wrongInputs() {
        SacredHens x = Check.camp(CAMP);
        int[] days = {-1, 10, Integer.MAX_VALUE, Integer.MIN_VALUE};
        for (int day : days) {
            check.due("best", x.best(day), -2);
            check.due("first", x.first(day), -2);
            check.due("passed", x.passed(day), -2);
            check.due("falls", x.falls(day), -2);
            check.due("asks", x.asks(0, day), -2);
            check.due("feeds", x.feeds(day), -2);
        }
        int[] bills = {-1, 4, Integer.MAX_VALUE, Integer.MIN_VALUE};
        for (int bill : bills) {
            check.due("when", x.when(bill), -2);
            check.due("why", x.why(bill), -2);
            check.due("needs", x.needs(bill), -2);
            check.due("heirs", x.heirs(bill), -2);
            check.due("asks", x.asks(bill, 0), -2);
            check.due("luck", x.luck(0, 1, bill), -2);
            check.due("rate", x.rate(bill, 0), -2);
        }
        int[] sides = {-1, 2};
        for (int side : sides) {
            check.due("open", x.open(side), -2);
            check.due("worth", x.worth(side), -2);
            check.due("chance", x.chance(side), -2);
            check.due("drawn, no such what", x.drawn(0, side), -2);
        }
        check.due("drawn, seed below 0", x.drawn(-1, 0), -2);
        check.due("drawn, seed too great", x.drawn(2000000001, 0), -2);
        check.due("luck, seed below 0", x.luck(-1, 1, 0), -2);
        check.due("luck, seed too great", x.luck(2000000001, 1, 0), -2);
        check.due("luck, n 0", x.luck(0, 0, 0), -2);
        check.due("luck, n 21", x.luck(0, 21, 0), -2);
        check.due("rate 100", x.rate(0, 100), -2);
        check.due("rate -1", x.rate(0, -1), -2);
        check.due("nothing was done", x.count(6), 0);
    }

    private static void opening() {
        SacredHens x = Check.camp(CAMP);
        check.due("open(0)", x.open(0), Check.bits(1, 2, 3, 5, 7, 8, 9));
        check.due("open(1)", x.open(1), Check.bits(1, 2, 3, 5, 6, 7, 9));
        check.due("best(0): they do not eat", x.best(0), -1);
        check.due("best(1)", x.best(1), 2);
        check.due("best(4): marked", x.best(4), -1);
        check.due("best(8): the other side watches", x.best(8), 0);
        x.asks(0, 3);
        check.due("open(0), its own day aside", x.open(0), Check.bits(3, 5, 7, 8, 9));
        check.due("best(5): bill 1 is the first of worth 9", x.best(5), 1);
        check.due("best(3)", x.best(3), 2);
        x.asks(2, 5);
        check.due("open(1): bill 2 on its day alone, 3 never", x.open(1), Check.bits(5));
        x.feeds(8);
        check.due("open(0): not hungry on 9 by feeding", x.open(0), Check.bits(3, 5, 7, 8));
        check.due("best(8), what is done on it aside", x.best(8), 1);
    }

    private static void asking() {
        SacredHens x = Check.camp(CAMP);
        check.due("asks(1, 3)", x.asks(1, 3), 0);
        check.due("it was asked for", x.asks(1, 5), -5);
        check.due("they were asked on it", x.asks(0, 3), -5);
        check.due("bill 3 is none there, ahead of -5", x.asks(9, 3), -2);
        check.due("asks(0, 1) ahead of it", x.asks(0, 1), 1);
        check.due("now bill 1 passes", x.when(1), 3);
        check.due("when(0)", x.when(0), 1);
        check.due("when(2)", x.when(2), -1);
        check.due("passed(1)", x.passed(1), 0);
        check.due("passed(3)", x.passed(3), 1);
        check.due("passed(2)", x.passed(2), -1);
        check.due("worth(0)", x.worth(0), 16);
        check.due("worth(1)", x.worth(1), 0);
        check.due("asked()", x.asked(), Check.bits(1, 3));
        check.due("fattened()", x.fattened(), 0);
        check.due("fast()", x.fast(), 6);
        check.due("eat()", x.eat(), Check.bits(1, 3, 5, 6, 7, 8, 9));
        check.due("first(1)", x.first(1), 1);
        check.due("first(0)", x.first(0), 2);
        check.due("first(2): by none", x.first(2), -1);
        check.due("first(3): by any", x.first(3), 0);
        check.due("asks(3, 7) after one of the other side", x.asks(3, 7), 1);
        check.due("worth(1) of a bill worth 0", x.worth(1), 0);
        check.due("count(6)", x.count(6), 3);
    }

    private static void reasons() {
        SacredHens x = Check.camp(CAMP);
        check.due("why of one not asked for", x.why(0), -1);
        x.asks(0, 0);
        check.due("hens do not eat", x.why(0), 1);
        x.undo();
        x.asks(1, 4);
        check.due("marked, and after 0: the least", x.why(1), 2);
        x.undo();
        x.asks(1, 6);
        check.due("an augur sees, and after 0: the least", x.why(1), 3);
        x.undo();
        x.asks(1, 8);
        check.due("its own augur does not stop it, bill 0 did not pass", x.why(1), 4);
        x.asks(0, 9);
        check.due("bill 0 is not hungry for", x.why(0), 1);
        check.due("still 4", x.why(1), 4);
        x.undo();
        x.asks(0, 2);
        check.due("bill 0 passes", x.why(0), 0);
        check.due("so does 1", x.why(1), 0);
        x.asks(2, 8);
        check.due("two bills a day there are not", x.why(2), -1);
    }

    private static void takingBack() {
        SacredHens x = Check.camp(CAMP);
        check.due("undo of none", x.undo(), -5);
        check.due("anew of none", x.anew(), 0);
        x.asks(0, 1);
        x.feeds(3);
        x.asks(1, 5);
        check.due("undo", x.undo(), 2);
        check.due("asked()", x.asked(), 2);
        check.due("asks once more", x.asks(1, 6), 0);
        check.due("undo", x.undo(), 2);
        check.due("undo the feeding", x.undo(), 1);
        check.due("fattened()", x.fattened(), 0);
        x.feeds(9);
        check.due("anew", x.anew(), 2);
        check.due("count(6)", x.count(6), 0);
        check.due("asked()", x.asked(), 0);
        check.due("when(0)", x.when(0), -1);
        for (int day = 0; day < 10; day++) {
            check.due("feeds each day", x.feeds(day), 1);
        }
        check.due("fast() with all days fed", x.fast(), 0);
        check.due("no day is left", x.feeds(3), -5);
        check.due("not for a bill either", x.asks(0, 3), -5);
    }

    private static void feeding() {
        SacredHens x = Check.camp(CAMP);
        check.due("feeds(4)", x.feeds(4), 5);
        check.due("feeds again", x.feeds(4), -5);
        check.due("asks on a day of feeding", x.asks(0, 4), -5);
        check.due("asks behind it", x.asks(0, 5), 0);
        check.due("why", x.why(0), 1);
        check.due("feeds where they were asked", x.feeds(5), -5);
        check.due("fattened()", x.fattened(), 16);
        check.due("asked()", x.asked(), 32);
        check.due("feeds(0) takes hunger from the days behind", x.feeds(0), 1);
        check.due("hunger(1)", x.hunger(1), 1);
        check.due("hunger(4)", x.hunger(4), 4);
        check.due("fast()", x.fast(), 4);
    }

    private static void falling() {
        SacredHens x = Check.camp(CAMP);
        check.due("worst() of nothing", x.worst(), -1);
        check.due("falls(1) of nothing", x.falls(1), 0);
        x.asks(2, 1);
        x.asks(0, 3);
        x.asks(1, 5);
        x.asks(3, 7);
        check.due("falls(3): all that are after it", x.falls(3), 11);
        check.due("falls(5)", x.falls(5), 10);
        check.due("falls(7)", x.falls(7), 8);
        check.due("falls(1)", x.falls(1), 4);
        check.due("falls(2)", x.falls(2), 0);
        check.due("worst()", x.worst(), 3);
        x.undo();
        check.due("falls(3) of those that pass", x.falls(3), 3);
        x.undo();
        check.due("worst(): of worth 9, not 7", x.worst(), 1);
        check.due("needs(0)", x.needs(0), 0);
        check.due("needs(1)", x.needs(1), 1);
        check.due("needs(3)", x.needs(3), 3);
        check.due("heirs(0)", x.heirs(0), 10);
        check.due("heirs(1)", x.heirs(1), 8);
        check.due("heirs(3)", x.heirs(3), 0);
    }

    private static void nothingWorthFalls() {
        SacredHens x = Check.camp("camp days 3 hunger 9 greed 1 odds 1; bill of 0 worth 0;");
        x.asks(0, 1);
        check.due("it passes", x.when(0), 1);
        check.due("best of worth 0", x.best(2), -1);
        check.due("best of worth 0 on its day", x.best(1), 0);
        check.due("worst(): no worth falls", x.worst(), -1);
    }

    private static void chances() {
        SacredHens x = Check.camp(CAMP);
        check.due("chance(0) of none", x.chance(0), 1);
        check.due("chance(1) of none", x.chance(1), 1);
        x.asks(0, 1);
        x.asks(1, 3);
        x.asks(2, 4);
        check.due("chance(0) of two that pass", x.chance(0), 1);
        check.due("chance(1) of two that pass", x.chance(1), 4);
        SacredHens never = Check.camp("camp days 3 hunger 9 greed 1 odds 0; bill of 0 worth 0;");
        never.asks(0, 1);
        check.due("chance(0) of odds 0", never.chance(0), 0);
        check.due("chance(1) of odds 0", never.chance(1), 1);
        StringBuilder many = new StringBuilder("camp days 9 hunger 9 greed 1 odds 7;");
        for (int i = 0; i < 8; i++) {
            many.append("bill of 0 worth 1;");
        }
        SacredHens eight = Check.camp(many.toString());
        for (int i = 0; i < 8; i++) {
            eight.asks(i, i);
        }
        check.due("chance(0) of eight", eight.chance(0), 5764801);
        check.due("chance(1) of eight", eight.chance(1), 100000000);
    }

    /** From seed 0: x 12345, draw 0; x 1406932606, draw 21468 mod 10 = 8; x 654583775, draw 9988 mod 10 = 8. */
    private static void draws() {
        SacredHens x = Check.camp(CAMP);
        check.due("drawn, nothing asked", x.drawn(0, 0), 0);
        check.due("no draws", x.drawn(0, 1), 0);
        x.asks(0, 1);
        x.asks(2, 4);
        x.asks(1, 6);
        x.asks(3, 7);
        x.feeds(9);
        check.due("bill 0 alone: 0 is below 5, 8 is not", x.drawn(0, 0), 1);
        check.due("a draw also where marked or seen, none where they would not eat", x.drawn(0, 1), 3);
        check.due("the greatest seed", x.drawn(2000000000, 1), 3);
        int lucky = 0;
        for (int seed = 100; seed < 120; seed++) {
            lucky += x.drawn(seed, 0) & 1;
        }
        check.due("luck is as many", x.luck(100, 20, 0), lucky);
        check.due("luck of one", x.luck(0, 1, 0), 1);
        check.due("luck of one that can't pass", x.luck(0, 20, 1), 0);
        check.due("draws are no acts", x.count(6), 5);
        check.due("seeds behind the greatest", x.luck(2000000000, 20, 2), 0);
        SacredHens sure = Check.camp("camp days 3 hunger 9 greed 1 odds 10; bill of 0 worth 0; bill of 0 worth 0 after 0;");
        sure.asks(0, 0);
        sure.asks(1, 1);
        check.due("odds 10", sure.drawn(77, 0), 3);
        check.due("luck of odds 10", sure.luck(2000000000, 20, 1), 20);
    }

    private static void rating() {
        SacredHens x = Check.camp(CAMP);
        check.due("rate", x.rate(0, 50), 7);
        check.due("rate again", x.rate(0, 99), 50);
        check.due("bill(0, 1)", x.bill(0, 1), 99);
        check.due("plan(0)", x.plan(0), 108);
        x.feeds(0);
        check.due("rate with acts", x.rate(0, 1), -5);
        check.due("-2 ahead of -5", x.rate(0, 100), -2);
        x.undo();
        check.due("rate with acts taken back", x.rate(0, 0), 99);
    }

    private static void images() {
        SacredHens x = Check.camp(CAMP);
        int[] none = {-1, 3};
        for (int k : none) {
            check.due("image, no such k", x.image(k), -2);
            check.due("back, no such k", x.back(k), -2);
        }
        check.due("back to nothing", x.back(2), -6);
        x.rate(0, 3);
        x.asks(0, 1);
        check.due("image(2)", x.image(2), 0);
        x.asks(1, 3);
        Check.fill(x, 1, 0, 0, 1);
        Check.tell(x, "camp days 3 hunger 9 greed 1 odds 10;mark 9;");
        check.due("back(2)", x.back(2), 0);
        check.due("the acts are as then", x.asked(), 2);
        check.due("the worth is as then", x.bill(0, 1), 3);
        check.due("the fault stays", x.fault(0), 2);
        check.due("the slot stays", x.count(9), 1);
        Check.tell(x, "camp days 3 hunger 9 greed 1 odds 10;mark 2;");
        check.due("image(0)", x.image(0), 0);
        check.due("back(2) again", x.back(2), 0);
        check.due("marks()", x.marks(), 16);
        x.undo();
        check.due("back(2) is not changed by acts", x.back(2), 0);
        check.due("count(6)", x.count(6), 1);
        check.due("back(0)", x.back(0), 0);
        check.due("days of it", x.count(0), 3);
        check.due("lines of it", x.count(7), 2);
        x.camp();
        check.due("image(0) of no camp", x.image(0), 0);
        x.back(2);
        check.due("back(0) to no camp", x.back(0), 0);
        check.due("there is none", x.marks(), -2);
    }
}
