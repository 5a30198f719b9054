/**
 * Promises 39 to 47 with Terms V, sentence by sentence: bounds on both sides, none, and which of several it is.
 * A remark with a number tells the promise, the words behind it are the document's.
 */
public final class SkyEdgesTest {
    private static final Check check = new Check();
    private static final int MIN = Integer.MIN_VALUE;
    private static final int MAX = Integer.MAX_VALUE;
    private static final String HEAD = "camp days 14 hunger 1 greed 2 odds 5;";

    public static void main(String[] args) {
        noneSuch();
        noAugurs();
        fewestAugurs();
        leastSetOfAugurs();
        mostDaysOfSoMany();
        idleOrLone();
        mostDaysOfOne();
        clearDays();
        longestRun();
        daysOfBoth();
        check.end();
    }

    private static String augur(int side, int from, int to) {
        return "augur of " + side + " from " + from + " to " + to + ";";
    }

    /** 39 to 46: -2: there is no such SIDE, k; nothing happens. */
    private static void noneSuch() {
        SacredHens x = Check.camp(HEAD + "mark 3;" + augur(0, 0, 5) + augur(1, 4, 13));
        String ahead = State.of(x);
        for (int side : new int[] {-1, 2, MIN, MAX}) {
            check.all("side " + side, -2, x.college(side), x.chosen(side), x.hold(side, 1), x.hold(side, 9), x.idle(side), x.lone(side),
                x.tenure(side), x.clear(side), x.run(side));
        }
        check.all("no such k", -2, x.hold(0, -1), x.hold(0, 9), x.hold(1, MIN), x.hold(1, MAX));
        check.same("calls for none such", ahead, State.of(x));
    }

    /** 39 to 47: without AUGURS: 0, NONE for tenure(), all days clear. */
    private static void noAugurs() {
        SacredHens x = Check.camp(HEAD + augur(1, 0, 13));
        check.all("nothing is watched", 0, x.college(0), x.chosen(0), x.hold(0, 0), x.hold(0, 1), x.hold(0, 8), x.idle(0), x.lone(0), x.both(),
            x.clear(0), x.run(0));
        check.due("tenure", x.tenure(0), -1);
        check.due("all days are clear", x.clear(1), (1 << 14) - 1);
        check.due("one behind the other", x.run(1), 14);
    }

    /** 39: the fewest of its AUGURS CHOSEN so that all DAYS are watched that a SIDE can watch. */
    private static void fewestAugurs() {
        StringBuilder each = new StringBuilder(HEAD);
        for (int augur = 0; augur < 8; augur++) {
            SacredHens x = Check.camp(each.toString());
            check.due("each of " + augur + " is needed", x.college(1), augur);
            check.due("all of them", x.chosen(1), (1 << augur) - 1);
            each.append(augur(1, augur, augur));
        }
        check.due("eight are needed", Check.camp(each.toString()).chosen(1), 255);
        SacredHens one = Check.camp(HEAD + augur(0, 1, 2) + augur(0, 4, 4) + augur(0, 1, 5) + augur(0, 3, 5));
        check.due("one has all", one.college(0), 1);
        check.due("that one", one.chosen(0), 4);
        SacredHens other = Check.camp(HEAD + augur(1, 0, 9) + augur(0, 1, 2) + augur(0, 2, 3));
        check.due("one of the other side is no help", other.college(0), 2);
        check.due("its own", other.chosen(0), 6);
        SacredHens marked = Check.camp(HEAD + "mark 3;" + augur(0, 1, 2) + augur(0, 3, 3));
        check.due("marked days are watched too", marked.college(0), 2);
    }

    /** 40: the least set of so few. */
    private static void leastSetOfAugurs() {
        SacredHens same = Check.camp(HEAD + augur(0, 0, 13) + augur(0, 0, 13) + augur(1, 0, 13) + augur(0, 0, 13));
        check.due("the first of three alike", same.chosen(0), 1);
        SacredHens middle = Check.camp(HEAD + augur(0, 0, 0) + augur(0, 0, 1) + augur(0, 2, 3) + augur(0, 1, 3));
        check.due("1 and 2, not 0 and 3", middle.chosen(0), 6);
        check.due("two", middle.college(0), 2);
        SacredHens later = Check.camp(HEAD + augur(0, 0, 0) + augur(0, 1, 1) + augur(0, 2, 2) + augur(0, 0, 2));
        check.due("fewer ahead of least", later.chosen(0), 8);
    }

    /** 41: The most DAYS that k (0 .. 8) of its AUGURS watch; of fewer than k all do. */
    private static void mostDaysOfSoMany() {
        SacredHens x = Check.camp(HEAD + augur(0, 0, 0) + augur(1, 0, 13) + augur(0, 2, 5) + augur(0, 4, 8) + augur(0, 7, 9) + augur(0, 13, 13)
            + augur(0, 13, 13) + augur(0, 0, 0));
        // 4 .. 8; 2 .. 5 and 7 .. 9; then 6, 0 and 13, a day each.
        int[] most = {0, 5, 7, 8, 9, 10, 10, 10, 10};
        for (int k = 0; k <= 8; k++) {
            check.due("hold(0, " + k + ")", x.hold(0, k), most[k]);
            check.due("hold(1, " + k + ")", x.hold(1, k), k == 0 ? 0 : 14);
        }
        StringBuilder each = new StringBuilder(HEAD);
        for (int augur = 0; augur < 8; augur++) {
            each.append(augur(1, augur, augur));
        }
        SacredHens eight = Check.camp(each.toString());
        for (int k = 0; k <= 8; k++) {
            check.due("hold(1, " + k + ") of eight", eight.hold(1, k), k);
        }
    }

    /** 42, 43: AUGURS without any one of whom alone it watches as many DAYS; who watch some DAY that no other one of it watches. */
    private static void idleOrLone() {
        SacredHens x = Check.camp(HEAD + augur(0, 0, 3) + augur(0, 3, 6) + augur(0, 4, 5) + augur(0, 0, 2) + augur(0, 13, 13) + augur(1, 13, 13)
            + augur(1, 6, 6));
        check.due("idle(0)", x.idle(0), Check.bits(0, 2, 3));
        check.due("lone(0): 6 and 13 alone, of its own", x.lone(0), Check.bits(1, 4));
        check.due("idle(1)", x.idle(1), 0);
        check.due("lone(1)", x.lone(1), Check.bits(5, 6));
        SacredHens twins = Check.camp(HEAD + augur(1, 2, 3).repeat(8));
        check.due("each alone is idle", twins.idle(1), 255);
        check.due("none is lone", twins.lone(1), 0);
    }

    /** 44: The AUGUR of a SIDE who watches on most DAYS, the first of several. */
    private static void mostDaysOfOne() {
        SacredHens x = Check.camp(HEAD + augur(1, 0, 9) + augur(0, 3, 3) + augur(0, 8, 10) + augur(0, 0, 2) + augur(1, 0, 13) + augur(0, 5, 6));
        check.due("the first of two for three days", x.tenure(0), 2);
        check.due("the one for most", x.tenure(1), 4);
        check.due("one day more than the one ahead", Check.camp(HEAD + augur(0, 3, 5) + augur(0, 10, 13) + augur(0, 1, 3)).tenure(0), 1);
        check.due("for one day", Check.camp(HEAD + augur(0, 13, 13)).tenure(0), 0);
        check.due("augur 7", Check.camp(HEAD + augur(1, 0, 13).repeat(7) + augur(0, 0, 0)).tenure(0), 7);
    }

    /** 45: DAYS neither marked nor watched by the other SIDE. */
    private static void clearDays() {
        SacredHens x = Check.camp("camp days 6 hunger 1 greed 2 odds 5;mark 0;mark 3;" + augur(0, 5, 5) + augur(1, 3, 4));
        check.due("clear(0)", x.clear(0), Check.bits(1, 2, 5));
        check.due("clear(1)", x.clear(1), Check.bits(1, 2, 4));
        SacredHens all = Check.camp(HEAD);
        check.due("all of them", all.clear(0), (1 << 14) - 1);
        SacredHens none = Check.camp(HEAD + augur(0, 0, 6) + augur(0, 7, 13));
        check.due("none", none.clear(1), 0);
        check.due("its own are no matter", none.clear(0), (1 << 14) - 1);
        all.feeds(3);
        check.due("nor is what is done", all.clear(0), (1 << 14) - 1);
    }

    /** 46: The most such DAYS one behind the other. */
    private static void longestRun() {
        SacredHens x = Check.camp(HEAD + "mark 4;mark 9;" + augur(1, 13, 13));
        check.due("0 .. 3, 5 .. 8 or 10 .. 12", x.run(0), 4);
        check.due("5 .. 8 or 10 .. 13", x.run(1), 4);
        check.due("at the start", Check.camp(HEAD + "mark 7;" + augur(1, 9, 9)).run(0), 7);
        check.due("at the end", Check.camp(HEAD + "mark 5;" + augur(1, 1, 2)).run(0), 8);
        check.due("one", Check.camp(HEAD + augur(0, 0, 12)).run(1), 1);
        check.due("none", Check.camp(HEAD + augur(0, 0, 13)).run(1), 0);
        check.due("all of one day", Check.camp("camp days 1 hunger 1 greed 2 odds 5;").run(1), 1);
    }

    /** 47: DAYS that both SIDES watch. */
    private static void daysOfBoth() {
        SacredHens x = Check.camp(HEAD + "mark 3;" + augur(0, 0, 3) + augur(0, 9, 13) + augur(0, 2, 5) + augur(1, 3, 4) + augur(1, 13, 13));
        check.due("both()", x.both(), Check.bits(3, 4, 13));
        check.due("two of one side are not both", Check.camp(HEAD + augur(0, 0, 3) + augur(0, 0, 3)).both(), 0);
        check.due("all days", Check.camp(HEAD + augur(0, 0, 13) + augur(1, 0, 13)).both(), (1 << 14) - 1);
        check.due("none", Check.camp(HEAD + augur(0, 0, 3) + augur(1, 4, 13)).both(), 0);
    }
}
