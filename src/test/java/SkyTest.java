/** Promises 9, 10, 39 to 47: who watches the sky, and which of them could be spared. */
public final class SkyTest {
    private static final Check check = new Check();
    /** Side 0: 0 on 0 .. 3, 1 on 2 .. 5, 3 on 4 .. 7, 4 on 3. Side 1: 2 on 5 .. 6, 5 on 9. */
    private static final String CAMP = "camp days 10 hunger 1 greed 2 odds 5; mark 8; mark 2;"
        + "augur of 0 from 0 to 3; augur of 0 from 2 to 5; augur of 1 from 5 to 6; augur of 0 from 4 to 7; augur of 0 from 3 to 3;"
        + "augur of 1 from 9 to 9;";

    public static void main(String[] args) {
        noneSuch();
        colleges();
        holding();
        sparing();
        skies();
        withoutAugurs();
        check.end();
    }

    private static void noneSuch() {
        SacredHens empty = new SacredHens();
        SacredHens x = Check.camp(CAMP);
        check.due("both() without a camp", empty.both(), -2);
        answers(empty, 0);
        answers(x, -1);
        answers(x, 2);
        check.due("hold, k -1", x.hold(0, -1), -2);
        check.due("hold, k 9", x.hold(0, 9), -2);
    }

    private static void answers(SacredHens x, int side) {
        int[] answers = {x.sky(side), x.college(side), x.chosen(side), x.hold(side, 1), x.idle(side), x.lone(side),
            x.tenure(side), x.clear(side), x.run(side)};
        for (int i = 0; i < answers.length; i++) {
            check.due("answer " + i + " to side " + side, answers[i], -2);
        }
    }

    private static void colleges() {
        SacredHens x = Check.camp(CAMP);
        check.due("college(0)", x.college(0), 2);
        check.due("chosen(0)", x.chosen(0), Check.bits(0, 3));
        check.due("college(1)", x.college(1), 2);
        check.due("chosen(1)", x.chosen(1), Check.bits(2, 5));
        SacredHens y = Check.camp("camp days 4 hunger 0 greed 1 odds 0; augur of 0 from 0 to 2; augur of 0 from 0 to 1; augur of 0 from 1 to 3; augur of 0 from 2 to 3;");
        check.due("college of several as few", y.college(0), 2);
        check.due("the least of them", y.chosen(0), Check.bits(0, 2));
    }

    private static void holding() {
        SacredHens x = Check.camp(CAMP);
        int[] most = {0, 4, 8, 8, 8, 8, 8, 8, 8};
        for (int k = 0; k <= 8; k++) {
            check.due("hold(0, " + k + ")", x.hold(0, k), most[k]);
        }
        check.due("hold(1, 1)", x.hold(1, 1), 2);
        check.due("hold(1, 2)", x.hold(1, 2), 3);
    }

    private static void sparing() {
        SacredHens x = Check.camp(CAMP);
        check.due("idle(0)", x.idle(0), Check.bits(1, 4));
        check.due("lone(0)", x.lone(0), Check.bits(0, 3));
        check.due("idle(1)", x.idle(1), 0);
        check.due("lone(1)", x.lone(1), Check.bits(2, 5));
        check.due("tenure(0): the first of several", x.tenure(0), 0);
        check.due("tenure(1)", x.tenure(1), 2);
    }

    private static void skies() {
        SacredHens x = Check.camp(CAMP);
        check.due("sky(0)", x.sky(0), 255);
        check.due("sky(1)", x.sky(1), Check.bits(5, 6, 9));
        check.due("watch(3)", x.watch(3), Check.bits(0, 1, 4));
        check.due("clear(0)", x.clear(0), Check.bits(0, 1, 3, 4, 7));
        check.due("clear(1)", x.clear(1), Check.bits(9));
        check.due("run(0)", x.run(0), 2);
        check.due("run(1)", x.run(1), 1);
        check.due("both()", x.both(), Check.bits(5, 6));
    }

    private static void withoutAugurs() {
        SacredHens x = Check.camp("camp days 14 hunger 1 greed 2 odds 5;");
        check.due("sky", x.sky(0), 0);
        check.due("college", x.college(0), 0);
        check.due("chosen", x.chosen(0), 0);
        check.due("hold", x.hold(0, 8), 0);
        check.due("idle", x.idle(0), 0);
        check.due("lone", x.lone(0), 0);
        check.due("tenure", x.tenure(0), -1);
        check.due("clear", x.clear(1), (1 << 14) - 1);
        check.due("run", x.run(1), 14);
        check.due("both", x.both(), 0);
        SacredHens y = Check.camp("camp days 2 hunger 1 greed 2 odds 5; mark 0; mark 1;");
        check.due("run with all marked", y.run(0), 0);
    }
}
