/** Promises 52 to 63 and 75 to 77: what was seen, lists of signs, generals and augurs, and the slots themselves. */
public final class SlotTest {
    private static final Check check = new Check();
    private static final String CAMP = "camp days 4 hunger 0 greed 3 odds 5;";

    public static void main(String[] args) {
        rows();
        writing();
        pasting();
        noSeen();
        wrongSeen();
        seen();
        nothingFits();
        noList();
        lists();
        sureLists();
        games();
        check.end();
    }

    private static void rows() {
        SacredHens x = new SacredHens();
        int[][] wrong = {{-1, 0, 1}, {4, 0, 1}, {0, -1, 1}, {0, 4, 1}, {0, 0, 61}, {4, 0, -1}, {0, 4, -1}, {0, 0, Integer.MAX_VALUE}};
        for (int[] w : wrong) {
            check.due("row(" + w[0] + ", " + w[1] + ", " + w[2] + ")", x.row(w[0], w[1], w[2]), -2);
        }
        check.due("row, n below 0", x.row(0, 0, -1), -3);
        check.due("row, n least", x.row(0, 0, Integer.MIN_VALUE), -3);
        check.due("no slot has a row", x.count(9), 0);
        check.due("row of 60", x.row(0, 3, 60), 0);
        check.due("row of none", x.row(3, 0, 0), 0);
        check.due("both have a row", x.count(9), 2);
        check.due("the slot stays", x.row(0, 1, -5), -3);
        check.due("as it was", x.write(0, 59, 1), 0);
        check.due("in place of another", x.row(0, 0, 2), 0);
        check.due("it is shorter", x.write(0, 2, 1), -7);
        Check.tell(x, CAMP);
        x.write(0, 0, 3);
        check.due("row again", x.row(0, 0, 2), 0);
        check.due("all 0: day 0, not eaten", x.fits(0), 3 * 5);
    }

    private static void writing() {
        SacredHens x = Check.camp(CAMP);
        check.due("write, no such slot", x.write(-1, 0, 0), -2);
        check.due("write, no such slot", x.write(4, 0, 0), -2);
        check.due("write, nothing there", x.write(2, 0, 0), -6);
        x.row(2, 0, 2);
        check.due("write(2, -1)", x.write(2, -1, 0), -7);
        check.due("write(2, 2)", x.write(2, 2, 0), -7);
        check.due("write(2, max)", x.write(2, Integer.MAX_VALUE, 0), -7);
        for (int width = 0; width < 4; width++) {
            x.row(2, width, 2);
            for (int bit = 8; bit < 64; bit++) {
                boolean isCut = bit >= 8 << width;
                check.due("write", x.write(2, 0, 1L << bit), 0);
                check.due("width " + width + ", bit " + bit + " of a day", x.fits(2), isCut ? 15 : -2);
            }
            x.write(2, 0, 0);
            x.write(2, 1, -1);
            check.due("-1 is none such, width " + width, x.fits(2), -2);
            x.write(2, 1, 1);
            check.due("1, width " + width, x.fits(2), 7 * 5);
        }
    }

    private static void pasting() {
        SacredHens x = Check.camp(CAMP);
        Check.fill(x, 0, 0, 1, 0, 1, 1, 0, 1);
        x.row(1, 0, 4);
        x.row(2, 1, 4);
        int[][] wrong = {{-1, 0, 0, 0, 0, -2}, {0, 0, 4, 0, 0, -2}, {0, 0, 3, 0, 9, -6}, {3, 0, 0, 0, 9, -6}, {3, 0, 4, 0, 0, -2},
            {0, 0, 2, 0, 0, -8}, {2, 9, 0, 9, 9, -8}, {0, -1, 1, 0, 1, -7}, {0, 0, 1, -1, 1, -7}, {0, 0, 1, 0, -1, -7},
            {0, 3, 1, 0, 4, -7}, {0, 0, 1, 1, 4, -7}, {0, 7, 1, 0, 0, -7}, {0, 0, 1, 5, 0, -7},
            {0, 1, 1, 0, Integer.MAX_VALUE, -7}, {0, Integer.MAX_VALUE, 1, 0, 1, -7}, {0, Integer.MIN_VALUE, 1, 0, Integer.MIN_VALUE, -7}};
        for (int[] w : wrong) {
            check.due("paste " + java.util.Arrays.toString(w), x.paste(w[0], w[1], w[2], w[3], w[4]), w[5]);
        }
        check.due("nothing happened", x.tally(1, 0, 0), 2);
        check.due("paste of none at the ends", x.paste(0, 6, 1, 4, 0), 0);
        check.due("paste", x.paste(0, 2, 1, 0, 4), 0);
        check.due("1 1 there", x.tally(1, 1, 1), 1);
        check.due("0 1 there", x.tally(1, 0, 1), 1);
        check.due("paste onto itself, as they were", x.paste(0, 0, 0, 1, 5), 0);
        // 1 1 0 1 1 0
        check.due("1 1", x.tally(0, 1, 1), 1);
        check.due("0 1", x.tally(0, 0, 1), 1);
        check.due("1 0", x.tally(0, 1, 0), 1);
        check.due("paste back", x.paste(0, 1, 0, 0, 5), 0);
        // 1 0 1 1 0 0
        check.due("1 1 again", x.tally(0, 1, 1), 1);
        check.due("0 0", x.tally(0, 0, 0), 1);
        check.due("0 1", x.tally(0, 0, 1), 0);
    }

    private static void seenAnswers(SacredHens x, int slot, int want) {
        int[] answers = {x.fits(slot), x.fed(slot), x.starved(slot), x.least(slot), x.ask(slot), x.leaves(slot)};
        for (int i = 0; i < answers.length; i++) {
            check.due("answer " + i + " on what was seen", answers[i], want);
        }
    }

    private static void noSeen() {
        SacredHens empty = new SacredHens();
        seenAnswers(empty, 0, -2);
        empty.row(0, 0, 0);
        seenAnswers(empty, 0, -2);
        SacredHens x = Check.camp(CAMP);
        seenAnswers(x, -1, -2);
        seenAnswers(x, 4, -2);
        seenAnswers(x, 0, -6);
    }

    private static void wrongSeen() {
        SacredHens x = Check.camp(CAMP);
        long[][] wrong = {{1}, {0, 0, 1}, {4, 0}, {-1, 0}, {0, 2}, {0, -1}, {0, 1, 99, 1}, {1L << 32, 0}, {0, 1L << 32}};
        for (long[] row : wrong) {
            Check.fill(x, 1, 3, row);
            seenAnswers(x, 1, -2);
        }
    }

    /** Greed 3: unfed they eat on day d by hunger 3 - d or more; fed on day 0 on day 3 again. */
    private static void seen() {
        SacredHens x = Check.camp(CAMP);
        x.row(0, 0, 0);
        check.due("fits nothing seen", x.fits(0), 50);
        check.due("fed", x.fed(0), 15);
        check.due("starved", x.starved(0), 1);
        check.due("least", x.least(0), 0);
        // Eating by 50 pairs: day 0 35; day 1 8 * 4; day 2 9 * 3; day 3 all unfed, fed on 0 or 3.
        check.due("ask", x.ask(0), 2);
        check.due("leaves", x.leaves(0), 27);
        Check.fill(x, 0, 0, 1, 1, 2, 0);
        // Fed on day 1 by hunger 2 or more.
        check.due("fits", x.fits(0), 8);
        check.due("fed", x.fed(0), 2);
        check.due("starved", x.starved(0), 0);
        check.due("least", x.least(0), 2);
        check.due("ask", x.ask(0), 0);
        check.due("leaves", x.leaves(0), 7);
        Check.fill(x, 0, 0, 3, 0, 0, 0, 0, 0);
        // Hunger 0 .. 2, fed on 1 or 2.
        check.due("fits", x.fits(0), 6);
        check.due("fed", x.fed(0), 6);
        check.due("ask", x.ask(0), 1);
        check.due("leaves", x.leaves(0), 4);
        x.feeds(0);
        check.due("acts are aside", x.fits(0), 6);
    }

    private static void nothingFits() {
        SacredHens x = Check.camp(CAMP);
        Check.fill(x, 0, 2, 1, 1, 1, 0);
        check.due("fits", x.fits(0), 0);
        check.due("fed", x.fed(0), 0);
        check.due("starved", x.starved(0), 0);
        check.due("least", x.least(0), -1);
        check.due("ask", x.ask(0), -1);
        check.due("leaves", x.leaves(0), 0);
        SacredHens sure = Check.camp("camp days 1 hunger 0 greed 9 odds 5;");
        Check.fill(sure, 0, 2, 0, 1);
        check.due("fits", sure.fits(0), 2);
        check.due("ask tells nothing", sure.ask(0), -1);
        check.due("leaves as now", sure.leaves(0), 2);
    }

    private static void listAnswers(SacredHens x, int slot, long want) {
        long[] answers = {x.tally(slot, 1, 1), x.doubt(slot, 0), x.doubt(slot, 1), x.share(slot, 1, 0), x.share(slot, 0, 1), x.leans(slot)};
        for (int i = 0; i < answers.length; i++) {
            check.due("answer " + i + " on a list", answers[i], want);
        }
    }

    private static void noList() {
        SacredHens empty = new SacredHens();
        listAnswers(empty, 0, -2);
        empty.row(0, 0, 0);
        listAnswers(empty, 0, -2);
        SacredHens x = Check.camp(CAMP);
        listAnswers(x, -1, -2);
        listAnswers(x, 4, -2);
        listAnswers(x, 0, -6);
        long[][] wrong = {{1}, {0, 0, 1}, {2, 0}, {-1, 0}, {0, 2}, {0, -1}, {0, 1, 1, 1, 0, 1L << 40}};
        for (long[] row : wrong) {
            Check.fill(x, 1, 3, row);
            listAnswers(x, 1, -2);
        }
        int[] none = {-1, 2};
        Check.fill(x, 1, 3, 0, 1);
        for (int n : none) {
            for (int slot = 0; slot < 2; slot++) {
                check.due("tally, no such sign", x.tally(slot, n, 0), -2);
                check.due("tally, no such end", x.tally(slot, 0, n), -2);
                check.due("doubt, no such what", x.doubt(slot, n), -2);
                check.due("share, no such sign", x.share(slot, n, 0), -2);
                check.due("share, no such what", x.share(slot, 0, n), -2);
            }
        }
        check.due("share of none", x.share(1, 1, 0), -1);
        check.due("share of none, below", x.share(1, 1, 1), -1);
    }

    private static void list(SacredHens x, int goodWon, int goodLost, int badWon, int badLost) {
        x.row(0, 0, 2 * (goodWon + goodLost + badWon + badLost));
        int[] counts = {goodWon, goodLost, badWon, badLost};
        int i = 0;
        for (int kind = 0; kind < 4; kind++) {
            for (int n = 0; n < counts[kind]; n++) {
                x.write(0, i++, kind < 2 ? 1 : 0);
                x.write(0, i++, kind % 2 == 0 ? 1 : 0);
            }
        }
    }

    private static void lists() {
        SacredHens x = Check.camp(CAMP);
        list(x, 3, 1, 1, 3);
        check.due("good, won", x.tally(0, 1, 1), 3);
        check.due("good, lost", x.tally(0, 1, 0), 1);
        check.due("bad, won", x.tally(0, 0, 1), 1);
        check.due("bad, lost", x.tally(0, 0, 0), 3);
        check.due("doubt above: 16 + 1 of 70", x.doubt(0, 0), 17);
        check.due("doubt below", x.doubt(0, 1), 70);
        check.due("share above", x.share(0, 1, 0), 3);
        check.due("share below", x.share(0, 1, 1), 4);
        check.due("leans", x.leans(0), 1);
        list(x, 2, 4, 3, 3);
        check.due("share in lowest terms, above", x.share(0, 1, 0), 1);
        check.due("share in lowest terms, below", x.share(0, 1, 1), 3);
        check.due("share of bad, below", x.share(0, 0, 1), 2);
        check.due("leans the other way", x.leans(0), -1);
        list(x, 1, 2, 2, 4);
        check.due("leans by shares, not by counts", x.leans(0), 0);
        list(x, 0, 2, 0, 3);
        check.due("share of no wins, above", x.share(0, 1, 0), 0);
        check.due("share of no wins, below", x.share(0, 1, 1), 1);
    }

    private static void sureLists() {
        SacredHens x = Check.camp(CAMP);
        list(x, 0, 0, 0, 0);
        check.due("doubt of an empty list", x.doubt(0, 0), 1);
        check.due("its other part", x.doubt(0, 1), 1);
        check.due("leans", x.leans(0), 0);
        check.due("tally", x.tally(0, 0, 0), 0);
        list(x, 3, 2, 0, 0);
        check.due("doubt of good signs alone", x.doubt(0, 0), 1);
        check.due("leans if there are none of one kind", x.leans(0), 0);
        list(x, 0, 0, 3, 1);
        check.due("leans if there are none of the other", x.leans(0), 0);
        list(x, 15, 0, 0, 15);
        check.due("doubt of the greatest list", x.doubt(0, 0), 1);
        check.due("its other part", x.doubt(0, 1), 155117520);
    }

    private static void games() {
        SacredHens x = new SacredHens();
        int[][] games = {{0, 0, 10}, {0, 5, 2}, {1, 0, 10}, {1, 1, 3}, {1, 99, 3}, {2, 0, 8}, {2, 1, 0}, {2, 2, 1}, {99, 98, 0}, {99, 99, 1},
            {-1, 0, -2}, {100, 0, -2}, {0, -1, -2}, {0, 100, -2}};
        for (int[] g : games) {
            check.due("rests(" + g[0] + ", " + g[1] + ")", x.rests(g[0], g[1]), g[2]);
        }
        check.due("believes(0)", x.believes(0), -1);
        check.due("believes(1)", x.believes(1), 1);
        check.due("believes(99)", x.believes(99), 99);
        check.due("believes(-1)", x.believes(-1), -2);
        check.due("believes(100)", x.believes(100), -2);
    }
}
