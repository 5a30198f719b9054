/** All that can be seen of an object by some 170 calls that change nothing, its images aside. */
final class State {
    private final StringBuilder seen = new StringBuilder();

    private State() {
    }

    static String of(SacredHens x) {
        State state = new State();
        state.camp(x);
        state.done(x);
        state.slots(x);
        return state.seen.toString();
    }

    private void add(String name, long... answers) {
        seen.append(name);
        for (long answer : answers) {
            seen.append(' ').append(answer);
        }
        seen.append("; ");
    }

    private void camp(SacredHens x) {
        for (int what = 0; what < 9; what++) {
            add("count", x.count(what));
        }
        add("marks", x.marks());
        for (int augur = 0; augur < x.count(4); augur++) {
            add("augur", x.augur(augur, 0), x.augur(augur, 1), x.augur(augur, 2));
        }
        for (int bill = 0; bill < x.count(5); bill++) {
            add("bill", x.bill(bill, 0), x.bill(bill, 1), x.bill(bill, 2));
        }
    }

    private void done(SacredHens x) {
        add("asked, fed, eating", x.asked(), x.fattened(), x.eat());
        for (int bill = 0; bill < x.count(5); bill++) {
            add("when, why", x.when(bill), x.why(bill));
        }
        for (int day = 0; day < x.count(0); day++) {
            add("hunger, passed", x.hunger(day), x.passed(day));
        }
    }

    private void slots(SacredHens x) {
        for (int slot = 0; slot < 4; slot++) {
            add("slot of", size(x, slot), x.tally(slot, 1, 1), x.tally(slot, 1, 0), x.tally(slot, 0, 1), x.tally(slot, 0, 0),
                x.fits(slot));
            for (int other = 0; other < slot; other++) {
                add("widths", x.paste(slot, 0, other, 0, 0));
            }
        }
    }

    /** How many numbers a slot's row has, -6 without: to paste none changes nothing, and tells whether a place is in it. */
    static int size(SacredHens x, int slot) {
        if (x.paste(slot, 0, slot, 0, 0) != 0) {
            return x.paste(slot, 0, slot, 0, 0);
        }
        int in = 0;
        for (int step = 64; step > 0; step /= 2) {
            in += x.paste(slot, in + step, slot, 0, 0) == 0 ? step : 0;
        }
        return in;
    }
}
