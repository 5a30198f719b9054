/**
 * If they will not eat: a camp of hens, augurs and bills, told as a text, and what can be asked of it.
 * Every row is made by the constructors and used again, since all calls of a run share one room.
 */
public final class SacredHens {
    public static final int NONE = -1;

    private static final int NO_SUCH = -2;
    private static final int TOO_SMALL = -3;
    private static final int FAULTY = -4;
    private static final int NOT_NOW = -5;
    private static final int NOTHING_THERE = -6;
    private static final int NO_PLACE = -7;
    private static final int OTHER_WIDTH = -8;

    private static final int TAPE_BYTES = 800;
    private static final int FEED_BYTES = 20;
    private static final int MAX_DAYS = 14;
    private static final int MAX_AUGURS = 8;
    private static final int MAX_BILLS = 8;
    private static final int MAX_ACTS = 20;
    private static final int SETS = 256;
    private static final int EVERYONE = 255;
    private static final int MAX_HUNGER = 9;
    private static final int MAX_ODDS = 10;
    private static final int MAX_WORTH = 99;
    private static final int MAX_SEED = 2000000000;
    private static final int MAX_SEASONS = 20;
    private static final int SLOTS = 4;
    private static final int SLOT_NUMBERS = 60;
    private static final int IMAGES = 3;

    private final Tape tape = new Tape();
    private final Reader reader = new Reader();
    private final Season season = new Season();
    private final Planner planner = new Planner();
    private final Chain chain = new Chain();
    private final Row[] slots = new Row[SLOTS];
    private final Hens hens = new Hens();
    private final SignList signs = new SignList();
    private final Camp[] images = new Camp[IMAGES];
    private final boolean[] imageKept = new boolean[IMAGES];
    private Camp now = new Camp();
    private Camp spare = new Camp();

    public SacredHens() {
        for (int slot = 0; slot < SLOTS; slot++) {
            slots[slot] = new Row();
        }
        for (int k = 0; k < IMAGES; k++) {
            images[k] = new Camp();
        }
    }

    // The tape, and the camp as it is told.

    public int feed(int a, int b, int c, int d, int e) {
        if (tape.length > TAPE_BYTES - FEED_BYTES) {
            return NONE;
        }
        tape.append(a);
        tape.append(b);
        tape.append(c);
        tape.append(d);
        tape.append(e);
        return tape.length;
    }

    public int end(int n) {
        if (n < 0 || n > tape.length) {
            return NONE;
        }
        tape.length = n;
        return n;
    }

    public int camp() {
        boolean read = reader.read(tape, spare);
        tape.length = 0;
        if (!read) {
            return FAULTY;
        }
        Camp old = now;
        now = spare;
        spare = old;
        return now.lines;
    }

    public int fault(int what) {
        if (what == 0) {
            return reader.faultKind;
        }
        return what == 1 ? reader.faultPlace : NONE;
    }

    public int augur(int augur, int what) {
        if (!now.hasAugur(augur)) {
            return NO_SUCH;
        }
        switch (what) {
            case 0: return now.augurSide[augur];
            case 1: return now.augurFirst[augur];
            case 2: return now.augurLast[augur];
            default: return NO_SUCH;
        }
    }

    public int bill(int bill, int what) {
        if (!now.hasBill(bill)) {
            return NO_SUCH;
        }
        switch (what) {
            case 0: return now.billSide[bill];
            case 1: return now.billWorth[bill];
            case 2: return now.billAfter[bill];
            default: return NO_SUCH;
        }
    }

    public int marks() {
        return now.isTold() ? now.marked : NO_SUCH;
    }

    public int sky(int side) {
        return now.hasSide(side) ? now.skyOf(now.augursOf(side)) : NO_SUCH;
    }

    public int watch(int day) {
        return now.hasDay(day) ? now.augursOn(day) : NO_SUCH;
    }

    // Hunger, and the days as they stand with the acts.

    public int hunger(int day) {
        if (!now.hasDay(day)) {
            return NO_SUCH;
        }
        season.play(now);
        return season.hungerOn[day];
    }

    public int eat() {
        if (!now.isTold()) {
            return NO_SUCH;
        }
        season.play(now);
        int days = 0;
        for (int day = 0; day < now.days; day++) {
            if (season.hungerOn[day] >= now.greed) {
                days |= 1 << day;
            }
        }
        return days;
    }

    public int open(int side) {
        if (!now.hasSide(side)) {
            return NO_SUCH;
        }
        season.play(now);
        int days = 0;
        for (int day = 0; day < now.days; day++) {
            for (int bill = 0; bill < now.bills; bill++) {
                if (now.billSide[bill] == side && season.couldPass(now, bill, day)) {
                    days |= 1 << day;
                }
            }
        }
        return days;
    }

    public int best(int day) {
        if (!now.hasDay(day)) {
            return NO_SUCH;
        }
        season.play(now);
        int found = NONE;
        int most = -1;
        for (int bill = 0; bill < now.bills; bill++) {
            if (now.billWorth[bill] > most && season.couldPass(now, bill, day)) {
                most = now.billWorth[bill];
                found = bill;
            }
        }
        return found;
    }

    public int asked() {
        return now.isTold() ? now.askedDays() : NO_SUCH;
    }

    public int fattened() {
        return now.isTold() ? now.fedDays() : NO_SUCH;
    }

    public int fast() {
        if (!now.isTold()) {
            return NO_SUCH;
        }
        return longestRun(now.allDays() & ~now.askedDays() & ~now.fedDays());
    }

    public int first(int day) {
        if (!now.hasDay(day)) {
            return NO_SUCH;
        }
        season.play(now);
        int told = season.lastActAhead(day);
        if (told == NONE) {
            return Math.max(0, now.greed - day);
        }
        return day - told >= now.greed ? 0 : NONE;
    }

    public int passed(int day) {
        if (!now.hasDay(day)) {
            return NO_SUCH;
        }
        season.play(now);
        return season.passingOn(now, day);
    }

    public int when(int bill) {
        if (!now.hasBill(bill)) {
            return NO_SUCH;
        }
        season.play(now);
        return season.passDay[bill];
    }

    public int why(int bill) {
        if (!now.hasBill(bill)) {
            return NO_SUCH;
        }
        season.play(now);
        return season.reason[bill];
    }

    public int worth(int side) {
        if (!now.hasSide(side)) {
            return NO_SUCH;
        }
        season.play(now);
        return now.worthOf(season.passing(now) & now.billsOf(side));
    }

    // Plans.

    public int plan(int side) {
        return now.hasSide(side) ? worthOfPlan(side) : NO_SUCH;
    }

    public int planned(int side, int day) {
        if (!now.hasSide(side) || !now.hasDay(day)) {
            return NO_SUCH;
        }
        worthOfPlan(side);
        return planner.billInFirstPlan(day);
    }

    public int ways(int side) {
        if (!now.hasSide(side)) {
            return NO_SUCH;
        }
        worthOfPlan(side);
        return planner.howManyPlans();
    }

    public int many(int side) {
        if (!now.hasSide(side)) {
            return NO_SUCH;
        }
        planner.billsAlike(now);
        return planner.solve(now, now.billsOf(side), now.marked, EVERYONE, 0);
    }

    public int soonest(int bill) {
        if (!now.hasBill(bill)) {
            return NO_SUCH;
        }
        return chain.soonestDay(now, bill);
    }

    public int latest(int bill) {
        if (!now.hasBill(bill)) {
            return NO_SUCH;
        }
        return chain.latestDay(now, bill);
    }

    public int deepest() {
        if (!now.isTold()) {
            return NO_SUCH;
        }
        int found = NONE;
        int most = 0;
        for (int bill = 0; bill < now.bills; bill++) {
            int ahead = Integer.bitCount(now.needsOf(bill));
            if (ahead > most) {
                most = ahead;
                found = bill;
            }
        }
        return found;
    }

    public int without(int bill) {
        return now.hasBill(bill) ? worthWithout(bill) : NO_SUCH;
    }

    public int value(int bill) {
        if (!now.hasBill(bill)) {
            return NO_SUCH;
        }
        return worthOfPlan(now.billSide[bill]) - worthWithout(bill);
    }

    public int together() {
        return now.isTold() ? worthOfPlans(now.allBills(), now.marked, EVERYONE, 0) : NO_SUCH;
    }

    public int stop(int bill) {
        return now.hasBill(bill) ? chain.fewestToStop(now, bill) : NO_SUCH;
    }

    public int stops(int bill) {
        return now.hasBill(bill) ? chain.daysToStop(now, bill) : NO_SUCH;
    }

    public int spoil(int side) {
        return now.hasSide(side) ? spoilingDay(side) : NO_SUCH;
    }

    public int spoilt(int side) {
        if (!now.hasSide(side)) {
            return NO_SUCH;
        }
        int day = spoilingDay(side);
        return worthOfPlans(now.billsOf(side), now.marked, EVERYONE, day == NONE ? 0 : 1 << day);
    }

    public int bribe(int side) {
        if (!now.hasSide(side)) {
            return NO_SUCH;
        }
        int found = NONE;
        int most = worthOfPlan(side);
        for (int augur = 0; augur < now.augurs; augur++) {
            if (now.augurSide[augur] == side) {
                continue;
            }
            int worth = worthOfPlans(now.billsOf(side), now.marked, EVERYONE & ~(1 << augur), 0);
            if (worth > most) {
                most = worth;
                found = augur;
            }
        }
        return found;
    }

    public int unmark(int side) {
        if (!now.hasSide(side)) {
            return NO_SUCH;
        }
        int found = NONE;
        int most = worthOfPlan(side);
        for (int day = 0; day < now.days; day++) {
            if (!holds(now.marked, day)) {
                continue;
            }
            int worth = worthOfPlans(now.billsOf(side), now.marked & ~(1 << day), EVERYONE, 0);
            if (worth > most) {
                most = worth;
                found = day;
            }
        }
        return found;
    }

    private int worthOfPlan(int side) {
        return worthOfPlans(now.billsOf(side), now.marked, EVERYONE, 0);
    }

    private int worthWithout(int bill) {
        int others = now.billsOf(now.billSide[bill]) & ~(1 << bill);
        return worthOfPlans(others, now.marked, EVERYONE, 0);
    }

    private int worthOfPlans(int bills, int marked, int augurs, int besides) {
        planner.billsByWorth(now);
        return planner.solve(now, bills, marked, augurs, besides);
    }

    private int spoilingDay(int side) {
        int found = NONE;
        int least = worthOfPlan(side);
        int used = planner.daysOfFirstPlan();
        for (int day = 0; day < now.days; day++) {
            // A plan that leaves the day alone is worth as much as ever.
            if (!holds(used, day)) {
                continue;
            }
            int worth = worthOfPlans(now.billsOf(side), now.marked, EVERYONE, 1 << day);
            if (worth < least) {
                least = worth;
                found = day;
            }
        }
        return found;
    }

    // Colleges and the sky.

    public int college(int side) {
        return now.hasSide(side) ? Integer.bitCount(fewestAugurs(side)) : NO_SUCH;
    }

    public int chosen(int side) {
        return now.hasSide(side) ? fewestAugurs(side) : NO_SUCH;
    }

    public int hold(int side, int k) {
        if (!now.hasSide(side) || k < 0 || k > MAX_AUGURS) {
            return NO_SUCH;
        }
        int own = now.augursOf(side);
        int most = 0;
        for (int set = 0; set < SETS; set++) {
            // Of fewer than k all watch, so that smaller sets count too.
            if ((set & own) == set && Integer.bitCount(set) <= k) {
                most = Math.max(most, Integer.bitCount(now.skyOf(set)));
            }
        }
        return most;
    }

    public int idle(int side) {
        return now.hasSide(side) ? now.augursOf(side) & ~loneAugurs(side) : NO_SUCH;
    }

    public int lone(int side) {
        return now.hasSide(side) ? loneAugurs(side) : NO_SUCH;
    }

    public int tenure(int side) {
        if (!now.hasSide(side)) {
            return NO_SUCH;
        }
        int found = NONE;
        int most = 0;
        for (int augur = 0; augur < now.augurs; augur++) {
            int days = Integer.bitCount(now.daysOfAugur(augur));
            if (now.augurSide[augur] == side && days > most) {
                most = days;
                found = augur;
            }
        }
        return found;
    }

    public int clear(int side) {
        return now.hasSide(side) ? now.clearDays(side) : NO_SUCH;
    }

    public int run(int side) {
        return now.hasSide(side) ? longestRun(now.clearDays(side)) : NO_SUCH;
    }

    public int both() {
        return now.isTold() ? now.skyOf(now.augursOf(0)) & now.skyOf(now.augursOf(1)) : NO_SUCH;
    }

    private int fewestAugurs(int side) {
        int own = now.augursOf(side);
        int sky = now.skyOf(own);
        int found = own;
        // Sets come from the least on, so that the first of so few stays.
        for (int set = 0; set < own; set++) {
            if ((set & own) == set && Integer.bitCount(set) < Integer.bitCount(found) && now.skyOf(set) == sky) {
                found = set;
            }
        }
        return found;
    }

    private int loneAugurs(int side) {
        int own = now.augursOf(side);
        int sky = now.skyOf(own);
        int lone = 0;
        for (int augur = 0; augur < now.augurs; augur++) {
            int bit = 1 << augur;
            if ((own & bit) != 0 && now.skyOf(own & ~bit) != sky) {
                lone |= bit;
            }
        }
        return lone;
    }

    // Bills that fall, and what they are after.

    public int falls(int day) {
        if (!now.hasDay(day)) {
            return NO_SUCH;
        }
        season.play(now);
        return fallingWith(day);
    }

    public int worst() {
        if (!now.isTold()) {
            return NO_SUCH;
        }
        season.play(now);
        int found = NONE;
        int most = 0;
        for (int day = 0; day < now.days; day++) {
            int worth = now.worthOf(fallingWith(day));
            if (worth > most) {
                most = worth;
                found = day;
            }
        }
        return found;
    }

    public int needs(int bill) {
        return now.hasBill(bill) ? now.needsOf(bill) : NO_SUCH;
    }

    public int heirs(int bill) {
        return now.hasBill(bill) ? now.heirsOf(bill) : NO_SUCH;
    }

    private int fallingWith(int day) {
        int bill = season.passingOn(now, day);
        return bill == NONE ? 0 : (1 << bill | now.heirsOf(bill)) & season.passing(now);
    }

    // What hens had eaten, by what was seen.

    public int fits(int slot) {
        int refused = lookAtSeen(slot);
        return refused < 0 ? refused : hens.pairs;
    }

    public int fed(int slot) {
        int refused = lookAtSeen(slot);
        return refused < 0 ? refused : hens.fedDays;
    }

    public int starved(int slot) {
        int refused = lookAtSeen(slot);
        return refused < 0 ? refused : hens.perhapsUnfed;
    }

    public int least(int slot) {
        int refused = lookAtSeen(slot);
        return refused < 0 ? refused : hens.leastHunger;
    }

    public int ask(int slot) {
        int refused = lookAtSeen(slot);
        return refused < 0 ? refused : hens.dayToKnow(now.days);
    }

    public int leaves(int slot) {
        int refused = lookAtSeen(slot);
        if (refused < 0) {
            return refused;
        }
        int day = hens.dayToKnow(now.days);
        return day == NONE ? hens.pairs : hens.leftAtWorst(day);
    }

    private int lookAtSeen(int slot) {
        if (!hasSlot(slot) || !now.isTold()) {
            return NO_SUCH;
        }
        if (!slots[slot].isThere()) {
            return NOTHING_THERE;
        }
        return hens.look(now, slots[slot]) ? 0 : NO_SUCH;
    }

    // Whether signs tell anything.

    public int tally(int slot, int sign, int won) {
        if (!isChoice(sign) || !isChoice(won)) {
            return NO_SUCH;
        }
        int refused = lookAtList(slot);
        return refused < 0 ? refused : signs.howMany(sign, won);
    }

    public long doubt(int slot, int what) {
        if (!isChoice(what)) {
            return NO_SUCH;
        }
        int refused = lookAtList(slot);
        if (refused < 0) {
            return refused;
        }
        long above = signs.waysAsGood();
        long below = signs.allWays();
        return partOfFraction(above, below, what);
    }

    public int share(int slot, int sign, int what) {
        if (!isChoice(sign) || !isChoice(what)) {
            return NO_SUCH;
        }
        int refused = lookAtList(slot);
        if (refused < 0) {
            return refused;
        }
        int all = signs.withSign(sign);
        return all == 0 ? NONE : (int) partOfFraction(signs.howMany(sign, 1), all, what);
    }

    public int leans(int slot) {
        int refused = lookAtList(slot);
        if (refused < 0) {
            return refused;
        }
        // Where one kind has none both products are 0.
        int good = signs.howMany(1, 1) * signs.withSign(0);
        int bad = signs.howMany(0, 1) * signs.withSign(1);
        return Integer.compare(good, bad);
    }

    private int lookAtList(int slot) {
        if (!hasSlot(slot) || !now.isTold()) {
            return NO_SUCH;
        }
        if (!slots[slot].isThere()) {
            return NOTHING_THERE;
        }
        return signs.look(slots[slot]) ? 0 : NO_SUCH;
    }

    // The general and the augur.

    public int rests(int worth, int belief) {
        if (!isWorth(worth) || !isWorth(belief)) {
            return NO_SUCH;
        }
        int pairs = 0;
        for (int pair = 0; pair < 4; pair++) {
            if (isAtRest(worth, belief, pair < 2, pair % 2 == 0)) {
                pairs |= 1 << pair;
            }
        }
        return pairs;
    }

    public int believes(int worth) {
        if (!isWorth(worth)) {
            return NO_SUCH;
        }
        for (int belief = 0; belief <= MAX_WORTH; belief++) {
            if (isAtRest(worth, belief, true, true)) {
                return belief;
            }
        }
        return NONE;
    }

    private static boolean isAtRest(int worth, int belief, boolean asks, boolean sees) {
        return generalHas(worth, belief, asks, sees) >= generalHas(worth, belief, !asks, sees)
            && augurHas(worth, belief, asks, sees) >= augurHas(worth, belief, asks, !sees);
    }

    private static int generalHas(int worth, int belief, boolean asks, boolean sees) {
        if (!asks) {
            return worth - belief;
        }
        return sees ? 0 : worth;
    }

    private static int augurHas(int worth, int belief, boolean asks, boolean sees) {
        int pain = sees ? 1 : 0;
        if (!asks) {
            return belief - pain;
        }
        return sees ? worth - pain : 0;
    }

    // Chances, and what is done.

    public long chance(int what) {
        if (!isChoice(what) || !now.isTold()) {
            return NO_SUCH;
        }
        season.play(now);
        int passing = Integer.bitCount(season.passing(now));
        long above = 1;
        long below = 1;
        for (int bill = 0; bill < passing; bill++) {
            above *= now.odds;
            below *= MAX_ODDS;
        }
        return partOfFraction(above, below, what);
    }

    public int asks(int bill, int day) {
        if (!now.hasBill(bill) || !now.hasDay(day)) {
            return NO_SUCH;
        }
        if (!now.isFree(day) || now.isAskedFor(bill) || now.acts >= MAX_ACTS) {
            return NOT_NOW;
        }
        now.act(day, bill);
        season.play(now);
        return season.passDay[bill] == NONE ? 0 : 1;
    }

    public int feeds(int day) {
        if (!now.hasDay(day)) {
            return NO_SUCH;
        }
        if (!now.isFree(day) || now.acts >= MAX_ACTS) {
            return NOT_NOW;
        }
        now.act(day, NONE);
        season.play(now);
        return season.hungerOn[day];
    }

    public int undo() {
        if (!now.isTold()) {
            return NO_SUCH;
        }
        if (now.acts <= 0) {
            return NOT_NOW;
        }
        now.acts--;
        return now.acts;
    }

    public int anew() {
        if (!now.isTold()) {
            return NO_SUCH;
        }
        int were = now.acts;
        now.acts = 0;
        return were;
    }

    public int drawn(int seed, int what) {
        if (!isSeed(seed) || !isChoice(what) || !now.isTold()) {
            return NO_SUCH;
        }
        season.draw(now, seed);
        return what == 0 ? season.passing(now) : season.draws;
    }

    public int luck(int seed, int n, int bill) {
        if (!isSeed(seed) || n < 1 || n > MAX_SEASONS || !now.hasBill(bill)) {
            return NO_SUCH;
        }
        int lucky = 0;
        for (int i = 0; i < n; i++) {
            season.draw(now, seed + i);
            if (season.passDay[bill] != NONE) {
                lucky++;
            }
        }
        return lucky;
    }

    public int rate(int bill, int n) {
        if (!now.hasBill(bill) || !isWorth(n)) {
            return NO_SUCH;
        }
        if (now.acts > 0) {
            return NOT_NOW;
        }
        int was = now.billWorth[bill];
        now.billWorth[bill] = n;
        return was;
    }

    // Counts, images and slots.

    public int count(int what) {
        switch (what) {
            case 0: return now.days;
            case 1: return now.hungerTold;
            case 2: return now.greed;
            case 3: return now.odds;
            case 4: return now.augurs;
            case 5: return now.bills;
            case 6: return now.acts;
            case 7: return now.lines;
            case 8: return tape.length;
            case 9: return slotsInUse();
            default: return NONE;
        }
    }

    public int image(int k) {
        if (!hasImage(k)) {
            return NO_SUCH;
        }
        images[k].becomeLike(now);
        imageKept[k] = true;
        return 0;
    }

    public int back(int k) {
        if (!hasImage(k)) {
            return NO_SUCH;
        }
        if (!imageKept[k]) {
            return NOTHING_THERE;
        }
        now.becomeLike(images[k]);
        return 0;
    }

    public int row(int slot, int width, int n) {
        if (!hasSlot(slot) || width < 0 || width > 3 || n > SLOT_NUMBERS) {
            return NO_SUCH;
        }
        if (n < 0) {
            return TOO_SMALL;
        }
        slots[slot].begin(width, n);
        return 0;
    }

    public int write(int slot, int i, long v) {
        if (!hasSlot(slot)) {
            return NO_SUCH;
        }
        Row row = slots[slot];
        if (!row.isThere()) {
            return NOTHING_THERE;
        }
        if (i < 0 || i >= row.size) {
            return NO_PLACE;
        }
        row.numbers[i] = row.cut(v);
        return 0;
    }

    public int paste(int slot, int i, int to, int k, int n) {
        if (!hasSlot(slot) || !hasSlot(to)) {
            return NO_SUCH;
        }
        Row from = slots[slot];
        Row onto = slots[to];
        if (!from.isThere() || !onto.isThere()) {
            return NOTHING_THERE;
        }
        if (from.width != onto.width) {
            return OTHER_WIDTH;
        }
        if (!from.reaches(i, n) || !onto.reaches(k, n)) {
            return NO_PLACE;
        }
        System.arraycopy(from.numbers, i, onto.numbers, k, n);
        return 0;
    }

    private int slotsInUse() {
        int used = 0;
        for (int slot = 0; slot < SLOTS; slot++) {
            if (slots[slot].isThere()) {
                used++;
            }
        }
        return used;
    }

    // Small tests and sums that several calls share.

    private static boolean hasSlot(int slot) {
        return slot >= 0 && slot < SLOTS;
    }

    private static boolean hasImage(int k) {
        return k >= 0 && k < IMAGES;
    }

    private static boolean isChoice(int n) {
        return n == 0 || n == 1;
    }

    private static boolean isWorth(int n) {
        return n >= 0 && n <= MAX_WORTH;
    }

    private static boolean isSeed(int seed) {
        return seed >= 0 && seed <= MAX_SEED;
    }

    private static boolean holds(int days, int day) {
        return (days >> day & 1) != 0;
    }

    private static int longestRun(int days) {
        int longest = 0;
        int length = 0;
        for (int day = 0; day < MAX_DAYS; day++) {
            length = holds(days, day) ? length + 1 : 0;
            longest = Math.max(longest, length);
        }
        return longest;
    }

    private static long partOfFraction(long above, long below, int what) {
        long common = greatestCommon(above, below);
        if (common == 0) {
            return 0;
        }
        return (what == 0 ? above : below) / common;
    }

    private static long greatestCommon(long a, long b) {
        // Euclid's steps for numbers of 63 bits are fewer than a hundred.
        for (int step = 0; step < 100 && b != 0; step++) {
            long rest = a % b;
            a = b;
            b = rest;
        }
        return a;
    }

    /** The bytes that were fed and not yet read. */
    private static final class Tape {
        final byte[] bytes = new byte[TAPE_BYTES];
        int length;

        void append(int number) {
            for (int shift = 24; shift >= 0; shift -= 8) {
                if (length >= 0 && length < bytes.length) {
                    bytes[length] = (byte) (number >> shift);
                    length++;
                }
            }
        }
    }

    /** A camp as told, with what was done in it; without lines there is none. */
    private static final class Camp {
        int lines;
        int days;
        int hungerTold;
        int greed;
        int odds;
        int marked;
        int augurs;
        final int[] augurSide = new int[MAX_AUGURS];
        final int[] augurFirst = new int[MAX_AUGURS];
        final int[] augurLast = new int[MAX_AUGURS];
        int bills;
        final int[] billSide = new int[MAX_BILLS];
        final int[] billWorth = new int[MAX_BILLS];
        final int[] billAfter = new int[MAX_BILLS];
        int acts;
        final int[] actDay = new int[MAX_ACTS];
        /** The bill that was asked for, NONE where hens were fed. */
        final int[] actBill = new int[MAX_ACTS];

        void forget() {
            lines = 0;
            days = 0;
            hungerTold = 0;
            greed = 0;
            odds = 0;
            marked = 0;
            augurs = 0;
            bills = 0;
            acts = 0;
        }

        void becomeLike(Camp other) {
            lines = other.lines;
            days = other.days;
            hungerTold = other.hungerTold;
            greed = other.greed;
            odds = other.odds;
            marked = other.marked;
            augurs = other.augurs;
            bills = other.bills;
            acts = other.acts;
            System.arraycopy(other.augurSide, 0, augurSide, 0, MAX_AUGURS);
            System.arraycopy(other.augurFirst, 0, augurFirst, 0, MAX_AUGURS);
            System.arraycopy(other.augurLast, 0, augurLast, 0, MAX_AUGURS);
            System.arraycopy(other.billSide, 0, billSide, 0, MAX_BILLS);
            System.arraycopy(other.billWorth, 0, billWorth, 0, MAX_BILLS);
            System.arraycopy(other.billAfter, 0, billAfter, 0, MAX_BILLS);
            System.arraycopy(other.actDay, 0, actDay, 0, MAX_ACTS);
            System.arraycopy(other.actBill, 0, actBill, 0, MAX_ACTS);
        }

        boolean isTold() {
            return lines > 0;
        }

        boolean hasDay(int day) {
            return day >= 0 && day < days;
        }

        boolean hasSide(int side) {
            return isTold() && isChoice(side);
        }

        boolean hasAugur(int augur) {
            return augur >= 0 && augur < augurs;
        }

        boolean hasBill(int bill) {
            return bill >= 0 && bill < bills;
        }

        int allDays() {
            return (1 << days) - 1;
        }

        int allBills() {
            return (1 << bills) - 1;
        }

        int augursOf(int side) {
            int set = 0;
            for (int augur = 0; augur < augurs; augur++) {
                if (augurSide[augur] == side) {
                    set |= 1 << augur;
                }
            }
            return set;
        }

        int billsOf(int side) {
            int set = 0;
            for (int bill = 0; bill < bills; bill++) {
                if (billSide[bill] == side) {
                    set |= 1 << bill;
                }
            }
            return set;
        }

        int daysOfAugur(int augur) {
            return (2 << augurLast[augur]) - (1 << augurFirst[augur]);
        }

        int skyOf(int set) {
            int sky = 0;
            for (int augur = 0; augur < augurs; augur++) {
                if (holds(set, augur)) {
                    sky |= daysOfAugur(augur);
                }
            }
            return sky;
        }

        int augursOn(int day) {
            int set = 0;
            for (int augur = 0; augur < augurs; augur++) {
                if (holds(daysOfAugur(augur), day)) {
                    set |= 1 << augur;
                }
            }
            return set;
        }

        int clearDays(int side) {
            return allDays() & ~marked & ~skyOf(augursOf(1 - side));
        }

        int worthOf(int set) {
            int sum = 0;
            for (int bill = 0; bill < bills; bill++) {
                if (holds(set, bill)) {
                    sum += billWorth[bill];
                }
            }
            return sum;
        }

        /** A bill is after one told ahead of it, so that one walk down the bills finds them all. */
        int needsOf(int bill) {
            int set = 0;
            int wanted = billAfter[bill];
            for (int ahead = bill - 1; ahead >= 0; ahead--) {
                if (ahead == wanted) {
                    set |= 1 << ahead;
                    wanted = billAfter[ahead];
                }
            }
            return set;
        }

        int heirsOf(int bill) {
            int set = 0;
            for (int heir = bill + 1; heir < bills; heir++) {
                if (holds(needsOf(heir), bill)) {
                    set |= 1 << heir;
                }
            }
            return set;
        }

        /** The first day on which hens eat that were neither asked nor fed; days, if they never do. */
        int firstHungryDay() {
            return Math.min(days, Math.max(0, greed - hungerTold));
        }

        int fedDays() {
            int set = 0;
            for (int act = 0; act < acts; act++) {
                if (actBill[act] == NONE) {
                    set |= 1 << actDay[act];
                }
            }
            return set;
        }

        int askedDays() {
            int set = 0;
            for (int act = 0; act < acts; act++) {
                if (actBill[act] != NONE) {
                    set |= 1 << actDay[act];
                }
            }
            return set;
        }

        boolean isFree(int day) {
            return !holds(askedDays() | fedDays(), day);
        }

        boolean isAskedFor(int bill) {
            for (int act = 0; act < acts; act++) {
                if (actBill[act] == bill) {
                    return true;
                }
            }
            return false;
        }

        void act(int day, int bill) {
            if (acts < MAX_ACTS) {
                actDay[acts] = day;
                actBill[acts] = bill;
                acts++;
            }
        }
    }

    /** Reads a tape into a camp, up to its first fault. */
    private static final class Reader {
        private static final int END = 0;
        private static final int WORD = 1;
        private static final int NUMBER = 2;
        private static final int SIGN = 3;
        private static final int STRANGE = 4;
        private static final int BLANK = 5;
        private static final int CANNOT_STAND = 1;
        private static final int OUT_OF_BOUNDS = 2;
        private static final int ONE_TOO_MANY = 3;
        /** Above each bound of the document, so that longer numbers need not be told apart. */
        private static final int HUGE = 1000;

        int faultKind;
        int faultPlace = NONE;
        private Tape tape;
        private Camp camp;
        private int kind;
        private int start;
        private int stop;
        private int number;

        boolean read(Tape from, Camp into) {
            tape = from;
            camp = into;
            camp.forget();
            faultKind = 0;
            faultPlace = NONE;
            stop = 0;
            step();
            for (int line = 0; line < TAPE_BYTES && kind != END && faultKind == 0; line++) {
                readLine();
            }
            return faultKind == 0;
        }

        private void readLine() {
            if (camp.lines == 0) {
                readCamp();
            } else if (isWord("mark")) {
                readMark();
            } else if (isWord("augur")) {
                readAugur();
            } else if (isWord("bill")) {
                readBill();
            } else {
                fail(CANNOT_STAND);
            }
            takeSign();
        }

        private void readCamp() {
            takeWord("camp");
            takeWord("days");
            int days = takeNumber(1, MAX_DAYS);
            takeWord("hunger");
            int hunger = takeNumber(0, MAX_HUNGER);
            takeWord("greed");
            int greed = takeNumber(1, MAX_HUNGER);
            takeWord("odds");
            int odds = takeNumber(0, MAX_ODDS);
            if (faultKind == 0) {
                camp.days = days;
                camp.hungerTold = hunger;
                camp.greed = greed;
                camp.odds = odds;
            }
        }

        private void readMark() {
            takeWord("mark");
            int day = takeNumber(0, camp.days - 1);
            if (faultKind == 0) {
                camp.marked |= 1 << day;
            }
        }

        private void readAugur() {
            if (camp.augurs >= MAX_AUGURS) {
                fail(ONE_TOO_MANY);
                return;
            }
            takeWord("augur");
            takeWord("of");
            int side = takeNumber(0, 1);
            takeWord("from");
            int first = takeNumber(0, camp.days - 1);
            takeWord("to");
            int last = takeNumber(first, camp.days - 1);
            if (faultKind == 0) {
                camp.augurSide[camp.augurs] = side;
                camp.augurFirst[camp.augurs] = first;
                camp.augurLast[camp.augurs] = last;
                camp.augurs++;
            }
        }

        private void readBill() {
            if (camp.bills >= MAX_BILLS) {
                fail(ONE_TOO_MANY);
                return;
            }
            takeWord("bill");
            takeWord("of");
            int side = takeNumber(0, 1);
            takeWord("worth");
            int worth = takeNumber(0, MAX_WORTH);
            int after = NONE;
            if (isWord("after")) {
                takeWord("after");
                after = takeNumber(0, camp.bills - 1);
            }
            if (faultKind == 0) {
                camp.billSide[camp.bills] = side;
                camp.billWorth[camp.bills] = worth;
                camp.billAfter[camp.bills] = after;
                camp.bills++;
            }
        }

        private void takeSign() {
            if (faultKind != 0) {
                return;
            }
            if (kind != SIGN) {
                fail(CANNOT_STAND);
                return;
            }
            camp.lines++;
            step();
        }

        private void takeWord(String word) {
            if (faultKind != 0) {
                return;
            }
            if (!isWord(word)) {
                fail(CANNOT_STAND);
                return;
            }
            step();
        }

        private int takeNumber(int low, int high) {
            if (faultKind != 0) {
                return 0;
            }
            if (kind != NUMBER) {
                fail(CANNOT_STAND);
                return 0;
            }
            if (number < low || number > high) {
                fail(OUT_OF_BOUNDS);
                return 0;
            }
            int taken = number;
            step();
            return taken;
        }

        /** What comes behind the first fault is no fault any more. */
        private void fail(int what) {
            if (faultKind == 0) {
                faultKind = what;
                faultPlace = start;
            }
        }

        private boolean isWord(String word) {
            if (kind != WORD || stop - start != word.length()) {
                return false;
            }
            for (int i = 0; i < word.length(); i++) {
                if (byteAt(start + i) != word.charAt(i)) {
                    return false;
                }
            }
            return true;
        }

        private void step() {
            start = stop;
            while (start < tape.length && kindOf(byteAt(start)) == BLANK) {
                start++;
            }
            stop = start;
            kind = kindOf(byteAt(start));
            number = 0;
            boolean joins = kind != END;
            while (joins && stop < tape.length) {
                if (kind == NUMBER) {
                    number = Math.min(HUGE, number * 10 + byteAt(stop) - '0');
                }
                stop++;
                joins = (kind == WORD || kind == NUMBER) && kindOf(byteAt(stop)) == kind;
            }
        }

        private int byteAt(int place) {
            if (place < 0 || place >= tape.length || place >= tape.bytes.length) {
                return NONE;
            }
            return tape.bytes[place] & 255;
        }

        private static int kindOf(int sign) {
            if (sign == NONE) {
                return END;
            }
            if (sign == 32 || sign == 10) {
                return BLANK;
            }
            if (sign >= 'a' && sign <= 'z') {
                return WORD;
            }
            if (sign >= '0' && sign <= '9') {
                return NUMBER;
            }
            return sign == ';' ? SIGN : STRANGE;
        }
    }

    /** The days of a camp gone through with its acts, as they stand or with draws. */
    private static final class Season {
        private static final int FREE = -2;
        private static final int FATTENED = -1;

        final int[] hungerOn = new int[MAX_DAYS];
        final int[] askDay = new int[MAX_BILLS];
        final int[] passDay = new int[MAX_BILLS];
        final int[] reason = new int[MAX_BILLS];
        int draws;
        private final int[] doneOn = new int[MAX_DAYS];
        private final int[] clearOf = new int[2];
        private long drawState;

        void play(Camp camp) {
            live(camp, false);
        }

        void draw(Camp camp, int seed) {
            drawState = seed;
            live(camp, true);
        }

        private void live(Camp camp, boolean drawing) {
            layOut(camp);
            int hunger = camp.hungerTold;
            for (int day = 0; day < camp.days; day++) {
                hungerOn[day] = hunger;
                int bill = doneOn[day];
                if (bill >= 0) {
                    boolean eats = hunger >= camp.greed;
                    if (eats && drawing) {
                        eats = nextDraw() < camp.odds;
                    }
                    settle(camp, bill, day, eats);
                }
                hunger = bill == FREE ? hunger + 1 : 1;
            }
        }

        private void layOut(Camp camp) {
            draws = 0;
            clearOf[0] = camp.clearDays(0);
            clearOf[1] = camp.clearDays(1);
            for (int day = 0; day < MAX_DAYS; day++) {
                doneOn[day] = FREE;
            }
            for (int bill = 0; bill < MAX_BILLS; bill++) {
                askDay[bill] = NONE;
                passDay[bill] = NONE;
                reason[bill] = NONE;
            }
            for (int act = 0; act < camp.acts; act++) {
                int bill = camp.actBill[act];
                doneOn[camp.actDay[act]] = bill == NONE ? FATTENED : bill;
            }
        }

        private int nextDraw() {
            draws++;
            drawState = (1103515245L * drawState + 12345L) % 2147483648L;
            return (int) (drawState / 65536L % 10L);
        }

        private void settle(Camp camp, int bill, int day, boolean eats) {
            askDay[bill] = day;
            reason[bill] = whyNot(camp, bill, day, eats);
            if (reason[bill] == 0) {
                passDay[bill] = day;
            }
        }

        private int whyNot(Camp camp, int bill, int day, boolean eats) {
            if (!eats) {
                return 1;
            }
            if (holds(camp.marked, day)) {
                return 2;
            }
            if (!holds(clearOf[camp.billSide[bill]], day)) {
                return 3;
            }
            return hasPassedAhead(camp.billAfter[bill], day) ? 0 : 4;
        }

        private boolean hasPassedAhead(int bill, int day) {
            return bill == NONE || passDay[bill] != NONE && passDay[bill] < day;
        }

        /** What is done on the day itself changes neither its hunger nor what passed ahead of it. */
        boolean couldPass(Camp camp, int bill, int day) {
            boolean elsewhere = askDay[bill] != NONE && askDay[bill] != day;
            return !elsewhere && whyNot(camp, bill, day, hungerOn[day] >= camp.greed) == 0;
        }

        int lastActAhead(int day) {
            for (int ahead = day - 1; ahead >= 0; ahead--) {
                if (doneOn[ahead] != FREE) {
                    return ahead;
                }
            }
            return NONE;
        }

        int passingOn(Camp camp, int day) {
            for (int bill = 0; bill < camp.bills; bill++) {
                if (passDay[bill] == day) {
                    return bill;
                }
            }
            return NONE;
        }

        int passing(Camp camp) {
            int set = 0;
            for (int bill = 0; bill < camp.bills; bill++) {
                if (passDay[bill] != NONE) {
                    set |= 1 << bill;
                }
            }
            return set;
        }
    }

    /**
     * The best plans, from the last day back: for each day on which hens are hungry and each set of bills
     * that passed ahead, how much more can be had, and in how many ways. Hens that were asked are hungry
     * again after as many days as their greed, so that no hunger need be kept.
     */
    private static final class Planner {
        private final int[] most = new int[(MAX_DAYS + 1) * SETS];
        private final int[] ways = new int[(MAX_DAYS + 1) * SETS];
        private final int[] weight = new int[MAX_BILLS];
        /** The bill that a bill is after, as a set. */
        private final int[] ahead = new int[MAX_BILLS];
        /** The bills that nothing but others ahead of them keeps from passing on a day. */
        private final int[] openOn = new int[MAX_DAYS];
        private int from;
        private int days;
        private int pause;

        void billsByWorth(Camp camp) {
            for (int bill = 0; bill < camp.bills; bill++) {
                weight[bill] = camp.billWorth[bill];
            }
        }

        void billsAlike(Camp camp) {
            for (int bill = 0; bill < camp.bills; bill++) {
                weight[bill] = 1;
            }
        }

        int solve(Camp camp, int billSet, int marked, int augurs, int besides) {
            from = camp.firstHungryDay();
            days = camp.days;
            pause = Math.max(1, camp.greed);
            for (int day = 0; day < MAX_DAYS; day++) {
                openOn[day] = 0;
            }
            for (int bill = 0; bill < camp.bills; bill++) {
                int after = camp.billAfter[bill];
                ahead[bill] = after == NONE ? 0 : 1 << after;
                if (holds(billSet, bill)) {
                    int watched = camp.skyOf(augurs & camp.augursOf(1 - camp.billSide[bill]));
                    openBill(bill, camp.allDays() & ~marked & ~watched & ~besides);
                }
            }
            goBack(billSet);
            return most[from * SETS];
        }

        private void openBill(int bill, int onDays) {
            for (int day = 0; day < MAX_DAYS; day++) {
                if (holds(onDays, day)) {
                    openOn[day] |= 1 << bill;
                }
            }
        }

        private void goBack(int billSet) {
            for (int set = 0; set < SETS; set++) {
                most[days * SETS + set] = 0;
                ways[days * SETS + set] = 1;
            }
            for (int day = days - 1; day >= from; day--) {
                for (int set = 0; set < SETS; set++) {
                    // Each bill took a pause, so that larger sets are never come to.
                    if ((set & billSet) == set && Integer.bitCount(set) * pause <= day - from) {
                        settle(day, set);
                    }
                }
            }
        }

        private void settle(int day, int set) {
            int here = day * SETS + set;
            int later = Math.min(days, day + pause) * SETS;
            int top = most[here + SETS];
            int count = ways[here + SETS];
            int askable = openOn[day] & ~set;
            for (int bill = 0; bill < MAX_BILLS && askable != 0; bill++) {
                if ((askable >> bill & 1) == 0 || (ahead[bill] & ~set) != 0) {
                    continue;
                }
                int behind = later + (set | 1 << bill);
                int worth = weight[bill] + most[behind];
                if (worth > top) {
                    top = worth;
                    count = 0;
                }
                if (worth == top) {
                    count += ways[behind];
                }
            }
            most[here] = top;
            ways[here] = count;
        }

        int howManyPlans() {
            return ways[from * SETS];
        }

        int daysOfFirstPlan() {
            int used = 0;
            for (int day = 0; day < days; day++) {
                if (billInFirstPlan(day) != NONE) {
                    used |= 1 << day;
                }
            }
            return used;
        }

        int billInFirstPlan(int wanted) {
            int set = 0;
            int day = from;
            for (int step = 0; step < MAX_DAYS && day < wanted; step++) {
                int bill = firstBill(day, set);
                if (bill == NONE) {
                    day++;
                } else {
                    set |= 1 << bill;
                    day = day + pause;
                }
            }
            return day == wanted ? firstBill(day, set) : NONE;
        }

        private int firstBill(int day, int set) {
            if (day < 0 || day >= days) {
                return NONE;
            }
            int here = day * SETS + set;
            if (most[here + SETS] == most[here]) {
                return NONE;
            }
            int later = Math.min(days, day + pause) * SETS;
            int askable = openOn[day] & ~set;
            for (int bill = 0; bill < MAX_BILLS; bill++) {
                boolean canPass = holds(askable, bill) && (ahead[bill] & ~set) == 0;
                if (canPass && weight[bill] + most[later + (set | 1 << bill)] == most[here]) {
                    return bill;
                }
            }
            return NONE;
        }
    }

    /**
     * A bill and those it is after, which pass one after the other: to ask for others only makes hens less
     * hungry, so that each is best asked for as soon as it can pass.
     */
    private static final class Chain {
        private static final int STARTS = MAX_DAYS + 1;
        /** Above each sum of days, for a bill that has passed already. */
        private static final int TOO_LATE = 1 << 24;

        /** For so many bills still to pass, from a day on: how many days to watch, and which, in one number. */
        private final int[] cost = new int[(MAX_BILLS + 1) * STARTS];

        int soonestDay(Camp camp, int bill) {
            int length = lengthOf(camp, bill);
            return length == 0 ? NONE : dayOfPass(camp, camp.clearDays(camp.billSide[bill]), length);
        }

        int latestDay(Camp camp, int bill) {
            int soonest = soonestDay(camp, bill);
            if (soonest == NONE) {
                return NONE;
            }
            int clear = camp.clearDays(camp.billSide[bill]);
            int latest = soonest;
            for (int day = soonest; day < camp.days; day++) {
                if (holds(clear, day)) {
                    latest = day;
                }
            }
            return latest;
        }

        int fewestToStop(Camp camp, int bill) {
            return leastCost(camp, bill) >> MAX_DAYS;
        }

        int daysToStop(Camp camp, int bill) {
            return leastCost(camp, bill) & (1 << MAX_DAYS) - 1;
        }

        /** How many bills have to pass, the last one with them; 0 if the other side would have to ask for one. */
        private int lengthOf(Camp camp, int bill) {
            int needed = camp.needsOf(bill);
            int own = camp.billsOf(camp.billSide[bill]);
            return (needed & own) == needed ? Integer.bitCount(needed) + 1 : 0;
        }

        private int dayOfPass(Camp camp, int clear, int wanted) {
            int hungry = camp.firstHungryDay();
            int passed = 0;
            for (int day = 0; day < camp.days; day++) {
                if (day >= hungry && holds(clear, day)) {
                    passed++;
                    hungry = day + camp.greed;
                    if (passed == wanted) {
                        return day;
                    }
                }
            }
            return NONE;
        }

        /**
         * A clear day on which hens are hungry is either watched, or a bill passes on it. The days are the low
         * bits, how many they are stands above, so that the least number is the least set of the fewest.
         */
        private int leastCost(Camp camp, int bill) {
            int length = lengthOf(camp, bill);
            if (length == 0) {
                return 0;
            }
            int clear = camp.clearDays(camp.billSide[bill]);
            for (int day = 0; day < STARTS; day++) {
                cost[day] = TOO_LATE;
            }
            for (int left = 1; left <= length; left++) {
                int here = left * STARTS;
                cost[here + camp.days] = 0;
                for (int day = camp.days - 1; day >= 0; day--) {
                    int next = cost[here + day + 1];
                    if (holds(clear, day)) {
                        int pass = cost[here - STARTS + Math.min(camp.days, day + camp.greed)];
                        next = Math.min(pass, next + (1 << MAX_DAYS | 1 << day));
                    }
                    cost[here + day] = next;
                }
            }
            return cost[length * STARTS + camp.firstHungryDay()];
        }
    }

    /** Numbers of one width; without a width there is no row. */
    private static final class Row {
        final long[] numbers = new long[SLOT_NUMBERS];
        int width = NONE;
        int size;

        boolean isThere() {
            return width != NONE;
        }

        void begin(int newWidth, int newSize) {
            width = newWidth;
            size = newSize;
            for (int i = 0; i < SLOT_NUMBERS; i++) {
                numbers[i] = 0;
            }
        }

        long cut(long v) {
            switch (width) {
                case 0: return (byte) v;
                case 1: return (short) v;
                case 2: return (int) v;
                default: return v;
            }
        }

        boolean reaches(int place, int n) {
            return place >= 0 && n >= 0 && place <= size && n <= size - place;
        }
    }

    /** The pairs of a hunger and a day of feeding by which hens eat as was seen. */
    private static final class Hens {
        int pairs;
        int fedDays;
        int perhapsUnfed;
        int leastHunger;
        /** By how many of the pairs they eat on a day. */
        private final int[] eatingOn = new int[MAX_DAYS];
        private int seenEating;
        private int seenFasting;

        boolean look(Camp camp, Row row) {
            if (!readRow(camp, row)) {
                return false;
            }
            pairs = 0;
            fedDays = 0;
            perhapsUnfed = 0;
            leastHunger = NONE;
            for (int day = 0; day < MAX_DAYS; day++) {
                eatingOn[day] = 0;
            }
            for (int hunger = 0; hunger <= MAX_HUNGER; hunger++) {
                for (int fedDay = NONE; fedDay < camp.days; fedDay++) {
                    weigh(camp, hunger, fedDay);
                }
            }
            return true;
        }

        private boolean readRow(Camp camp, Row row) {
            seenEating = 0;
            seenFasting = 0;
            if (row.size % 2 != 0) {
                return false;
            }
            for (int i = 0; i + 1 < row.size; i += 2) {
                long day = row.numbers[i];
                long ate = row.numbers[i + 1];
                if (day < 0 || day >= camp.days || ate < 0 || ate > 1) {
                    return false;
                }
                if (ate == 1) {
                    seenEating |= 1 << (int) day;
                } else {
                    seenFasting |= 1 << (int) day;
                }
            }
            return true;
        }

        private void weigh(Camp camp, int hunger, int fedDay) {
            int eating = eatingDays(camp, hunger, fedDay);
            if ((eating & seenEating) != seenEating || (eating & seenFasting) != 0) {
                return;
            }
            pairs++;
            if (fedDay == NONE) {
                perhapsUnfed = 1;
            } else {
                fedDays |= 1 << fedDay;
            }
            if (leastHunger == NONE) {
                leastHunger = hunger;
            }
            for (int day = 0; day < camp.days; day++) {
                eatingOn[day] += eating >> day & 1;
            }
        }

        private static int eatingDays(Camp camp, int hunger, int fedDay) {
            int eating = 0;
            for (int day = 0; day < camp.days; day++) {
                int then = fedDay == NONE || day <= fedDay ? hunger + day : day - fedDay;
                if (then >= camp.greed) {
                    eating |= 1 << day;
                }
            }
            return eating;
        }

        int leftAtWorst(int day) {
            if (day < 0 || day >= MAX_DAYS) {
                return pairs;
            }
            return Math.max(eatingOn[day], pairs - eatingOn[day]);
        }

        int dayToKnow(int days) {
            int found = NONE;
            int fewest = pairs;
            for (int day = 0; day < days; day++) {
                if (leftAtWorst(day) < fewest) {
                    fewest = leftAtWorst(day);
                    found = day;
                }
            }
            return found;
        }
    }

    /** How often signs and wins went together. */
    private static final class SignList {
        private final int[] counts = new int[4];

        boolean look(Row row) {
            for (int i = 0; i < 4; i++) {
                counts[i] = 0;
            }
            if (row.size % 2 != 0) {
                return false;
            }
            for (int i = 0; i + 1 < row.size; i += 2) {
                long sign = row.numbers[i];
                long won = row.numbers[i + 1];
                if (sign < 0 || sign > 1 || won < 0 || won > 1) {
                    return false;
                }
                counts[(int) sign * 2 + (int) won]++;
            }
            return true;
        }

        int howMany(int sign, int won) {
            return isChoice(sign) && isChoice(won) ? counts[sign * 2 + won] : 0;
        }

        int withSign(int sign) {
            return howMany(sign, 0) + howMany(sign, 1);
        }

        private int wins() {
            return howMany(0, 1) + howMany(1, 1);
        }

        long allWays() {
            return choose(withSign(0) + withSign(1), wins());
        }

        long waysAsGood() {
            long sum = 0;
            for (int good = howMany(1, 1); good <= withSign(1); good++) {
                sum += choose(withSign(1), good) * choose(withSign(0), wins() - good);
            }
            return sum;
        }

        private static long choose(int n, int k) {
            if (k < 0 || k > n) {
                return 0;
            }
            long ways = 1;
            for (int i = 1; i <= k; i++) {
                ways = ways * (n - k + i) / i;
            }
            return ways;
        }
    }
}
