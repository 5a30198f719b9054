import java.math.BigInteger;
import java.nio.charset.StandardCharsets;
import java.util.ArrayList;
import java.util.List;
import java.util.Random;

/** Many camps, told and gone through by numbers that are the same each time, held against the Reference. */
public final class ReferenceTest {
    private static final Check check = new Check();
    private static final Random random = new Random(20261118);
    private static String name = "";

    public static void main(String[] args) {
        for (int i = 0; i < 3000; i++) {
            readTextWithFaults();
        }
        for (int i = 0; i < 1500; i++) {
            goThrough(1 + random.nextInt(7), random.nextInt(6));
        }
        for (int i = 0; i < 60; i++) {
            goThrough(8 + random.nextInt(7), random.nextInt(4));
        }
        for (int i = 0; i < 400; i++) {
            list();
        }
        check.end();
    }

    private static void due(String call, long got, long want) {
        if (got != want) {
            System.out.println("in " + name);
        }
        check.due(call, got, want);
    }

    private static int upTo(int bound) {
        return random.nextInt(bound + 1);
    }

    private static String text(int days, int bills) {
        StringBuilder text = new StringBuilder();
        text.append("camp days ").append(days).append(" hunger ").append(upTo(9)).append(" greed ")
            .append(1 + upTo(random.nextBoolean() ? 1 : 8)).append(" odds ").append(upTo(10)).append(";");
        int told = 0;
        for (int i = upTo(9) + bills; i >= 0; i--) {
            int kind = random.nextInt(4);
            if (kind == 0) {
                text.append(" mark ").append(random.nextInt(days)).append(";");
            } else if (kind == 1 && i % 2 == 0) {
                int first = random.nextInt(days);
                text.append("augur of ").append(upTo(1)).append(" from ").append(first).append(" to ")
                    .append(Math.min(days - 1, first + upTo(random.nextInt(5)))).append(" ;\n");
            } else if (told < bills) {
                text.append("bill of ").append(random.nextInt(4) == 0 ? 1 : 0).append(" worth ")
                    .append(random.nextBoolean() ? upTo(4) : upTo(99));
                if (told > 0 && random.nextInt(3) == 0) {
                    text.append(" after ").append(random.nextInt(told));
                }
                text.append(";");
                told++;
            }
        }
        return text.toString();
    }

    private static void readTextWithFaults() {
        String[] pieces = {"camp", "days", "mark", "augur", "bill", "of", "from", "to", "after", "worth", "hunger",
            "x", ";", "?", "0", "1", "13", "14", "99", "100", "", " ", "A", "-", "\t", "~"};
        String text = text(1 + upTo(13), upTo(8));
        for (int i = upTo(2); i > 0 && !text.isEmpty(); i--) {
            int from = random.nextInt(text.length());
            int to = Math.min(text.length(), from + upTo(3));
            text = text.substring(0, from) + pieces[random.nextInt(pieces.length)] + text.substring(to);
        }
        if (random.nextInt(5) == 0) {
            text = text.substring(0, upTo(text.length()));
        }
        if (random.nextInt(9) == 0) {
            text = text + "bill of 0 worth 1;augur of 1 from 0 to 0;".repeat(8);
        }
        if (text.length() > 800) {
            return;
        }
        name = text;
        SacredHens x = new SacredHens();
        Check.feed(x, text.getBytes(StandardCharsets.ISO_8859_1));
        Reference r = Reference.read(text);
        due("camp()", x.camp(), r.fault == 0 ? r.lines : -4);
        due("fault(0)", x.fault(0), r.fault);
        due("fault(1)", x.fault(1), r.place);
        if (r.fault == 0) {
            compareTold(x, r);
        }
    }

    private static void goThrough(int days, int bills) {
        name = text(days, bills);
        SacredHens x = Check.camp(name);
        Reference r = Reference.read(name);
        // What an object answers behind its 512th call is free, so that one alone is not asked for all.
        compareTold(Check.camp(name), r);
        comparePlans(Check.camp(name), r);
        compareSkies(Check.camp(name), r);
        compareSeen(x, r);
        compareDone(x, r);
        Reference[] images = new Reference[3];
        for (int step = 0; step < 12; step++) {
            act(x, r);
            if (random.nextInt(6) == 0) {
                int k = random.nextInt(3);
                due("image", x.image(k), 0);
                images[k] = r.copy();
            }
            if (random.nextInt(6) == 0) {
                int k = random.nextInt(3);
                due("back", x.back(k), images[k] == null ? -6 : 0);
                r = images[k] == null ? r : images[k].copy();
            }
        }
        compareTold(x, r);
        compareDone(x, r);
        if (days < 6) {
            comparePlans(x, r);
        }
        due("anew()", x.anew(), r.acts.size());
        r.acts.clear();
        compareDone(x, r);
    }

    private static void act(SacredHens x, Reference r) {
        int day = random.nextInt(r.days + 1) - random.nextInt(20) / 19;
        int bill = random.nextInt(r.bills.size() + 1) - random.nextInt(20) / 19;
        boolean hasDay = day >= 0 && day < r.days;
        boolean hasBill = bill >= 0 && bill < r.bills.size();
        boolean free = hasDay && r.row()[day] == -1;
        switch (random.nextInt(8)) {
            case 0:
                due("undo()", x.undo(), r.acts.isEmpty() ? -5 : r.acts.size() - 1);
                if (!r.acts.isEmpty()) {
                    r.acts.remove(r.acts.size() - 1);
                }
                break;
            case 1:
                int n = upTo(101) - 1;
                boolean can = hasBill && n >= 0 && n <= 99;
                due("rate", x.rate(bill, n), !can ? -2 : !r.acts.isEmpty() ? -5 : r.bills.get(bill)[1]);
                if (can && r.acts.isEmpty()) {
                    r.bills.get(bill)[1] = n;
                }
                break;
            case 2:
            case 3:
                int fed = x.feeds(day);
                if (free) {
                    r.acts.add(new int[] {day, Reference.FED});
                }
                due("feeds", fed, !hasDay ? -2 : free ? r.hunger(r.row(), day, r.hunger) : -5);
                break;
            default:
                int asked = x.asks(bill, day);
                boolean may = free && hasBill && r.dayOf(r.row(), bill) < 0;
                if (may) {
                    r.acts.add(new int[] {day, bill});
                }
                due("asks", asked, !hasDay || !hasBill ? -2 : !may ? -5 : r.passDay(r.row(), bill) >= 0 ? 1 : 0);
        }
        due("count(6)", x.count(6), r.acts.size());
    }

    private static void compareTold(SacredHens x, Reference r) {
        int[] counts = {r.days, r.hunger, r.greed, r.odds, r.augurs.size(), r.bills.size(), r.acts.size(), r.lines};
        for (int what = 0; what < counts.length; what++) {
            due("count(" + what + ")", x.count(what), counts[what]);
        }
        for (int i = 0; i < 8; i++) {
            for (int what = 0; what < 3; what++) {
                due("augur", x.augur(i, what), i < r.augurs.size() ? r.augurs.get(i)[what] : -2);
                due("bill", x.bill(i, what), i < r.bills.size() ? r.bills.get(i)[what] : -2);
            }
        }
        if (r.lines > 0) {
            due("marks()", x.marks(), r.marks.stream().mapToInt(d -> 1 << d).sum());
        }
    }

    private static void comparePlans(SacredHens x, Reference r) {
        for (int side = 0; side < 2; side++) {
            List<int[]> plans = new ArrayList<>();
            r.plans(r.billsOf(side), 0, row -> plans.add(row.clone()));
            int most = plans.stream().mapToInt(r::worthOfRow).max().getAsInt();
            due("plan", x.plan(side), most);
            due("ways", x.ways(side), plans.stream().filter(p -> r.worthOfRow(p) == most).count());
            due("many", x.many(side), plans.stream().mapToLong(p -> java.util.Arrays.stream(p).filter(b -> b >= 0).count()).max().getAsLong());
            int[] first = plans.stream().filter(p -> r.worthOfRow(p) == most).min(java.util.Arrays::compare).get();
            for (int day = 0; day < r.days; day++) {
                due("planned(" + side + ", " + day + ")", x.planned(side, day), first[day]);
            }
            for (int bill = 0; bill < r.bills.size(); bill++) {
                if (r.bills.get(bill)[0] == side) {
                    compareBill(x, r, bill, plans, most);
                }
            }
            compareChanged(x, r, side, most);
        }
        due("together()", x.together(), r.bestPlan((1 << r.bills.size()) - 1, 0));
        int deepest = -1;
        for (int bill = 0; bill < r.bills.size(); bill++) {
            int ahead = Integer.bitCount(r.needs(bill));
            if (ahead > (deepest < 0 ? 0 : Integer.bitCount(r.needs(deepest)))) {
                deepest = bill;
            }
            due("needs", x.needs(bill), r.needs(bill));
            due("heirs", x.heirs(bill), r.heirs(bill));
        }
        due("deepest()", x.deepest(), deepest);
    }

    private static void compareBill(SacredHens x, Reference r, int bill, List<int[]> plans, int most) {
        int[] days = plans.stream().mapToInt(p -> r.dayOf(p, bill)).filter(d -> d >= 0).sorted().toArray();
        due("soonest(" + bill + ")", x.soonest(bill), days.length == 0 ? -1 : days[0]);
        due("latest(" + bill + ")", x.latest(bill), days.length == 0 ? -1 : days[days.length - 1]);
        int without = plans.stream().filter(p -> r.dayOf(p, bill) < 0).mapToInt(r::worthOfRow).max().getAsInt();
        due("without", x.without(bill), without);
        due("value", x.value(bill), most - without);
        int least = (1 << r.days) - 1;
        if (r.days <= 8) {
            int chain = r.needs(bill) | 1 << bill;
            for (int set = least; set >= 0; set--) {
                boolean[] passes = {false};
                r.plans(chain & r.billsOf(r.bills.get(bill)[0]), set, p -> passes[0] |= r.dayOf(p, bill) >= 0);
                if (!passes[0] && Integer.bitCount(set) <= Integer.bitCount(least)) {
                    least = set;
                }
            }
            due("stop(" + bill + ")", x.stop(bill), Integer.bitCount(least));
            due("stops(" + bill + ")", x.stops(bill), least);
        }
    }

    private static void compareChanged(SacredHens x, Reference r, int side, int most) {
        int own = r.billsOf(side);
        int spoil = -1;
        int spoilt = most;
        for (int day = 0; day < r.days; day++) {
            int worth = r.bestPlan(own, 1 << day);
            spoil = worth < spoilt ? day : spoil;
            spoilt = Math.min(spoilt, worth);
        }
        due("spoil", x.spoil(side), spoil);
        due("spoilt", x.spoilt(side), spoilt);
        int bribe = -1;
        int best = most;
        for (int a = 0; a < r.augurs.size(); a++) {
            Reference other = r.copy();
            int[] gone = other.augurs.get(a);
            other.augurs.set(a, new int[] {gone[0], 1, 0});
            int worth = gone[0] == side ? most : other.bestPlan(own, 0);
            bribe = worth > best ? a : bribe;
            best = Math.max(best, worth);
        }
        due("bribe", x.bribe(side), bribe);
        int unmark = -1;
        best = most;
        for (int day : r.marks) {
            Reference other = r.copy();
            other.marks.remove(day);
            int worth = other.bestPlan(own, 0);
            unmark = worth > best ? day : unmark;
            best = Math.max(best, worth);
        }
        due("unmark", x.unmark(side), unmark);
    }

    private static void compareSkies(SacredHens x, Reference r) {
        for (int side = 0; side < 2; side++) {
            int all = r.sky(side, 255);
            due("sky", x.sky(side), all);
            due("clear", x.clear(side), r.clear(side));
            due("run", x.run(side), r.run(r.clear(side)));
            int best = 255;
            int[] most = new int[9];
            for (int set = 255; set >= 0; set--) {
                int count = Integer.bitCount(set);
                best = r.sky(side, set) == all && count <= Integer.bitCount(best) ? set : best;
                most[count] = Math.max(most[count], Integer.bitCount(r.sky(side, set)));
            }
            due("college", x.college(side), Integer.bitCount(best));
            due("chosen", x.chosen(side), best);
            for (int k = 0; k <= 8; k++) {
                due("hold " + k, x.hold(side, k), most[k]);
            }
            int idle = 0;
            int lone = 0;
            int tenure = -1;
            int longest = 0;
            for (int a = 0; a < r.augurs.size(); a++) {
                if (r.augurs.get(a)[0] == side) {
                    boolean same = Integer.bitCount(r.sky(side, 255 & ~(1 << a))) == Integer.bitCount(all);
                    idle |= same ? 1 << a : 0;
                    lone |= same ? 0 : 1 << a;
                    int days = Integer.bitCount(r.sky(side, 1 << a));
                    tenure = days > longest ? a : tenure;
                    longest = Math.max(longest, days);
                }
            }
            due("idle", x.idle(side), idle);
            due("lone", x.lone(side), lone);
            due("tenure", x.tenure(side), tenure);
        }
        due("both()", x.both(), r.sky(0, 255) & r.sky(1, 255));
        for (int day = 0; day < r.days; day++) {
            int watch = 0;
            for (int a = 0; a < r.augurs.size(); a++) {
                watch |= r.augurs.get(a)[1] <= day && day <= r.augurs.get(a)[2] ? 1 << a : 0;
            }
            due("watch", x.watch(day), watch);
        }
    }

    private static void compareDone(SacredHens x, Reference r) {
        int[] row = r.row();
        int passing = r.passing(row);
        int eat = 0;
        int asked = 0;
        int fed = 0;
        int worst = -1;
        int mostFalls = 0;
        int[] open = new int[2];
        for (int day = 0; day < r.days; day++) {
            due("hunger(" + day + ")", x.hunger(day), r.hunger(row, day, r.hunger));
            eat |= r.eats(row, day) ? 1 << day : 0;
            asked |= row[day] >= 0 ? 1 << day : 0;
            fed |= row[day] == Reference.FED ? 1 << day : 0;
            int first = -1;
            for (int h = 9; h >= 0; h--) {
                first = r.hunger(row, day, h) >= r.greed ? h : first;
            }
            due("first(" + day + ")", x.first(day), first);
            int passed = row[day] >= 0 && r.reason(row, day, 0) == 0 ? row[day] : -1;
            due("passed(" + day + ")", x.passed(day), passed);
            int falls = passed < 0 ? 0 : (1 << passed | r.heirs(passed)) & passing;
            due("falls(" + day + ")", x.falls(day), falls);
            worst = r.worth(falls) > mostFalls ? day : worst;
            mostFalls = Math.max(mostFalls, r.worth(falls));
            due("best(" + day + ")", x.best(day), couldPass(r, day, open));
        }
        due("eat()", x.eat(), eat);
        due("asked()", x.asked(), asked);
        due("fattened()", x.fattened(), fed);
        due("fast()", x.fast(), r.run((1 << r.days) - 1 & ~asked & ~fed));
        due("worst()", x.worst(), worst);
        for (int side = 0; side < 2; side++) {
            due("open(" + side + ")", x.open(side), open[side]);
            due("worth(" + side + ")", x.worth(side), r.worth(passing & r.billsOf(side)));
        }
        for (int bill = 0; bill < r.bills.size(); bill++) {
            int day = r.dayOf(row, bill);
            due("when(" + bill + ")", x.when(bill), r.passDay(row, bill));
            due("why(" + bill + ")", x.why(bill), day < 0 ? -1 : r.reason(row, day, 0));
        }
        compareDraws(x, r, passing);
    }

    /** The best bill for a day; the sides of all that could pass then are added to open. */
    private static int couldPass(Reference r, int day, int[] open) {
        int best = -1;
        for (int bill = 0; bill < r.bills.size(); bill++) {
            int[] row = r.row();
            if (r.dayOf(row, bill) >= 0 && r.dayOf(row, bill) != day) {
                continue;
            }
            row[day] = bill;
            if (r.reason(row, day, 0) == 0) {
                open[r.bills.get(bill)[0]] |= 1 << day;
                best = best < 0 || r.bills.get(bill)[1] > r.bills.get(best)[1] ? bill : best;
            }
        }
        return best;
    }

    private static void compareDraws(SacredHens x, Reference r, int passing) {
        BigInteger above = BigInteger.valueOf(r.odds).pow(Integer.bitCount(passing));
        BigInteger below = BigInteger.TEN.pow(Integer.bitCount(passing));
        due("chance(0)", x.chance(0), above.divide(above.gcd(below)).longValue());
        due("chance(1)", x.chance(1), below.divide(above.gcd(below)).longValue());
        int seed = random.nextInt(2000000001);
        int[] drawn = r.drawn(seed);
        due("drawn 0", x.drawn(seed, 0), drawn[0]);
        due("drawn 1", x.drawn(seed, 1), drawn[1]);
        for (int bill = 0; bill < r.bills.size(); bill++) {
            int n = 1 + random.nextInt(20);
            int lucky = 0;
            for (int i = 0; i < n; i++) {
                lucky += r.drawn((long) seed + i)[0] >> bill & 1;
            }
            due("luck", x.luck(seed, n, bill), lucky);
        }
    }

    private static void compareSeen(SacredHens x, Reference r) {
        long[] seen = new long[2 * upTo(random.nextInt(6))];
        int hunger = upTo(9);
        int[] row = r.rowFed(random.nextInt(r.days + 1) - 1);
        for (int i = 0; i < seen.length; i += 2) {
            seen[i] = random.nextInt(r.days);
            boolean ate = r.hunger(row, (int) seen[i], hunger) >= r.greed;
            seen[i + 1] = ate != (random.nextInt(20) == 0) ? 1 : 0;
        }
        int slot = random.nextInt(4);
        Check.fill(x, slot, random.nextInt(4), seen);
        List<int[]> pairs = r.pairs(seen);
        due("fits", x.fits(slot), pairs.size());
        due("fed", x.fed(slot), pairs.stream().filter(p -> p[1] >= 0).mapToInt(p -> 1 << p[1]).reduce(0, (a, b) -> a | b));
        due("starved", x.starved(slot), pairs.stream().anyMatch(p -> p[1] < 0) ? 1 : 0);
        due("least", x.least(slot), pairs.stream().mapToInt(p -> p[0]).min().orElse(-1));
        int ask = -1;
        int leaves = pairs.size();
        for (int day = 0; day < r.days; day++) {
            int left = r.leftAtWorst(pairs, day);
            ask = left < leaves ? day : ask;
            leaves = Math.min(leaves, left);
        }
        due("ask", x.ask(slot), ask);
        due("leaves", x.leaves(slot), leaves);
    }

    /** Doubt by all sets of signs that could be the won ones. */
    private static void list() {
        int n = upTo(12);
        name = "a list of " + n;
        long[] list = new long[2 * n];
        int good = 0;
        int won = 0;
        int both = 0;
        for (int i = 0; i < n; i++) {
            list[2 * i] = upTo(1);
            list[2 * i + 1] = upTo(1);
            good |= (int) list[2 * i] << i;
            won |= (int) list[2 * i + 1] << i;
        }
        both = Integer.bitCount(good & won);
        long above = 0;
        long below = 0;
        for (int set = 0; set < 1 << n; set++) {
            if (Integer.bitCount(set) == Integer.bitCount(won)) {
                below++;
                above += Integer.bitCount(set & good) >= both ? 1 : 0;
            }
        }
        long common = BigInteger.valueOf(above).gcd(BigInteger.valueOf(below)).longValue();
        SacredHens x = Check.camp("camp days 3 hunger 3 greed 3 odds 3;");
        Check.fill(x, 2, random.nextInt(4), list);
        due("doubt 0", x.doubt(2, 0), above / common);
        due("doubt 1", x.doubt(2, 1), below / common);
        int all = (1 << n) - 1;
        double[] shares = new double[2];
        for (int sign = 0; sign < 2; sign++) {
            int with = sign == 1 ? good : all & ~good;
            int wins = Integer.bitCount(with & won);
            int count = Integer.bitCount(with);
            due("tally won", x.tally(2, sign, 1), wins);
            due("tally lost", x.tally(2, sign, 0), count - wins);
            int gcd = BigInteger.valueOf(wins).gcd(BigInteger.valueOf(count)).intValue();
            due("share 0", x.share(2, sign, 0), count == 0 ? -1 : wins / gcd);
            due("share 1", x.share(2, sign, 1), count == 0 ? -1 : count / gcd);
            shares[sign] = count == 0 ? Double.NaN : (double) wins / count;
        }
        due("leans", x.leans(2), shares[1] > shares[0] ? 1 : shares[1] < shares[0] ? -1 : 0);
    }
}
