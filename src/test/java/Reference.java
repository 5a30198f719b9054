import java.util.ArrayList;
import java.util.Arrays;
import java.util.List;
import java.util.TreeSet;
import java.util.function.Consumer;
import java.util.regex.Matcher;
import java.util.regex.Pattern;

/** The document's words done step by step, slowly: plans are all rows that there are. */
final class Reference {
    static final int FED = -2;
    int lines, days, hunger, greed, odds;
    TreeSet<Integer> marks = new TreeSet<>();
    List<int[]> augurs = new ArrayList<>();
    List<int[]> bills = new ArrayList<>();
    List<int[]> acts = new ArrayList<>();
    int fault = 0, place = -1;

    // Reading: each line is held against its pattern, token by token.

    private static final String[][] LINES = {
        "camp days N hunger N greed N odds N ;".split(" "), "mark N ;".split(" "),
        "augur of N from N to N ;".split(" "), "bill of N worth N ;".split(" "),
        "bill of N worth N after N ;".split(" ")};

    static Reference read(String text) {
        Reference r = new Reference();
        List<String> tokens = new ArrayList<>();
        List<Integer> places = new ArrayList<>();
        Matcher m = Pattern.compile("[a-z]+|[0-9]+|[^ \\n]", Pattern.DOTALL).matcher(text);
        while (m.find()) {
            tokens.add(m.group());
            places.add(m.start());
        }
        tokens.add("END");
        places.add(text.length());
        int at = 0;
        while (!tokens.get(at).equals("END")) {
            int used = r.line(tokens.subList(at, tokens.size()));
            if (r.fault != 0) {
                r.place = places.get(at + used);
                return r;
            }
            at += used;
            r.lines++;
        }
        return r;
    }

    /** How many tokens a line has, or in which one its fault is. */
    private int line(List<String> t) {
        String[] wanted = null;
        if (lines == 0) {
            wanted = LINES[0];
        } else {
            for (int i = 1; i < LINES.length - 1; i++) {
                wanted = LINES[i][0].equals(t.get(0)) ? LINES[i] : wanted;
            }
        }
        if (wanted == null) {
            return stop(1, 0);
        }
        if (lines > 0 && (t.get(0).equals("augur") && augurs.size() == 8 || t.get(0).equals("bill") && bills.size() == 8)) {
            return stop(3, 0);
        }
        List<Integer> n = new ArrayList<>();
        for (int i = 0; i < wanted.length; i++) {
            if (wanted[i].equals(";") && wanted == LINES[3] && t.get(i).equals("after")) {
                wanted = LINES[4];
            }
            String token = t.get(i);
            if (wanted[i].equals("N")) {
                if (!token.matches("[0-9]+")) {
                    return stop(1, i);
                }
                java.math.BigInteger big = new java.math.BigInteger(token);
                int[] bounds = bounds(wanted[0], n);
                if (big.compareTo(java.math.BigInteger.valueOf(bounds[0])) < 0
                    || big.compareTo(java.math.BigInteger.valueOf(bounds[1])) > 0) {
                    return stop(2, i);
                }
                n.add(big.intValue());
            } else if (!wanted[i].equals(token)) {
                return stop(1, i);
            }
        }
        take(wanted[0], n);
        return wanted.length;
    }

    private int stop(int kind, int token) {
        fault = kind;
        return token;
    }

    private int[] bounds(String word, List<Integer> n) {
        switch (word + n.size()) {
            case "camp0": return new int[] {1, 14};
            case "camp1": return new int[] {0, 9};
            case "camp2": return new int[] {1, 9};
            case "camp3": return new int[] {0, 10};
            case "mark0": case "augur1": return new int[] {0, days - 1};
            case "augur0": case "bill0": return new int[] {0, 1};
            case "augur2": return new int[] {n.get(1), days - 1};
            case "bill1": return new int[] {0, 99};
            default: return new int[] {0, bills.size() - 1};
        }
    }

    private void take(String word, List<Integer> n) {
        switch (word) {
            case "camp":
                days = n.get(0);
                hunger = n.get(1);
                greed = n.get(2);
                odds = n.get(3);
                break;
            case "mark": marks.add(n.get(0)); break;
            case "augur": augurs.add(new int[] {n.get(0), n.get(1), n.get(2)}); break;
            default: bills.add(new int[] {n.get(0), n.get(1), n.size() > 2 ? n.get(2) : -1});
        }
    }

    Reference copy() {
        Reference r = new Reference();
        r.lines = lines;
        r.days = days;
        r.hunger = hunger;
        r.greed = greed;
        r.odds = odds;
        r.marks.addAll(marks);
        augurs.forEach(a -> r.augurs.add(a.clone()));
        bills.forEach(b -> r.bills.add(b.clone()));
        acts.forEach(a -> r.acts.add(a.clone()));
        return r;
    }

    // Hunger and passing by a row: day by day a bill, -1 or FED.

    int[] row() {
        int[] row = new int[days];
        Arrays.fill(row, -1);
        for (int[] act : acts) {
            row[act[0]] = act[1];
        }
        return row;
    }

    int hunger(int[] row, int day, int first) {
        if (day == 0) {
            return first;
        }
        return row[day - 1] != -1 ? 1 : hunger(row, day - 1, first) + 1;
    }

    boolean eats(int[] row, int day) {
        return hunger(row, day, hunger) >= greed;
    }

    boolean watches(int side, int day) {
        return augurs.stream().anyMatch(a -> a[0] == side && a[1] <= day && day <= a[2]);
    }

    int reason(int[] row, int day, int besides) {
        int[] bill = bills.get(row[day]);
        if (!eats(row, day)) {
            return 1;
        }
        if (marks.contains(day)) {
            return 2;
        }
        if (watches(1 - bill[0], day) || (besides >> day & 1) != 0) {
            return 3;
        }
        if (bill[2] < 0) {
            return 0;
        }
        for (int ahead = 0; ahead < day; ahead++) {
            if (row[ahead] == bill[2] && reason(row, ahead, besides) == 0) {
                return 0;
            }
        }
        return 4;
    }

    int dayOf(int[] row, int bill) {
        for (int day = 0; day < days; day++) {
            if (row[day] == bill) {
                return day;
            }
        }
        return -1;
    }

    int passDay(int[] row, int bill) {
        int day = dayOf(row, bill);
        return day >= 0 && reason(row, day, 0) == 0 ? day : -1;
    }

    int passing(int[] row) {
        int set = 0;
        for (int bill = 0; bill < bills.size(); bill++) {
            set |= passDay(row, bill) >= 0 ? 1 << bill : 0;
        }
        return set;
    }

    int worth(int set) {
        int sum = 0;
        for (int bill = 0; bill < bills.size(); bill++) {
            sum += (set >> bill & 1) * bills.get(bill)[1];
        }
        return sum;
    }

    int billsOf(int side) {
        int set = 0;
        for (int bill = 0; bill < bills.size(); bill++) {
            set |= bills.get(bill)[0] == side ? 1 << bill : 0;
        }
        return set;
    }

    int worthOfRow(int[] row) {
        return Arrays.stream(row).filter(b -> b >= 0).map(b -> bills.get(b)[1]).sum();
    }

    // Plans: all rows, the least first.

    void plans(int set, int besides, Consumer<int[]> visitor) {
        int[] row = new int[days];
        Arrays.fill(row, -1);
        plans(set, besides, row, 0, visitor);
    }

    private void plans(int set, int besides, int[] row, int day, Consumer<int[]> visitor) {
        if (day == days) {
            visitor.accept(row);
            return;
        }
        plans(set, besides, row, day + 1, visitor);
        for (int bill = 0; bill < bills.size(); bill++) {
            if ((set >> bill & 1) != 0 && dayOf(row, bill) < 0) {
                row[day] = bill;
                if (reason(row, day, besides) == 0) {
                    plans(set, besides, row, day + 1, visitor);
                }
                row[day] = -1;
            }
        }
    }

    int bestPlan(int set, int besides) {
        int[] most = {0};
        plans(set, besides, row -> most[0] = Math.max(most[0], worthOfRow(row)));
        return most[0];
    }

    int needs(int bill) {
        int after = bills.get(bill)[2];
        return after < 0 ? 0 : 1 << after | needs(after);
    }

    int heirs(int bill) {
        int set = 0;
        for (int heir = 0; heir < bills.size(); heir++) {
            set |= (needs(heir) >> bill & 1) << heir;
        }
        return set;
    }

    int sky(int side, int chosen) {
        int sky = 0;
        for (int a = 0; a < augurs.size(); a++) {
            for (int day = 0; day < days; day++) {
                int[] augur = augurs.get(a);
                if ((chosen >> a & 1) != 0 && augur[0] == side && augur[1] <= day && day <= augur[2]) {
                    sky |= 1 << day;
                }
            }
        }
        return sky;
    }

    int clear(int side) {
        int set = 0;
        for (int day = 0; day < days; day++) {
            set |= !marks.contains(day) && !watches(1 - side, day) ? 1 << day : 0;
        }
        return set;
    }

    int run(int set) {
        int longest = 0;
        for (int from = 0; from < days; from++) {
            for (int to = from; to < days; to++) {
                int all = (1 << to + 1) - (1 << from);
                longest = (set & all) == all ? Math.max(longest, to - from + 1) : longest;
            }
        }
        return longest;
    }

    /** Bills that pass in a season drawn, and how many draws it took. */
    int[] drawn(long seed) {
        int[] row = row();
        int set = 0;
        int draws = 0;
        long x = seed;
        for (int day = 0; day < days; day++) {
            if (row[day] < 0 || !eats(row, day)) {
                continue;
            }
            x = java.math.BigInteger.valueOf(x).multiply(java.math.BigInteger.valueOf(1103515245))
                .add(java.math.BigInteger.valueOf(12345)).mod(java.math.BigInteger.valueOf(2147483648L)).longValue();
            draws++;
            int[] bill = bills.get(row[day]);
            boolean clear = !marks.contains(day) && !watches(1 - bill[0], day);
            if (x / 65536 % 10 < odds && clear && (bill[2] < 0 || (set >> bill[2] & 1) != 0)) {
                set |= 1 << row[day];
            }
        }
        return new int[] {set, draws};
    }

    /** The pairs of a hunger and a day of feeding (-1: none) that fit. */
    List<int[]> pairs(long[] seen) {
        List<int[]> pairs = new ArrayList<>();
        for (int first = 0; first <= 9; first++) {
            for (int fed = -1; fed < days; fed++) {
                int[] row = rowFed(fed);
                boolean fits = true;
                for (int i = 0; i < seen.length; i += 2) {
                    fits &= hunger(row, (int) seen[i], first) >= greed == (seen[i + 1] == 1);
                }
                if (fits) {
                    pairs.add(new int[] {first, fed});
                }
            }
        }
        return pairs;
    }

    int[] rowFed(int fed) {
        int[] row = new int[days];
        Arrays.fill(row, -1);
        if (fed >= 0) {
            row[fed] = FED;
        }
        return row;
    }

    int leftAtWorst(List<int[]> pairs, int day) {
        int eating = 0;
        for (int[] pair : pairs) {
            eating += hunger(rowFed(pair[1]), day, pair[0]) >= greed ? 1 : 0;
        }
        return Math.max(eating, pairs.size() - eating);
    }
}
