/** The example of README.md: a camp is told, asked, lived in, and asked by what was seen. */
public final class Example {
    public static void main(String[] args) {
        SacredHens x = new SacredHens();
        tell(x, "camp days 6 hunger 1 greed 2 odds 5; bill of 2 worth 7;");
        System.out.println("camp() " + x.camp() + ", fault " + x.fault(0) + " at byte " + x.fault(1));
        tell(x, "camp days 6 hunger 1 greed 2 odds 5;\n"
            + "mark 4;\n"
            + "augur of 1 from 2 to 2;\n"
            + "bill of 0 worth 7;\n"
            + "bill of 0 worth 9 after 0;\n"
            + "bill of 1 worth 5;\n");
        System.out.println("camp() " + x.camp());
        System.out.println("eat() " + days(x.eat()) + ", open(0) " + days(x.open(0)));
        System.out.println("plan(0) " + x.plan(0) + " in ways(0) " + x.ways(0) + ", the first:");
        for (int day = 0; day < x.count(0); day++) {
            System.out.println("  planned(0, " + day + ") " + x.planned(0, day));
        }
        System.out.println("stop(1) " + x.stop(1) + ", stops(1) " + days(x.stops(1)));

        System.out.println("asks(0, 1) " + x.asks(0, 1) + ", asks(1, 2) " + x.asks(1, 2) + ", why(1) " + x.why(1));
        System.out.println("asks(2, 2) " + x.asks(2, 2) + ", there they were asked");
        System.out.println("undo() " + x.undo() + ", asks(1, 3) " + x.asks(1, 3));
        System.out.println("chance " + x.chance(0) + " / " + x.chance(1));

        row(x, 0, 1, 0, 3, 1);
        System.out.println("fits(0) " + x.fits(0) + ", fed(0) " + days(x.fed(0)) + ", ask(0) " + x.ask(0));
        row(x, 1, 1, 1, 1, 1, 0, 0, 0, 0);
        System.out.println("doubt " + x.doubt(1, 0) + " / " + x.doubt(1, 1) + ", leans(1) " + x.leans(1));
        System.out.println("fits(2) " + x.fits(2) + ", nothing is in slot 2");
    }

    /** Feeds a text of at most 800 bytes, twenty a call; the last call may feed too many, which end() cuts. */
    private static void tell(SacredHens x, String text) {
        for (int i = 0; i < text.length(); i += 20) {
            x.feed(four(text, i), four(text, i + 4), four(text, i + 8), four(text, i + 12), four(text, i + 16));
        }
        x.end(text.length());
    }

    private static int four(String text, int from) {
        int number = 0;
        for (int i = from; i < from + 4; i++) {
            number = number << 8 | (i < text.length() ? text.charAt(i) : ' ');
        }
        return number;
    }

    /** Puts numbers of one byte (width 0) into a slot's row. */
    private static void row(SacredHens x, int slot, long... numbers) {
        x.row(slot, 0, numbers.length);
        for (int i = 0; i < numbers.length; i++) {
            x.write(slot, i, numbers[i]);
        }
    }

    private static String days(int bits) {
        StringBuilder days = new StringBuilder("{");
        for (int day = 0; day < 14; day++) {
            if ((bits >> day & 1) == 1) {
                days.append(days.length() == 1 ? "" : " ").append(day);
            }
        }
        return days.append("}").toString();
    }
}
