/** Promises 1 to 12 and 72: the tape, the camp as told, its faults, and what stands in it. */
public final class CampTest {
    private static final Check check = new Check();
    private static final String HEAD = "camp days 10 hunger 1 greed 3 odds 7;";

    public static void main(String[] args) {
        newObject();
        tape();
        campIsRead();
        campIsReplaced();
        faultsStay();
        faults();
        bounds();
        tooMany();
        augursAndBills();
        skies();
        hungerAndEating();
        check.end();
    }

    private static void newObject() {
        SacredHens x = new SacredHens();
        for (int what = 0; what <= 9; what++) {
            check.due("count(" + what + ") of a new object", x.count(what), 0);
        }
        check.due("count(-1)", x.count(-1), -1);
        check.due("count(10)", x.count(10), -1);
        check.due("fault(0) ahead of any", x.fault(0), 0);
        check.due("fault(1) ahead of any", x.fault(1), -1);
        check.due("fault(2)", x.fault(2), -1);
        check.due("marks() without a camp", x.marks(), -2);
        check.due("sky(0) without a camp", x.sky(0), -2);
        check.due("watch(0) without a camp", x.watch(0), -2);
        check.due("hunger(0) without a camp", x.hunger(0), -2);
        check.due("eat() without a camp", x.eat(), -2);
    }

    private static void tape() {
        SacredHens x = new SacredHens();
        check.due("end(1) of an empty tape", x.end(1), -1);
        check.due("end(0) of an empty tape", x.end(0), 0);
        for (int i = 1; i <= 40; i++) {
            check.due("feed " + i, x.feed(0x20202020, 0x20202020, 0x20202020, 0x20202020, 0x0a0a0a0a), 20 * i);
        }
        check.due("feed above 800", x.feed(0, 0, 0, 0, 0), -1);
        check.due("count(8) when full", x.count(8), 800);
        check.due("end(801)", x.end(801), -1);
        check.due("end(-1)", x.end(-1), -1);
        check.due("count(8) after wrong ends", x.count(8), 800);
        check.due("end(781)", x.end(781), 781);
        check.due("feed when 19 are free", x.feed(0, 0, 0, 0, 0), -1);
        check.due("end(780)", x.end(780), 780);
        check.due("feed when 20 are free", x.feed(0, 0, 0, 0, 0), 800);
        check.due("end(780) again", x.end(780), 780);
        check.due("camp() of blanks", x.camp(), 0);
        check.due("count(8) after camp()", x.count(8), 0);
        // The highest byte comes first.
        x.feed('c' << 24 | 'a' << 16 | 'm' << 8 | 'p', 0x20202020, 0x20202020, 0x20202020, 0x20202041);
        check.due("camp() with a strange byte", x.camp(), -4);
        check.due("the word that is missing stands where the strange byte does", x.fault(1), 19);
        x.feed(0x80202020, 0x20202020, 0x20202020, 0x20202020, 0x20202020);
        check.due("camp() with a byte above 127", x.camp(), -4);
        check.due("its place", x.fault(1), 0);
        x.feed(-1, -1, -1, -1, -1);
        check.due("camp() with bytes 255", x.camp(), -4);
        check.due("its fault", x.fault(0), 1);
    }

    private static void campIsRead() {
        SacredHens x = new SacredHens();
        check.due("camp()", Check.tell(x, HEAD + "mark 2;mark 2;augur of 1 from 3 to 5;bill of 0 worth 12;"), 5);
        int[] counts = {10, 1, 3, 7, 1, 1, 0, 5, 0, 0};
        for (int what = 0; what < counts.length; what++) {
            check.due("count(" + what + ")", x.count(what), counts[what]);
        }
        check.due("fault(0) without", x.fault(0), 0);
        check.due("fault(1) without", x.fault(1), -1);
        check.due("marks()", x.marks(), 4);
        check.due("tokens need no blanks", Check.tell(x, "camp\ndays14hunger009greed9odds10;mark0;"), 2);
        check.due("days 14", x.count(0), 14);
        check.due("hunger 009", x.count(1), 9);
        check.due("odds 10", x.count(3), 10);
        check.due("only a head", Check.tell(x, " " + HEAD + "\n "), 1);
    }

    private static void campIsReplaced() {
        SacredHens x = Check.camp(HEAD + "mark 2;bill of 0 worth 12;augur of 0 from 1 to 1;");
        check.due("asks", x.asks(0, 3), 1);
        check.due("another camp", Check.tell(x, "camp days 3 hunger 0 greed 1 odds 0;"), 1);
        check.due("no marks are left", x.marks(), 0);
        check.due("no acts are left", x.count(6), 0);
        check.due("no bills are left", x.bill(0, 0), -2);
        check.due("no augurs are left", x.augur(0, 0), -2);
        check.due("an empty tape", x.camp(), 0);
        check.due("there is no camp", x.marks(), -2);
        check.due("no days", x.count(0), 0);
        check.due("no lines", x.count(7), 0);
    }

    private static void faultsStay() {
        SacredHens x = Check.camp(HEAD + "mark 2;bill of 0 worth 12;");
        x.asks(0, 3);
        check.due("a fault", Check.tell(x, HEAD + "mark 10;"), -4);
        check.due("its kind", x.fault(0), 2);
        check.due("its place", x.fault(1), HEAD.length() + 5);
        check.due("the camp stays", x.marks(), 4);
        check.due("the acts stay", x.count(6), 1);
        check.due("the tape is empty", x.count(8), 0);
        check.due("a camp after it", x.camp(), 0);
        check.due("no fault now", x.fault(0), 0);
        check.due("and no place", x.fault(1), -1);
    }

    private static void faults() {
        int h = HEAD.length();
        check.fault("camp", 1, 4);
        check.fault("camp  ", 1, 6);
        check.fault(";", 1, 0);
        check.fault("mark 3;", 1, 0);
        check.fault("camps days 3", 1, 0);
        check.fault("Camp days 3", 1, 0);
        check.fault("camp days hunger", 1, 10);
        check.fault("camp days 3 hunger 3 greed 3 odds 3 ", 1, 36);
        check.fault("camp days 3 greed 3", 1, 12);
        check.fault("camp days 3x", 1, 11);
        check.fault("camp days -3", 1, 10);
        check.fault("camp\tdays", 1, 4);
        check.fault(HEAD + ";", 1, h);
        check.fault(HEAD + HEAD, 1, h);
        check.fault(HEAD + " mark", 1, h + 5);
        check.fault(HEAD + "mark 1 2;", 1, h + 7);
        check.fault(HEAD + "mark 1", 1, h + 6);
        check.fault(HEAD + "marks 1;", 1, h);
        check.fault(HEAD + "mark1mark", 1, h + 5);
        check.fault(HEAD + "markz 1;", 1, h);
        check.fault(HEAD + "amark 1;", 1, h);
        check.fault(HEAD + "7;", 1, h);
        check.fault(HEAD + "augur from 1 to 2;", 1, h + 6);
        check.fault(HEAD + "bill of 0 worth 5 after;", 1, h + 23);
        check.fault(HEAD + "bill of 0 worth 5 behind 0;", 1, h + 18);
        check.fault(HEAD + "bill of 0 worth 5, after 0;", 1, h + 17);
        check.fault(HEAD + "bill of 2 worth 500 ?", 2, h + 8);
    }

    private static void bounds() {
        int h = HEAD.length();
        check.fault("camp days 0 hunger 0 greed 1 odds 0;", 2, 10);
        check.fault("camp days 15 hunger 0 greed 1 odds 0;", 2, 10);
        check.fault("camp days 4294967297 hunger 0 greed 1 odds 0;", 2, 10);
        check.fault("camp days 99999999999999999999999999 hunger", 2, 10);
        check.fault("camp days 1 hunger 10 greed 1 odds 0;", 2, 19);
        check.fault("camp days 1 hunger 0 greed 0 odds 0;", 2, 27);
        check.fault("camp days 1 hunger 0 greed 10 odds 0;", 2, 27);
        check.fault("camp days 1 hunger 0 greed 1 odds 11;", 2, 34);
        check.fault(HEAD + "mark 10;", 2, h + 5);
        check.fault(HEAD + "augur of 2 from 0 to 0;", 2, h + 9);
        check.fault(HEAD + "augur of 1 from 10 to 10;", 2, h + 16);
        check.fault(HEAD + "augur of 1 from 4 to 3;", 2, h + 21);
        check.fault(HEAD + "augur of 1 from 4 to 10;", 2, h + 21);
        check.fault(HEAD + "bill of 0 worth 100;", 2, h + 16);
        check.fault(HEAD + "bill of 0 worth 1 after 0;", 2, h + 24);
        check.fault(HEAD + "bill of 0 worth 1;bill of 0 worth 1 after 1;", 2, h + 42);
        check.due("the widest numbers", Check.tell(new SacredHens(),
            "camp days 14 hunger 9 greed 9 odds 10;mark 13;augur of 1 from 13 to 13;bill of 1 worth 99;bill of 0 worth 0 after 0;"), 5);
        check.due("the least numbers", Check.tell(new SacredHens(),
            "camp days 1 hunger 0 greed 1 odds 0;mark 0;augur of 0 from 0 to 0;bill of 0 worth 0;"), 4);
    }

    private static void tooMany() {
        String augurs = HEAD + "augur of 0 from 0 to 1;".repeat(8);
        String bills = HEAD + "bill of 0 worth 1;".repeat(8);
        check.due("8 augurs", Check.tell(new SacredHens(), augurs), 9);
        check.due("8 bills", Check.tell(new SacredHens(), bills), 9);
        check.fault(augurs + " augur of 5", 3, augurs.length() + 1);
        check.fault(bills + "bill", 3, bills.length());
        check.fault(bills + "bills", 1, bills.length());
        check.due("many marks", Check.tell(new SacredHens(), HEAD + "mark 3;".repeat(100)), 101);
    }

    private static void augursAndBills() {
        SacredHens x = Check.camp(HEAD + "augur of 1 from 2 to 9;bill of 1 worth 44;augur of 0 from 0 to 0;bill of 0 worth 0 after 0;");
        int[][] augurs = {{1, 2, 9}, {0, 0, 0}};
        int[][] bills = {{1, 44, -1}, {0, 0, 0}};
        for (int i = 0; i < 2; i++) {
            for (int what = 0; what < 3; what++) {
                check.due("augur(" + i + ", " + what + ")", x.augur(i, what), augurs[i][what]);
                check.due("bill(" + i + ", " + what + ")", x.bill(i, what), bills[i][what]);
            }
        }
        int[][] none = {{-1, 0}, {2, 0}, {0, 3}, {0, -1}, {1 << 30, 1}};
        for (int[] n : none) {
            check.due("augur, none such", x.augur(n[0], n[1]), -2);
            check.due("bill, none such", x.bill(n[0], n[1]), -2);
        }
    }

    private static void skies() {
        SacredHens x = Check.camp(HEAD + "augur of 0 from 0 to 2;augur of 1 from 2 to 3;augur of 0 from 5 to 9;");
        check.due("sky(0)", x.sky(0), Check.bits(0, 1, 2, 5, 6, 7, 8, 9));
        check.due("sky(1)", x.sky(1), Check.bits(2, 3));
        check.due("sky(2)", x.sky(2), -2);
        check.due("sky(-1)", x.sky(-1), -2);
        check.due("watch(2)", x.watch(2), 3);
        check.due("watch(4)", x.watch(4), 0);
        check.due("watch(9)", x.watch(9), 4);
        check.due("watch(10)", x.watch(10), -2);
        check.due("watch(-1)", x.watch(-1), -2);
        check.due("marks() of none", x.marks(), 0);
    }

    private static void hungerAndEating() {
        SacredHens x = Check.camp(HEAD + "bill of 0 worth 1;mark 4;");
        for (int day = 0; day < 10; day++) {
            check.due("hunger(" + day + ")", x.hunger(day), day + 1);
        }
        check.due("eat()", x.eat(), 0b1111111100);
        check.due("asks ahead of hunger", x.asks(0, 1), 0);
        check.due("hunger on the day", x.hunger(1), 2);
        check.due("hunger behind it", x.hunger(2), 1);
        check.due("eat() then", x.eat(), 0b1111110000);
        check.due("feeds", x.feeds(5), 4);
        check.due("hunger behind the feeding", x.hunger(6), 1);
        check.due("eat() with both", x.eat(), 0b1100110000);
        check.due("hunger(10)", x.hunger(10), -2);
        check.due("hunger(-1)", x.hunger(-1), -2);
    }
}
