import java.lang.reflect.Method;
import java.nio.charset.StandardCharsets;
import java.util.Map;

/**
 * Promises 1 to 12 and 72 with Terms I and II, sentence by sentence: their bounds on both sides, what is
 * refused and what stays then. A remark with a number tells the promise, the words behind it are the document's.
 */
public final class CampEdgesTest {
    private static final Check check = new Check();
    private static final String HEAD = "camp days 6 hunger 1 greed 3 odds 7;";
    private static final int BLANKS = 0x20202020;

    public static void main(String[] args) throws Exception {
        noCamp();
        feedsTwentyBytesInOrder();
        feedsUpTo800();
        feedsAnyByte();
        endsTheTape();
        tellsHowManyLines();
        takesThePlaceOfAnother();
        nothingIsLeft();
        staysAfterAFault();
        tellsTheLatestFault();
        numbersOfTheHead();
        numbersOfTheLines();
        tokens();
        firstFault();
        oneOfEachTooMany();
        augursAndBillsAsTheyStand();
        daysAsBits();
        hungerAndEating();
        counts();
        check.end();
    }

    /** 1: No CAMP. What needs none answers as said, all else -2. */
    private static void noCamp() throws Exception {
        Map<String, Long> needNoCamp = Map.ofEntries(Map.entry("feed", 20L), Map.entry("end", 0L), Map.entry("camp", 0L),
            Map.entry("fault", 0L), Map.entry("rests", 10L), Map.entry("believes", -1L), Map.entry("count", 0L), Map.entry("image", 0L),
            Map.entry("back", -6L), Map.entry("row", 0L), Map.entry("write", -6L), Map.entry("paste", -6L));
        for (Method method : SacredHens.class.getDeclaredMethods()) {
            if (java.lang.reflect.Modifier.isPublic(method.getModifiers())) {
                long due = needNoCamp.getOrDefault(method.getName(), -2L);
                check.due(method.getName() + " with noughts, of a new object", zeros(new SacredHens(), method), due);
                SacredHens emptied = Check.camp(HEAD + "bill of 0 worth 1;");
                emptied.camp();
                check.due(method.getName() + " with noughts, no camp any more", zeros(emptied, method), due);
            }
        }
        check.due("NONE", SacredHens.NONE, -1);
    }

    private static long zeros(SacredHens x, Method method) throws Exception {
        Object[] arguments = new Object[method.getParameterCount()];
        for (int i = 0; i < arguments.length; i++) {
            arguments[i] = method.getParameterTypes()[i] == long.class ? (Object) 0L : (Object) 0;
        }
        return ((Number) method.invoke(x, arguments)).longValue();
    }

    /** 2: Twenty bytes come behind the TAPE, four of each number, the highest first: how many it has. */
    private static void feedsTwentyBytesInOrder() {
        String text = "camp days 7 hunger 5 greed 3 odds 10;  ;";
        int[] n = Check.numbers(text.getBytes(StandardCharsets.ISO_8859_1));
        SacredHens x = new SacredHens();
        check.due("the first twenty", x.feed(n[0], n[1], n[2], n[3], n[4]), 20);
        check.due("the next", x.feed(n[5], n[6], n[7], n[8], n[9]), 40);
        check.due("the last is number 39", x.camp(), -4);
        check.due("its place", x.fault(1), 39);
        x.feed(n[0], n[1], n[2], n[3], n[4]);
        x.feed(n[5], n[6], n[7], n[8], n[9]);
        x.end(39);
        check.due("all stand as told", x.camp(), 1);
        int[] counts = {7, 5, 3, 10};
        for (int what = 0; what < 4; what++) {
            check.due("count(" + what + ")", x.count(what), counts[what]);
        }
        for (int place = 0; place < 20; place++) {
            byte[] bytes = " ".repeat(20).getBytes(StandardCharsets.ISO_8859_1);
            bytes[place] = '?';
            Check.feed(x, bytes);
            x.camp();
            check.due("the place of byte " + place, x.fault(1), place);
        }
    }

    /** 2: NONE, and none come, if it would have more than 800. */
    private static void feedsUpTo800() {
        SacredHens x = new SacredHens();
        byte[] full = (HEAD + " ".repeat(800 - HEAD.length() - 7) + "mark 5;").getBytes(StandardCharsets.ISO_8859_1);
        Check.feed(x, full);
        check.due("800 bytes", x.count(8), 800);
        check.due("feed beyond", x.feed(-1, -1, -1, -1, -1), -1);
        check.due("none came", x.count(8), 800);
        check.due("the tape is as it was", x.camp(), 2);
        check.due("to its last line", x.marks(), 32);
        Check.feed(x, full);
        for (int free = 1; free < 20; free++) {
            x.end(800 - free);
            check.due("feed with room for " + free, x.feed(0, 0, 0, 0, 0), -1);
            check.due("none came", x.count(8), 800 - free);
        }
        x.end(780);
        check.due("feed with room for 20", x.feed(BLANKS, BLANKS, BLANKS, BLANKS, BLANKS), 800);
        check.due("room again, once it is read", x.camp(), 1);
        check.due("feed of an empty tape", x.feed(0, 0, 0, 0, 0), 20);
    }

    /** 2, Terms I: each byte has a place of its own in a number, those above 127 too; only 32 and 10 are blanks. */
    private static void feedsAnyByte() {
        SacredHens x = new SacredHens();
        for (int shift = 24; shift >= 0; shift -= 8) {
            for (int sign = 0; sign < 256; sign++) {
                boolean blank = sign == 32 || sign == 10;
                x.feed(BLANKS & ~(255 << shift) | sign << shift, BLANKS, BLANKS, BLANKS, BLANKS);
                check.due("byte " + sign, x.camp(), blank ? 0 : -4);
                check.due("its place", x.fault(1), blank ? -1 : 3 - shift / 8);
                if (sign % 100 == 99) {
                    x = new SacredHens();
                }
            }
        }
    }

    /** 3: The TAPE has its first n bytes alone: n; NONE, and nothing happens, if it has not so many, or n is below 0. */
    private static void endsTheTape() {
        SacredHens x = new SacredHens();
        check.all("end of an empty tape", -1, x.end(1), x.end(-1), x.end(Integer.MAX_VALUE), x.end(Integer.MIN_VALUE));
        check.due("end(0) of an empty tape", x.end(0), 0);
        byte[] text = (HEAD + "mark 1;mark 2;").getBytes(StandardCharsets.ISO_8859_1);
        Check.feed(x, text);
        int n = text.length;
        check.all("refused ends", -1, x.end(n + 1), x.end(-1), x.end(Integer.MAX_VALUE), x.end(Integer.MIN_VALUE));
        check.due("nothing happened", x.count(8), n);
        check.due("end of all of it", x.end(n), n);
        check.due("end of fewer", x.end(n - 7), n - 7);
        check.due("those behind are gone", x.end(n), -1);
        check.due("feed behind them", x.feed(BLANKS, BLANKS, BLANKS, BLANKS, BLANKS), n + 13);
        check.due("the first are left", x.camp(), 2);
        check.due("marks()", x.marks(), 2);
        Check.feed(x, text);
        check.due("end(0)", x.end(0), 0);
        check.due("of nothing there is no camp", x.camp(), 0);
    }

    /** 4: The TAPE (empty then) is the CAMP, nothing done: how many LINES (0: there is none then). */
    private static void tellsHowManyLines() {
        SacredHens x = new SacredHens();
        check.due("camp() of an empty tape", x.camp(), 0);
        check.due("there is none", x.marks(), -2);
        check.due("one line", Check.tell(x, HEAD), 1);
        check.due("the tape is empty", x.count(8), 0);
        check.due("a mark told twice is two lines", Check.tell(x, HEAD + "mark 3;mark 3;"), 3);
        check.due("and one mark", x.marks(), 8);
        check.due("blanks alone", Check.tell(x, " \n "), 0);
        check.due("there is none any more", x.marks(), -2);
        check.due("the longest, of least marks", Check.tell(x, HEAD + "mark0;".repeat(127)), 128);
    }

    /** 4: in place of another, nothing done. SLOTS and IMAGES are no part of it. */
    private static void takesThePlaceOfAnother() {
        SacredHens x = told();
        x.image(1);
        check.due("another", Check.tell(x, "camp days 2 hunger 0 greed 1 odds 0;"), 1);
        check.all("nothing of the old one", 0, x.marks(), x.count(1), x.count(3), x.count(4), x.count(5), x.count(6), x.asked(), x.fattened());
        check.all("none such any more", -2, x.hunger(2), x.bill(0, 0), x.augur(0, 0));
        check.due("the slot stays", x.count(9), 1);
        check.due("the image stays", x.back(1), 0);
        check.due("it is as it was", x.count(6), 2);
        check.due("none in place of it", x.camp(), 0);
        check.due("nothing of it", x.count(6), 0);
        check.due("the slot stays", x.count(9), 1);
    }

    /** 4: in place of another, whichever was told ahead: nothing is left of the first by the third, nor by an empty one. */
    private static void nothingIsLeft() {
        String rich = HEAD + "mark 4;mark 5;augur of 1 from 1 to 2;augur of 0 from 1 to 5;bill of 0 worth 7;bill of 1 worth 8 after 0;";
        String poor = "camp days 3 hunger 0 greed 2 odds 0;mark 1;augur of 0 from 0 to 0;bill of 1 worth 1;";
        SacredHens x = new SacredHens();
        for (int time = 0; time < 2; time++) {
            check.due("rich", Check.tell(x, rich), 7);
            x.asks(0, 3);
        }
        check.due("poor", Check.tell(x, poor), 4);
        check.same("poor behind two rich ones", State.of(Check.camp(poor)), State.of(x));
        Check.tell(x, rich);
        x.feeds(0);
        Check.tell(x, rich);
        x.camp();
        check.same("none behind two rich ones", State.of(new SacredHens()), State.of(x));
    }

    private static SacredHens told() {
        SacredHens x = Check.camp(HEAD + "mark 4;augur of 0 from 1 to 2;bill of 0 worth 7;bill of 1 worth 8 after 0;");
        x.asks(0, 3);
        x.feeds(5);
        Check.fill(x, 2, 1, 1, 0, 1, 1);
        return x;
    }

    /** 4: -4: a FAULT (the TAPE is empty, all else stays). */
    private static void staysAfterAFault() {
        String[] faulty = {HEAD + "mark 3", HEAD + "mark 0;augur of 1 from 0 to 5;bill of 1 worth 9;bill of 2", "?", HEAD + HEAD};
        for (String text : faulty) {
            SacredHens x = told();
            x.image(0);
            String ahead = State.of(x);
            check.due("camp() of " + text, Check.tell(x, text), -4);
            check.due("the tape is empty", x.count(8), 0);
            check.same("a fault", ahead, State.of(x));
            check.due("the acts can be taken back", x.undo(), 1);
            check.due("the image stays", x.back(0), 0);
            check.due("it is as it was", x.count(6), 2);
        }
        SacredHens none = new SacredHens();
        check.due("a fault where there was none", Check.tell(none, HEAD + "mark 6;"), -4);
        check.due("there is none", none.marks(), -2);
        check.due("count(0)", none.count(0), 0);
    }

    /** 5: Of the latest camp(), what 0: its FAULT, 0 without, 1: its place (NONE without). NONE for another what, and ahead of any (what 1). */
    private static void tellsTheLatestFault() {
        SacredHens x = new SacredHens();
        check.due("fault(0) ahead of any", x.fault(0), 0);
        check.due("fault(1) ahead of any", x.fault(1), -1);
        Check.tell(x, "camp days 15");
        check.due("fault(0)", x.fault(0), 2);
        check.due("fault(1)", x.fault(1), 10);
        check.all("no such what", -1, x.fault(-1), x.fault(2), x.fault(Integer.MAX_VALUE), x.fault(Integer.MIN_VALUE));
        Check.feed(x, HEAD.getBytes(StandardCharsets.ISO_8859_1));
        check.due("what is fed is not read yet", x.fault(0), 2);
        Check.tell(x, ";");
        check.due("of the latest: behind what was fed", x.fault(1), HEAD.length());
        check.due("fault(0)", x.fault(0), 1);
        Check.tell(x, HEAD);
        check.due("fault(0) without", x.fault(0), 0);
        check.due("fault(1) without", x.fault(1), -1);
        Check.tell(x, "mark");
        x.camp();
        check.due("fault(0) of an empty tape", x.fault(0), 0);
        check.due("fault(1) of an empty tape", x.fault(1), -1);
    }

    private static SacredHens reads(String text, int lines) {
        SacredHens x = new SacredHens();
        check.due("camp() of " + text, Check.tell(x, text), lines);
        return x;
    }

    /** Terms I: days 1 .. 14, hunger 0 .. 9, greed 1 .. 9, odds 0 .. 10. FAULT 2: a number out of its bounds. */
    private static void numbersOfTheHead() {
        String[] parts = {"camp days ", " hunger ", " greed ", " odds "};
        int[] least = {1, 0, 1, 0};
        int[] most = {14, 9, 9, 10};
        for (int part = 0; part < 4; part++) {
            for (int n = 0; n <= 300; n++) {
                StringBuilder text = new StringBuilder();
                int place = 0;
                for (int i = 0; i < 4; i++) {
                    text.append(parts[i]);
                    place = i == part ? text.length() : place;
                    text.append(i == part ? n : 5);
                }
                if (n >= least[part] && n <= most[part]) {
                    check.due("count(" + part + ")", reads(text + ";", 1).count(part), n);
                } else {
                    check.fault(text + ";", 2, place);
                }
            }
        }
        // Too long for an int or a long: they are out of bounds still.
        String[] huge = {"2147483648", "4294967297", "18446744073709551617", "1" + "0".repeat(300)};
        for (String n : huge) {
            check.fault("camp days " + n + " hunger 0 greed 1 odds 0;", 2, 10);
        }
        check.due("noughts ahead", reads("camp days 0000000000000014 hunger 00 greed 09 odds 010;", 1).count(0), 14);
    }

    /** Terms I: SIDES 0, 1; DAYS 0 .. days less 1; the last DAY no less than the first; worth 0 .. 99; after a BILL told ahead. */
    private static void numbersOfTheLines() {
        int h = HEAD.length();
        for (int n = 0; n <= 120; n++) {
            number("mark ", n, ";", 5);
            number("augur of ", n, " from 0 to 0;", 1);
            number("augur of 0 from ", n, " to 5;", 5);
            number("augur of 0 from 0 to ", n, ";", 5);
            number("bill of ", n, " worth 0;", 1);
            number("bill of 0 worth ", n, ";", 99);
            if (n < 3) {
                reads(HEAD + "augur of 1 from 3 to " + (n + 3) + ";", 2);
                check.fault(HEAD + "augur of 1 from 3 to " + n + ";", 2, h + 21);
            }
        }
        String bills = HEAD;
        for (int told = 0; told < 8; told++) {
            for (int after = 0; after <= 9; after++) {
                String text = bills + "bill of 0 worth 5 after " + after + ";";
                if (after < told) {
                    check.due("after " + after, reads(text, told + 2).bill(told, 2), after);
                } else {
                    check.fault(text, 2, bills.length() + 24);
                }
            }
            bills = bills + "bill of 1 worth 5;";
        }
        // A camp of one day has day 0 alone.
        String one = "camp days 1 hunger 0 greed 1 odds 0;";
        reads(one + "mark 0;augur of 0 from 0 to 0;", 3);
        check.fault(one + "mark 1;", 2, one.length() + 5);
        check.fault(one + "augur of 0 from 0 to 1;", 2, one.length() + 21);
    }

    private static void number(String ahead, int n, String behind, int most) {
        if (n <= most) {
            reads(HEAD + ahead + n + behind, 2);
        } else {
            check.fault(HEAD + ahead + n + behind, 2, HEAD.length() + ahead.length());
        }
    }

    /** Terms I: TOKENS, blanks (32, 10) aside, the longest: words (a .. z), numbers (digits), the sign ; . FAULT 1: a TOKEN that is none. */
    private static void tokens() {
        int h = HEAD.length();
        reads("camp days6hunger1greed3odds7;mark 1;", 2);
        reads("\n\n camp\ndays\n6 hunger 1\n\n greed 3 odds 7\n;\n", 1);
        check.fault("campdays 6", 1, 0);
        check.fault("camp days 6 hunger 1 greed 3 odds 7 0;", 1, 36);
        // The neighbours of a .. z, of the digits and of the sign, and other blanks.
        String none = "`{/:<ACMZ-+.,_\t\r\f\0\u0080\u00a0\u00ff";
        for (int i = 0; i < none.length(); i++) {
            char sign = none.charAt(i);
            check.fault(HEAD + sign, 1, h);
            check.fault(HEAD + "mark 1" + sign + ";", 1, h + 6);
            check.fault(HEAD + "mark" + sign + "1;", 1, h + 4);
            check.fault(HEAD.replace("days", "days" + sign), 1, 9);
        }
        for (char sign = 'a'; sign <= 'z'; sign++) {
            check.fault(HEAD + "mark" + sign + " 1;", 1, h);
        }
        lettersOfAWord("", HEAD);
        lettersOfAWord(HEAD, "mark 3;");
        lettersOfAWord(HEAD, "augur of 0 from 1 to 2;");
        lettersOfAWord(HEAD + "bill of 0 worth 1;", "bill of 1 worth 2 after 0;");
        for (int digit = 0; digit <= 9; digit++) {
            check.due("a worth of a digit", reads(HEAD + "bill of 1 worth " + digit + ";", 2).bill(0, 1), digit);
        }
    }

    /** Another letter in place of any one, one less or one more: the word is none, from its first byte. */
    private static void lettersOfAWord(String ahead, String line) {
        int word = 0;
        for (int i = 0; i < line.length(); i++) {
            if (Character.isLetter(line.charAt(i))) {
                word = i == 0 || line.charAt(i - 1) == ' ' ? i : word;
                char other = line.charAt(i) == 'q' ? 'j' : 'q';
                check.fault(ahead + line.substring(0, i) + other + line.substring(i + 1), 1, ahead.length() + word);
                check.fault(ahead + line.substring(0, i) + other + line.substring(i), 1, ahead.length() + word);
                check.fault(ahead + line.substring(0, i) + line.substring(i + 1), 1, ahead.length() + word);
                check.fault(ahead + line.substring(0, i) + Character.toUpperCase(line.charAt(i)) + line.substring(i + 1), 1,
                    ahead.length() + word);
            }
        }
    }

    /** Terms I: FAULTS, the first by its place (a TOKEN's first byte; the end's), of one place the least; 1: can't stand there. */
    private static void firstFault() {
        int h = HEAD.length();
        String[] ahead = {"camp", "days", "6", "hunger", "1", "greed", "3", "odds", "7", ";"};
        faultInEach("", ahead);
        faultInEach(HEAD, "mark", "3", ";");
        faultInEach(HEAD, "augur", "of", "1", "from", "2", "to", "3", ";");
        faultInEach(HEAD, "bill", "of", "1", "worth", "2", ";");
        faultInEach(HEAD + "bill of 0 worth 0;", "bill", "of", "1", "worth", "2", "after", "0", ";");
        // camp behind the first LINE, another word ahead of it.
        check.fault(HEAD + " camp days 6", 1, h + 1);
        check.fault("mark 3;" + HEAD, 1, 0);
        check.fault("augur of 0 from 0 to 0;" + HEAD, 1, 0);
        check.fault("bill of 0 worth 0;" + HEAD, 1, 0);
        check.fault(";" + HEAD, 1, 0);
        // The first by its place, whatever comes behind it.
        check.fault(HEAD + "mark 6 ?", 2, h + 5);
        check.fault(HEAD + "mark ? 6", 1, h + 5);
        check.fault(HEAD + "mark 6;mark 7;", 2, h + 5);
        check.fault(HEAD + "bill of 2 worth 100 after 9;", 2, h + 8);
        check.fault(HEAD + "mark;mark 6;", 1, h + 4);
        // Where a number can't stand it is no matter how great it is; of one place the least.
        check.fault("camp 99", 1, 5);
        check.fault(HEAD + "mark 1 99;", 1, h + 7);
        String eight = HEAD + "augur of 0 from 0 to 1;".repeat(8);
        check.fault(eight + "mark augur", 1, eight.length() + 5);
        // The end's place is how many bytes there are, blanks too.
        check.fault("camp", 1, 4);
        check.fault("camp \n", 1, 6);
        check.fault(HEAD + "bill of 0 worth 3", 1, h + 17);
    }

    /** In each place of a line another token can't stand, nor can the end; the tokens ahead of it can. */
    private static void faultInEach(String ahead, String... tokens) {
        String text = ahead;
        for (int i = 0; i < tokens.length; i++) {
            String[] others = {"camp", "mark", "after", "zzz", "5", ";", "?"};
            for (String other : others) {
                boolean number = Character.isDigit(tokens[i].charAt(0));
                boolean canStand = other.equals(tokens[i]) || number && other.equals("5")
                    || i == 0 && !ahead.isEmpty() && other.equals("mark")
                    || other.equals("after") && ahead.equals(HEAD) && tokens[0].equals("bill") && tokens[i].equals(";")
                    || other.equals(";") && tokens[i].equals("after");
                if (!canStand) {
                    check.fault(text + " " + other, 1, text.length() + 1);
                }
            }
            if (i > 0) {
                check.fault(text, 1, text.length());
            }
            text = text + " " + tokens[i];
        }
        check.due("camp() of " + text, Check.tell(new SacredHens(), text) > 0 ? 1 : 0, 1);
    }

    /** Terms I: AUGURS 0 .. 7, BILLS 0 .. 7. FAULT 3: a 9th augur, 9th bill, at its word. */
    private static void oneOfEachTooMany() {
        String augurs = HEAD + "augur of 1 from 0 to 1;".repeat(7);
        String bills = HEAD + "bill of 1 worth 1;".repeat(7);
        reads(augurs, 8);
        reads(bills, 8);
        augurs = augurs + "augur of 0 from 2 to 3;";
        bills = bills + "bill of 0 worth 44 after 6;";
        check.due("augur 7", reads(augurs, 9).augur(7, 1), 2);
        check.due("bill 7", reads(bills, 9).bill(7, 1), 44);
        check.fault(augurs + "\naugur of 0 from 2 to 3;", 3, augurs.length() + 1);
        check.fault(bills + "\nbill of 0 worth 44;", 3, bills.length() + 1);
        check.fault(augurs + "augur", 3, augurs.length());
        check.fault(bills + "bill of 9", 3, bills.length());
        String both = bills + augurs.substring(HEAD.length());
        reads(both + "mark 5;", 18);
        check.fault(both + "augur of 0 from 0 to 0;", 3, both.length());
        check.fault(both + "bill of 0 worth 0;", 3, both.length());
        check.fault(both + "mark 6;bill", 2, both.length() + 5);
    }

    /** 6, 7: what 0 .. 2; NONE where a BILL is after none; -2: there are none such. */
    private static void augursAndBillsAsTheyStand() {
        SacredHens x = reads(HEAD + "bill of 1 worth 99;augur of 1 from 0 to 5;bill of 0 worth 0 after 0;augur of 0 from 5 to 5;bill of 1 worth 3 after 0;", 6);
        int[][] augurs = {{1, 0, 5}, {0, 5, 5}};
        int[][] bills = {{1, 99, -1}, {0, 0, 0}, {1, 3, 0}};
        for (int what = 0; what < 3; what++) {
            for (int i = 0; i < 2; i++) {
                check.due("augur(" + i + ", " + what + ")", x.augur(i, what), augurs[i][what]);
            }
            for (int i = 0; i < 3; i++) {
                check.due("bill(" + i + ", " + what + ")", x.bill(i, what), bills[i][what]);
            }
            check.all("augur, none such", -2, x.augur(-1, what), x.augur(2, what), x.augur(8, what), x.augur(Integer.MAX_VALUE, what),
                x.augur(Integer.MIN_VALUE, what));
            check.all("bill, none such", -2, x.bill(-1, what), x.bill(3, what), x.bill(8, what), x.bill(Integer.MAX_VALUE, what),
                x.bill(Integer.MIN_VALUE, what));
        }
        check.all("no such what", -2, x.augur(0, -1), x.augur(0, 3), x.bill(0, -1), x.bill(0, 3));
        check.all("nor of one that is none", -2, x.augur(2, 3), x.bill(3, -1));
    }

    /** 8, 9, 10: as bits, from the first DAY to the last; none is 0; -2: no such SIDE, DAY. */
    private static void daysAsBits() {
        String head = "camp days 14 hunger 1 greed 3 odds 7;";
        SacredHens x = reads(head + "mark 0;mark 13;augur of 0 from 0 to 13;augur of 1 from 0 to 0;augur of 1 from 13 to 13;", 6);
        check.due("marks()", x.marks(), 1 | 1 << 13);
        check.due("sky(0)", x.sky(0), (1 << 14) - 1);
        check.due("sky(1)", x.sky(1), 1 | 1 << 13);
        check.due("watch(0)", x.watch(0), 3);
        check.due("watch(1)", x.watch(1), 1);
        check.due("watch(12)", x.watch(12), 1);
        check.due("watch(13)", x.watch(13), 5);
        check.all("none such", -2, x.watch(14), x.watch(-1), x.watch(Integer.MAX_VALUE), x.watch(Integer.MIN_VALUE), x.sky(-1), x.sky(2),
            x.sky(Integer.MAX_VALUE), x.sky(Integer.MIN_VALUE));
        SacredHens none = reads(head, 1);
        check.all("none", 0, none.marks(), none.sky(0), none.sky(1), none.watch(0), none.watch(13));
        check.due("all days marked", reads(HEAD + "mark 5;mark 4;mark 3;mark 2;mark 1;mark 0;", 7).marks(), 63);
        check.due("eight watch", reads(HEAD + "augur of 0 from 2 to 2;augur of 1 from 2 to 2;".repeat(4), 9).watch(2), 255);
    }

    /** 11, 12, Terms II: on DAY 0 as told; behind a DAY asked or fed 1; else 1 more. Hens EAT if it is greed at least. */
    private static void hungerAndEating() {
        SacredHens x = reads("camp days 14 hunger 9 greed 9 odds 5;bill of 0 worth 1;", 2);
        check.due("on day 0 as told", x.hunger(0), 9);
        check.due("1 more each day, beyond 9", x.hunger(13), 22);
        check.due("all days", x.eat(), (1 << 14) - 1);
        x.feeds(0);
        check.due("it stays as told on the day itself", x.hunger(0), 9);
        check.due("1 behind it", x.hunger(1), 1);
        check.due("greed less 1", x.hunger(8), 8);
        check.due("greed", x.hunger(9), 9);
        check.due("they eat by greed, not by less", x.eat(), 1 | 31 << 9);
        x.asks(0, 9);
        check.due("1 behind a day asked", x.hunger(10), 1);
        check.due("eat()", x.eat(), 1 | 1 << 9);
        x.feeds(10);
        check.due("1 again", x.hunger(11), 1);
        check.all("none such", -2, x.hunger(-1), x.hunger(14), x.hunger(Integer.MAX_VALUE), x.hunger(Integer.MIN_VALUE));
        SacredHens least = reads("camp days 14 hunger 0 greed 1 odds 5;", 1);
        check.due("hunger 0", least.hunger(0), 0);
        check.due("hunger 0 is below greed 1", least.eat(), (1 << 14) - 2);
        for (int hunger = 0; hunger <= 9; hunger++) {
            for (int greed = 1; greed <= 9; greed++) {
                SacredHens y = Check.camp("camp days 1 hunger " + hunger + " greed " + greed + " odds 5;");
                check.due("hunger " + hunger + ", greed " + greed, y.eat(), hunger >= greed ? 1 : 0);
            }
        }
    }

    /** 72: of each what, 0 without a CAMP; NONE for others. */
    private static void counts() {
        SacredHens x = reads("camp days 14 hunger 9 greed 8 odds 10;mark 1;mark 1;augur of 0 from 0 to 0;bill of 0 worth 0;bill of 0 worth 0;", 6);
        x.feeds(3);
        x.feed(0, 0, 0, 0, 0);
        for (int slot = 0; slot < 3; slot++) {
            x.row(slot, 0, slot);
        }
        x.row(2, 1, 5);
        int[] counts = {14, 9, 8, 10, 1, 2, 1, 6, 20, 3};
        for (int what = 0; what < counts.length; what++) {
            check.due("count(" + what + ")", x.count(what), counts[what]);
        }
        check.all("for others", -1, x.count(-1), x.count(10), x.count(Integer.MAX_VALUE), x.count(Integer.MIN_VALUE));
        x.row(3, 3, 60);
        check.due("all slots", x.count(9), 4);
        x.end(0);
        x.camp();
        for (int what = 0; what < 9; what++) {
            check.due("count(" + what + ") without a camp", x.count(what), 0);
        }
        check.due("slots that have a row", x.count(9), 4);
        check.all("for others, without a camp", -1, x.count(-1), x.count(10));
    }
}
