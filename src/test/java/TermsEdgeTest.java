/** The boundary cases that "Terms" names of days, styles, patterns, cells and how a cell is read. */
public final class TermsEdgeTest {
    private static final String TERMS = "Terms";
    private static final String FIRST_DAY = "DAYS: numbers, 0 is the 1st of January 1900, a Monday;";
    private static final String YEAR_OF_366 =
        "A year has 366 days if it can be divided by 4, but not by 100, or by 400.";
    private static final String PATTERN = "a PATTERN (1 to 24 bytes of 32 .. 126)";
    private static final String PARTS = "Parts of a PATTERN: D the day of the month, M the month, Y the year, "
        + "y its last two figures, N the month's word, W the weekday's word; a blank (32); all other bytes themselves.";
    private static final String ONCE_AT_MOST =
        "Each of D, M or N, Y or y, W stands once at most (not M and N, not Y and y);";
    private static final String STAND_ONCE = "M or N, and Y or y, stand once.";
    private static final String CELL = "A CELL (24 bytes of 32 .. 126 at most)";
    private static final String FIRST_TO_LAST =
        "is READ by a STYLE, if from its first byte to its last one the parts find, one behind the other:";
    private static final String DIGITS = "D, M: two digits if there are two, else one;";
    private static final String MONTH_WORD = "N: three letters: jan feb mar apr may jun jul aug sep oct nov dec;";
    private static final String WEEKDAY_WORD = "W: mon tue wed thu fri sat sun (each letter great or small);";
    private static final String BLANK = "a blank: one blank or more;";
    private static final String OTHERS = "others: themselves;";
    private static final String DAY_THERE_IS = "and it is a day there is (the year 1900 .. 2199),";
    private static final String WINDOW =
        "y: the year from WINDOW to WINDOW and 99 that ends so (1900 .. 2100; 1950 at first).";
    private static final String SPAN_OF_MONTH =
        "without D the first and last day of the month (W then wants the weekday of the first).";

    public static void main(String[] args) {
        Sentences.run(TermsEdgeTest.class);
    }

    // DAYS

    @Says(where = TERMS, sentence = FIRST_DAY, edge = "the lowest day, and the one ahead of it")
    static void lowestDay(Check c) {
        DayColumn x = new DayColumn();
        c.due("number of 1.1.1900", x.number(1, 1, 1900), 0);
        c.due("day of 0", x.part(0, 0), 1);
        c.due("month of 0", x.part(0, 1), 1);
        c.due("year of 0", x.part(0, 2), 1900);
        c.due("number of 31.12.1899", x.number(31, 12, 1899), -1);
        c.due("number of 30.12.1899", x.number(30, 12, 1899), -1);
        c.due("-1 is no day", Check.partThrows(x, -1, 0), true);
    }

    @Says(where = TERMS, sentence = FIRST_DAY, edge = "a Monday, and the week begins anew behind the Sunday")
    static void firstMonday(Check c) {
        DayColumn x = new DayColumn();
        c.due("weekday of 0", x.part(0, 3), 0);
        c.due("weekday of 6", x.part(6, 3), 6);
        c.due("weekday of 7", x.part(7, 3), 0);
        c.reads("W D/M/Y", "mon 1/1/1900", 1, 1, 1900);
        c.readsNot("W D/M/Y", "sun 1/1/1900");
    }

    @Says(where = TERMS, sentence = "up to the 31st of December 2199 (109,572).",
        edge = "the highest day, and the one behind it")
    static void highestDay(Check c) {
        DayColumn x = new DayColumn();
        c.due("number of 31.12.2199", x.number(31, 12, 2199), 109572);
        c.due("day of 109572", x.part(109572, 0), 31);
        c.due("month of 109572", x.part(109572, 1), 12);
        c.due("year of 109572", x.part(109572, 2), 2199);
        c.due("weekday of 109572", x.part(109572, 3), 1);
        c.due("number of 1.1.2200", x.number(1, 1, 2200), -1);
        c.due("109573 is no day", Check.partThrows(x, 109573, 0), true);
    }

    private static void yearHas(Check c, int year, int days) {
        DayColumn x = new DayColumn();
        int first = x.number(1, 1, year);
        c.due("days of " + year, x.number(31, 12, year) - first + 1, days);
        c.due("29.2." + year, x.number(29, 2, year), days == 366 ? first + 59 : -1);
        c.due("1.3." + year, x.number(1, 3, year), first + days - 306);
        c.due("month of that day", x.part(first + 59, 1), days == 366 ? 2 : 3);
        c.due("last day of the year", x.part(first + days - 1, 0), 31);
    }

    @Says(where = TERMS, sentence = YEAR_OF_366, edge = "divided by 4")
    static void yearsDividedByFour(Check c) {
        yearHas(c, 2004, 366);
        yearHas(c, 1904, 366);
        yearHas(c, 2196, 366);
        yearHas(c, 2003, 365);
        yearHas(c, 2002, 365);
        yearHas(c, 2005, 365);
    }

    @Says(where = TERMS, sentence = YEAR_OF_366, edge = "divided by 100")
    static void yearsDividedByHundred(Check c) {
        yearHas(c, 1900, 365);
        yearHas(c, 2100, 365);
    }

    @Says(where = TERMS, sentence = YEAR_OF_366, edge = "divided by 400")
    static void yearDividedByFourHundred(Check c) {
        yearHas(c, 2000, 366);
    }

    // STYLES

    @Says(where = TERMS, sentence = "STYLES (8 at most):", edge = "eight, and a ninth")
    static void eightStyles(Check c) {
        DayColumn x = new DayColumn();
        for (int i = 0; i < 8; i++) {
            c.due("style " + i, Check.style(x, "D/M/Y" + i, 0), i);
        }
        c.due("the ninth", Check.style(x, "D/M/Y8", 0), -1);
        c.due("STYLES", x.count(0), 8);
        Check.rows(x, "3/4/20017", "3/4/20018");
        c.due("the eighth reads", x.read(0, 7, 0), Check.number(3, 4, 2001));
        c.due("no ninth reads", x.readings(1), 0);
    }

    @Says(where = TERMS, sentence = PATTERN, edge = "0 bytes, few, 24")
    static void lengthsOfPatterns(Check c) {
        c.due("0 bytes", new DayColumn().style(0), -1);
        c.due("1 byte", Check.style(new DayColumn(), "M", 0), -1);
        c.due("2 bytes", Check.style(new DayColumn(), "MY", 0), 0);
        String longest = "M/Y456789012345678901234";
        DayColumn x = new DayColumn();
        c.due("24 bytes", Check.style(x, longest, 0), 0);
        c.due("all 24 are kept", Check.written(x, 0, 0), "1/1900456789012345678901234");
    }

    @Says(where = TERMS, sentence = PATTERN, edge = "the bytes 31, 32, 126 and 127")
    static void bytesOfPatterns(Check c) {
        for (int b : new int[] {1, 31, 127, 128, 255}) {
            c.due("byte " + b + " ahead", Check.style(new DayColumn(), (char) b + "M/Y", 0), -1);
            c.due("byte " + b + " at the end", Check.style(new DayColumn(), "M/Y" + (char) b, 0), -1);
        }
        for (int b : new int[] {32, 33, 125, 126}) {
            c.due("byte " + b + " ahead", Check.style(new DayColumn(), (char) b + "M/Y", 0), 0);
            c.due("byte " + b + " at the end", Check.style(new DayColumn(), "M/Y" + (char) b, 0), 0);
        }
    }

    @Says(where = TERMS, sentence = "and a COST (0 .. 1,000).", edge = "-1, 0, 1,000 and 1,001")
    static void costsOfStyles(Check c) {
        DayColumn x = new DayColumn();
        c.due("cost -1", Check.style(x, "M/Y", -1), -1);
        c.due("cost 1001", Check.style(x, "M/Y", 1001), -1);
        c.due("cost 1000", Check.style(x, "M/Y", 1000), 0);
        Check.row(x, "4/2001");
        c.due("1000 counts", x.cost(), 1000);
        c.due("cost 0", Check.style(x, "M/Y", 0), 1);
        c.due("0 counts", x.cost(), 0);
    }

    @Says(where = TERMS, sentence = PARTS, edge = "each part")
    static void partsOfPatterns(Check c) {
        c.reads("D-M-Y", "3-4-2001", 3, 4, 2001);
        c.reads("D-M-y", "3-4-01", 3, 4, 2001);
        c.reads("D-N-Y", "3-apr-2001", 3, 4, 2001);
        c.reads("W-D-M-Y", "tue-3-4-2001", 3, 4, 2001);
        c.reads("D M Y", "3 4 2001", 3, 4, 2001);
    }

    @Says(where = TERMS, sentence = PARTS, edge = "letters beside those of parts stand for themselves")
    static void lettersOfNoPart(Check c) {
        for (String letters : new String[] {"d", "m", "n", "w", "C", "E", "L", "O", "V", "X", "Z", "x", "z"}) {
            c.reads(letters + "D/M/Y", letters + "3/4/2001", 3, 4, 2001);
            c.readsNot(letters + "D/M/Y", "33/4/2001");
            c.readsNot(letters + "D/M/Y", "mon3/4/2001");
        }
    }

    private static void isPattern(Check c, String pattern, boolean want) {
        DayColumn x = new DayColumn();
        c.due("style of '" + pattern + "'", Check.style(x, pattern, 0), want ? 0 : -1);
        c.due("STYLES behind it", x.count(0), want ? 1 : 0);
    }

    @Says(where = TERMS, sentence = ONCE_AT_MOST, edge = "D twice")
    static void dayTwice(Check c) {
        isPattern(c, "D/D/M/Y", false);
        isPattern(c, "D/M/Y", true);
    }

    @Says(where = TERMS, sentence = ONCE_AT_MOST, edge = "M twice, N twice, M and N")
    static void monthTwice(Check c) {
        isPattern(c, "D/M/M/Y", false);
        isPattern(c, "D/N/N/Y", false);
        isPattern(c, "D/M/N/Y", false);
        isPattern(c, "D/N/M/Y", false);
        isPattern(c, "D/N/Y", true);
    }

    @Says(where = TERMS, sentence = ONCE_AT_MOST, edge = "Y twice, y twice, Y and y")
    static void yearTwice(Check c) {
        isPattern(c, "D/M/Y/Y", false);
        isPattern(c, "D/M/y/y", false);
        isPattern(c, "D/M/Y/y", false);
        isPattern(c, "D/M/y/Y", false);
        isPattern(c, "D/M/y", true);
    }

    @Says(where = TERMS, sentence = ONCE_AT_MOST, edge = "W twice")
    static void weekdayTwice(Check c) {
        isPattern(c, "W D/M/Y W", false);
        isPattern(c, "W D/M/Y", true);
    }

    @Says(where = TERMS, sentence = STAND_ONCE, edge = "no month")
    static void noMonth(Check c) {
        isPattern(c, "Y", false);
        isPattern(c, "W D/m/Y", false);
        isPattern(c, "D/n/y", false);
    }

    @Says(where = TERMS, sentence = STAND_ONCE, edge = "no year")
    static void noYear(Check c) {
        isPattern(c, "M", false);
        isPattern(c, "W D/M", false);
        isPattern(c, "D N", false);
    }

    @Says(where = TERMS, sentence = STAND_ONCE, edge = "neither D nor W")
    static void monthAndYearAlone(Check c) {
        isPattern(c, "MY", true);
        isPattern(c, "My", true);
        isPattern(c, "yN", true);
        isPattern(c, "YN", true);
    }

    // CELLS

    @Says(where = TERMS, sentence = CELL, edge = "0 bytes, 24, a 25th")
    static void lengthsOfCells(Check c) {
        DayColumn x = Check.styles("M/Y789012345678901234");
        c.due("0 bytes", Check.row(x, ""), 0);
        Check.put(x, "4/2001789012345678901234");
        c.due("a 25th byte", x.feed(0, '5'), -1);
        c.due("24 bytes", x.row(), 1);
        c.due("23 bytes", Check.row(x, "4/200178901234567890123"), 2);
        c.due("an empty one is not read", x.read(0, 0, 0), -1);
        c.due("all 24 are read", x.read(1, 0, 0), Check.number(1, 4, 2001));
        c.due("23 are too few", x.read(2, 0, 0), -1);
    }

    @Says(where = TERMS, sentence = CELL, edge = "the bytes 31, 32, 126 and 127")
    static void bytesOfCells(Check c) {
        for (int b : new int[] {1, 31, 127, 128, 255}) {
            c.due("byte " + b, Check.row(new DayColumn(), "3/4/2001" + (char) b), -1);
        }
        for (int b : new int[] {32, 33, 125, 126}) {
            c.due("byte " + b, Check.row(new DayColumn(), "3/4/2001" + (char) b), 0);
        }
        c.reads("~D/M/Y~", "~3/4/2001~", 3, 4, 2001);
    }

    @Says(where = TERMS, sentence = FIRST_TO_LAST, edge = "bytes ahead of the first part")
    static void bytesAhead(Check c) {
        c.reads("D/M/Y", "3/4/2001", 3, 4, 2001);
        c.readsNot("D/M/Y", " 3/4/2001");
        c.readsNot("D/M/Y", "x3/4/2001");
        c.readsNot("D/M/Y", "/3/4/2001");
    }

    @Says(where = TERMS, sentence = FIRST_TO_LAST, edge = "bytes behind the last part")
    static void bytesBehind(Check c) {
        c.readsNot("D/M/Y", "3/4/2001 ");
        c.readsNot("D/M/Y", "3/4/2001x");
        c.readsNot("D/M/Y", "3/4/20010");
        c.readsNot("D/M/Y", "3/4/2001/");
    }

    @Says(where = TERMS, sentence = FIRST_TO_LAST, edge = "a cell that ends ahead of the last part, an empty one")
    static void cellEndsEarly(Check c) {
        String cell = "tue 3 apr 2001!";
        DayColumn x = Check.rows(Check.styles("W D N Y!"), cell);
        for (int length = 0; length < cell.length(); length++) {
            int row = Check.row(x, cell.substring(0, length));
            c.due(length + " bytes, behind a row that has all", x.read(row, 0, 0), -1);
        }
        c.due("the row that has all", x.read(0, 0, 0), Check.number(3, 4, 2001));
    }

    @Says(where = TERMS, sentence = FIRST_TO_LAST, edge = "a part that wants bytes behind the 24th")
    static void cellEndsFull(Check c) {
        String[] ends = {"M-Y", "Y-M", "Y-N", "M-y", "M-Y W", "M-Y ", "M-Y.."};
        for (String end : ends) {
            DayColumn ruler = Check.styles(end);
            String written = Check.written(ruler, Check.number(1, 4, 2001), 0);
            for (int length = 0; length <= written.length(); length++) {
                String ahead = "-".repeat(Math.min(24 - length, 24 - end.length()));
                DayColumn x = Check.rows(Check.styles(ahead + end), ahead + written.substring(0, length));
                c.due("'" + end + "', its first " + length + " bytes, the last ones of the cell",
                    x.read(0, 0, 0) != -1, length == written.length());
            }
        }
    }

    @Says(where = TERMS, sentence = DIGITS, edge = "no digit")
    static void noDigit(Check c) {
        c.readsNot("D/M/Y", "/4/2001");
        c.readsNot("D/M/Y", "3//2001");
        c.readsNot("D/M/Y", "x/4/2001");
        c.readsNot("D/M/Y", "3/:/2001");
        c.readsNot("D/M/Y", "3/ 4/2001");
    }

    @Says(where = TERMS, sentence = DIGITS, edge = "one digit")
    static void oneDigit(Check c) {
        c.reads("D/M/Y", "1/1/2001", 1, 1, 2001);
        c.reads("D/M/Y", "9/9/2001", 9, 9, 2001);
        DayColumn x = Check.rows(Check.styles("Y/M/D"), "2001/4/31", "2001/4/3");
        c.due("at the end, behind a row that has a digit more", x.read(1, 0, 0), Check.number(3, 4, 2001));
    }

    @Says(where = TERMS, sentence = DIGITS, edge = "two digits, and a 0 ahead")
    static void twoDigits(Check c) {
        c.reads("D/M/Y", "10/10/2001", 10, 10, 2001);
        c.reads("D/M/Y", "03/04/2001", 3, 4, 2001);
        c.reads("Y/M/D", "2001/12/31", 31, 12, 2001);
    }

    @Says(where = TERMS, sentence = DIGITS, edge = "two are taken even where one would let the rest be found")
    static void twoDigitsAlways(Check c) {
        c.readsNot("D1/M/Y", "31/4/2001");
        c.reads("D1/M/Y", "031/4/2001", 3, 4, 2001);
        c.reads("YMD", "2001111", 1, 11, 2001);
        c.readsNot("YMD", "200111");
        c.readsNot("DM/Y", "41/2001");
    }

    @Says(where = TERMS, sentence = DIGITS, edge = "three digits")
    static void threeDigits(Check c) {
        c.readsNot("D/M/Y", "003/4/2001");
        c.readsNot("D/M/Y", "3/004/2001");
        c.readsNot("D/M/Y", "123/4/2001");
    }

    @Says(where = TERMS, sentence = "Y: four digits;", edge = "three, four, five")
    static void digitsOfYear(Check c) {
        c.readsNot("D/M/Y", "3/4/201");
        c.readsNot("D/M/Y", "3/4/01");
        c.readsNot("D/M/Y", "3/4/");
        c.reads("D/M/Y", "3/4/2001", 3, 4, 2001);
        c.readsNot("D/M/Y", "3/4/02001");
        c.readsNot("D/M/Y", "3/4/20011");
        c.readsNot("D/M/Y", "3/4/200x");
        c.readsNot("D/M/Y", "3/4/200/");
        c.readsNot("D/M/Y", "3/4/200:");
        c.readsNot("Y/M/D", "x001/4/3");
    }

    @Says(where = TERMS, sentence = "y: two;", edge = "one, two, three, four")
    static void digitsOfShortYear(Check c) {
        c.readsNot("D/M/y", "3/4/1");
        c.reads("D/M/y", "3/4/01", 3, 4, 2001);
        c.readsNot("D/M/y", "3/4/001");
        c.readsNot("D/M/y", "3/4/2001");
        c.readsNot("D/M/y", "3/4/0x");
        c.readsNot("D/M/y", "3/4/");
    }

    private static final String[] MONTHS =
        {"jan", "feb", "mar", "apr", "may", "jun", "jul", "aug", "sep", "oct", "nov", "dec"};
    private static final String[] WEEK = {"mon", "tue", "wed", "thu", "fri", "sat", "sun"};

    @Says(where = TERMS, sentence = MONTH_WORD, edge = "each word, the first and the last")
    static void monthWords(Check c) {
        for (int m = 1; m <= 12; m++) {
            c.reads("D N Y", "3 " + MONTHS[m - 1] + " 2001", 3, m, 2001);
        }
    }

    @Says(where = TERMS, sentence = MONTH_WORD, edge = "fewer letters, more letters, no such word")
    static void noMonthWord(Check c) {
        c.readsNot("D N Y", "3 ap 2001");
        c.readsNot("D N Y", "3 apri 2001");
        c.readsNot("D N Y", "3  2001");
        c.readsNot("D N Y", "3 anf 2001");
        c.readsNot("D N Y", "3 tue 2001");
        c.readsNot("D N Y", "3 4 2001");
        c.readsNot("D N Y", "3 ja! 2001");
        c.readsNot("D/Y/N", "3/2001/ap");
    }

    @Says(where = TERMS, sentence = WEEKDAY_WORD, edge = "each word, the first and the last")
    static void weekdayWords(Check c) {
        for (int w = 0; w < 7; w++) {
            c.reads("W D/M/Y", WEEK[w] + " " + (w + 2) + "/4/2001", w + 2, 4, 2001);
        }
    }

    @Says(where = TERMS, sentence = WEEKDAY_WORD, edge = "fewer letters, more letters, no such word")
    static void noWeekdayWord(Check c) {
        c.readsNot("W D/M/Y", "tu 3/4/2001");
        c.readsNot("W D/M/Y", "tues 3/4/2001");
        c.readsNot("W D/M/Y", " 3/4/2001");
        c.readsNot("W D/M/Y", "uew 3/4/2001");
        c.readsNot("W D/M/Y", "apr 3/4/2001");
        c.readsNot("D/M/Y W", "3/4/2001 tu");
    }

    @Says(where = TERMS, sentence = "(each letter great or small)", edge = "A to Z, and the bytes beside them")
    static void greatLetters(Check c) {
        for (int m = 1; m <= 12; m++) {
            c.reads("D N Y", "3 " + MONTHS[m - 1].toUpperCase() + " 2001", 3, m, 2001);
        }
        for (int w = 0; w < 7; w++) {
            c.reads("W D/M/Y", WEEK[w].toUpperCase() + " " + (w + 2) + "/4/2001", w + 2, 4, 2001);
        }
        c.reads("W D N Y", "tUe 3 ApR 2001", 3, 4, 2001);
        c.reads("W D N Y", "TuE 3 aPr 2001", 3, 4, 2001);
        c.readsNot("D N Y", "3 @pr 2001");
        c.readsNot("D N Y", "3 `pr 2001");
        c.readsNot("D N Y", "3 !pr 2001");
    }

    @Says(where = TERMS, sentence = BLANK, edge = "no blank")
    static void noBlank(Check c) {
        c.readsNot("D M Y", "3 42001");
        c.readsNot("D N Y", "3apr 2001");
        c.readsNot("D N Y", "3_apr 2001");
        c.readsNot(" D/M/Y", "3/4/2001");
        c.readsNot("D/M/Y ", "3/4/2001");
    }

    @Says(where = TERMS, sentence = BLANK, edge = "one, two, as many as a cell holds")
    static void manyBlanks(Check c) {
        c.reads("D N Y", "3 apr 2001", 3, 4, 2001);
        c.reads("D N Y", "3  apr   2001", 3, 4, 2001);
        c.reads("D M Y", "3 4" + " ".repeat(17) + "2001", 3, 4, 2001);
        c.reads(" D/M/Y ", " ".repeat(15) + "3/4/2001 ", 3, 4, 2001);
        c.reads("D/M/Y ", "3/4/2001" + " ".repeat(16), 3, 4, 2001);
        c.readsNot("D M Y", " ".repeat(24));
    }

    @Says(where = TERMS, sentence = OTHERS, edge = "another byte, none, twice")
    static void otherBytes(Check c) {
        c.reads("D/M/Y", "3/4/2001", 3, 4, 2001);
        c.readsNot("D/M/Y", "3-4/2001");
        c.readsNot("D/M/Y", "34/2001");
        c.readsNot("D/M/Y", "3//4/2001");
        c.readsNot("D/M/Y", "3 /4/2001");
        c.reads("D, M; Y!", "3, 4; 2001!", 3, 4, 2001);
    }

    @Says(where = TERMS, sentence = OTHERS, edge = "a letter great where the pattern's is small")
    static void otherLetters(Check c) {
        c.reads("d:D/M/Y", "d:3/4/2001", 3, 4, 2001);
        c.readsNot("d:D/M/Y", "D:3/4/2001");
        c.reads("ZD/M/Y", "Z3/4/2001", 3, 4, 2001);
        c.readsNot("ZD/M/Y", "z3/4/2001");
    }

    @Says(where = TERMS, sentence = OTHERS, edge = "a digit of the pattern")
    static void otherDigits(Check c) {
        c.reads("20y/M/D", "2001/4/3", 3, 4, 2001);
        c.readsNot("20y/M/D", "1901/4/3");
        c.readsNot("20y/M/D", "1001/4/3");
        c.readsNot("20y/M/D", "2101/4/3");
    }

    @Says(where = TERMS, sentence = DAY_THERE_IS, edge = "the years 1899, 1900, 2199 and 2200")
    static void yearsThereAre(Check c) {
        c.readsNot("D/M/Y", "31/12/1899");
        c.readsNot("D/M/Y", "30/12/1899");
        c.reads("D/M/Y", "1/1/1900", 1, 1, 1900);
        c.reads("D/M/Y", "31/12/2199", 31, 12, 2199);
        c.readsNot("D/M/Y", "1/1/2200");
        c.readsNot("D/M/Y", "1/1/0000");
        c.readsNot("D/M/Y", "1/1/9999");
        c.readsNot("M/Y", "12/1899");
        c.readsMonth("M/Y", "1/1900", 1, 1900, 31);
        c.readsMonth("M/Y", "12/2199", 12, 2199, 31);
        c.readsNot("M/Y", "1/2200");
    }

    @Says(where = TERMS, sentence = DAY_THERE_IS, edge = "the months 0, 1, 12 and 13")
    static void monthsThereAre(Check c) {
        c.readsNot("D/M/Y", "3/0/2001");
        c.readsNot("D/M/Y", "3/00/2001");
        c.reads("D/M/Y", "3/1/2001", 3, 1, 2001);
        c.reads("D/M/Y", "3/12/2001", 3, 12, 2001);
        c.readsNot("D/M/Y", "3/13/2001");
        c.readsNot("D/M/Y", "3/99/2001");
        c.readsNot("M/Y", "0/2001");
        c.readsNot("M/Y", "13/2001");
    }

    @Says(where = TERMS, sentence = DAY_THERE_IS, edge = "the day 0, each month's last, the one behind it")
    static void daysThereAre(Check c) {
        int[] lengths = {31, 28, 31, 30, 31, 30, 31, 31, 30, 31, 30, 31};
        for (int m = 1; m <= 12; m++) {
            c.readsNot("D/M/Y", "0/" + m + "/2001");
            c.readsNot("D/M/Y", "00/" + m + "/2001");
            c.reads("D/M/Y", lengths[m - 1] + "/" + m + "/2001", lengths[m - 1], m, 2001);
            c.readsNot("D/M/Y", (lengths[m - 1] + 1) + "/" + m + "/2001");
        }
        c.readsNot("D/M/Y", "99/1/2001");
    }

    @Says(where = TERMS, sentence = DAY_THERE_IS, edge = "the 29th of February")
    static void daysOfFebruary(Check c) {
        c.reads("D/M/Y", "29/2/2000", 29, 2, 2000);
        c.reads("D/M/Y", "29/2/2004", 29, 2, 2004);
        c.readsNot("D/M/Y", "29/2/1900");
        c.readsNot("D/M/Y", "29/2/2001");
        c.readsNot("D/M/Y", "29/2/2100");
        c.readsNot("D/M/Y", "30/2/2000");
    }

    @Says(where = TERMS, sentence = "on that weekday.", edge = "the weekday ahead, that one, the one behind")
    static void onThatWeekday(Check c) {
        c.readsNot("W D/M/Y", "mon 3/4/2001");
        c.reads("W D/M/Y", "tue 3/4/2001", 3, 4, 2001);
        c.readsNot("W D/M/Y", "wed 3/4/2001");
        c.readsNot("D/M/Y W", "8/4/2001 mon");
        c.reads("D/M/Y W", "8/4/2001 sun", 8, 4, 2001);
    }

    // WINDOW and SPAN

    private static void shortYear(Check c, int window, int figures, int year) {
        DayColumn x = Check.styles("D/M/y");
        x.window(window);
        Check.row(x, "3/4/" + figures / 10 + figures % 10);
        c.due(figures + " from " + window, x.read(0, 0, 0), Check.number(3, 4, year));
    }

    @Says(where = TERMS, sentence = WINDOW, edge = "the first and the last year of a window, around the hundred")
    static void endsOfWindow(Check c) {
        shortYear(c, 1950, 50, 1950);
        shortYear(c, 1950, 49, 2049);
        shortYear(c, 1950, 99, 1999);
        shortYear(c, 1950, 0, 2000);
        shortYear(c, 1999, 99, 1999);
        shortYear(c, 1999, 0, 2000);
        shortYear(c, 1999, 98, 2098);
        shortYear(c, 2000, 0, 2000);
        shortYear(c, 2000, 99, 2099);
        shortYear(c, 2001, 0, 2100);
        shortYear(c, 2001, 1, 2001);
    }

    @Says(where = TERMS, sentence = WINDOW, edge = "the lowest window, 1899")
    static void lowestWindow(Check c) {
        c.due("1899", new DayColumn().window(1899), false);
        c.due("1900", new DayColumn().window(1900), true);
        shortYear(c, 1900, 0, 1900);
        shortYear(c, 1900, 99, 1999);
    }

    @Says(where = TERMS, sentence = WINDOW, edge = "the highest window, 2101")
    static void highestWindow(Check c) {
        c.due("2101", new DayColumn().window(2101), false);
        c.due("2100", new DayColumn().window(2100), true);
        shortYear(c, 2100, 0, 2100);
        shortYear(c, 2100, 99, 2199);
    }

    @Says(where = TERMS, sentence = WINDOW, edge = "1950 at first")
    static void windowAtFirst(Check c) {
        c.due("WINDOW", new DayColumn().count(3), 1950);
        c.reads("D/M/y", "3/4/50", 3, 4, 1950);
        c.reads("D/M/y", "3/4/49", 3, 4, 2049);
    }

    @Says(where = TERMS, sentence = WINDOW, edge = "whether there is the day, and its weekday, go by the window's year")
    static void dayThereIsByWindow(Check c) {
        DayColumn x = Check.rows(Check.styles("D/M/y", "W D/M/y"), "29/2/00", "tue 3/4/01");
        c.due("29.2.2000", x.read(0, 0, 0), Check.number(29, 2, 2000));
        c.due("3.4.2001 is a Tuesday", x.read(1, 1, 0), Check.number(3, 4, 2001));
        x.window(1900);
        c.due("29.2.1900", x.read(0, 0, 0), -1);
        c.due("3.4.1901 is none", x.read(1, 1, 0), -1);
        x.window(2100);
        c.due("29.2.2100", x.read(0, 0, 0), -1);
    }

    @Says(where = TERMS, sentence = "It says a SPAN: of D that day twice,", edge = "a month's first and last day")
    static void spanOfDay(Check c) {
        c.reads("D/M/Y", "1/4/2001", 1, 4, 2001);
        c.reads("D/M/Y", "30/4/2001", 30, 4, 2001);
        c.reads("W D/M/Y", "tue 3/4/2001", 3, 4, 2001);
    }

    @Says(where = TERMS, sentence = SPAN_OF_MONTH, edge = "months of 28, 29, 30 and 31 days, the first and the last")
    static void spanOfMonth(Check c) {
        c.readsMonth("M/Y", "2/2001", 2, 2001, 28);
        c.readsMonth("M/Y", "2/2000", 2, 2000, 29);
        c.readsMonth("M/Y", "2/2100", 2, 2100, 28);
        c.readsMonth("N Y", "apr 2001", 4, 2001, 30);
        c.readsMonth("M/y", "12/01", 12, 2001, 31);
        c.readsMonth("M/Y", "1/1900", 1, 1900, 31);
        c.readsMonth("M/Y", "12/2199", 12, 2199, 31);
    }

    @Says(where = TERMS, sentence = SPAN_OF_MONTH, edge = "the weekday of the first, of the second, of the last")
    static void weekdayOfMonth(Check c) {
        c.readsMonth("W N Y", "sun apr 2001", 4, 2001, 30);
        c.readsNot("W N Y", "mon apr 2001");
        c.readsNot("W N Y", "sat apr 2001");
        c.readsMonth("W M/Y", "mon 1/1900", 1, 1900, 31);
        c.readsNot("W M/Y", "wed 1/1900");
    }
}
