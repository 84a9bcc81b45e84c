/** The boundary cases that promises 18 to 20 name: the parts of a day, its number, a day written. */
public final class DayEdgeTest {
    private static final String PART = "Day, month, year, weekday (0: mon) of a day: what 0 .. 3.";
    private static final String PART_THROWS = "NoSuchElementException: no such day, what.";
    private static final String NUMBER = "The number of a day.";
    private static final String NUMBER_NONE = "NONE: there is none such.";
    private static final String WRITE =
        "A day written by a STYLE (D, M without a 0 ahead, words small, one blank): byte i of it.";
    private static final String WRITE_NONE = "NONE without, no such STYLE, day.";

    private static final int LOW = Integer.MIN_VALUE;
    private static final int HIGH = Integer.MAX_VALUE;

    public static void main(String[] args) {
        Sentences.run(DayEdgeTest.class);
    }

    // 18: part

    private static void parts(Check c, int number, int day, int month, int year, int weekday) {
        DayColumn x = new DayColumn();
        c.due("day of " + number, x.part(number, 0), day);
        c.due("month of " + number, x.part(number, 1), month);
        c.due("year of " + number, x.part(number, 2), year);
        c.due("weekday of " + number, x.part(number, 3), weekday);
    }

    @Says(where = "Promise 18", sentence = PART, edge = "the lowest and the highest day")
    static void partOfOutermostDays(Check c) {
        parts(c, 0, 1, 1, 1900, 0);
        parts(c, 109572, 31, 12, 2199, 1);
    }

    @Says(where = "Promise 18", sentence = PART, edge = "the last day of a year, the first of the next")
    static void partAroundYears(Check c) {
        parts(c, 364, 31, 12, 1900, 0);
        parts(c, 365, 1, 1, 1901, 1);
        parts(c, Check.number(31, 12, 2000), 31, 12, 2000, 6);
        parts(c, Check.number(1, 1, 2001), 1, 1, 2001, 0);
        parts(c, Check.number(31, 12, 2099), 31, 12, 2099, 3);
        parts(c, Check.number(1, 1, 2100), 1, 1, 2100, 4);
    }

    @Says(where = "Promise 18", sentence = PART, edge = "the end of February, with and without a 29th")
    static void partAroundFebruary(Check c) {
        parts(c, 58, 28, 2, 1900, 2);
        parts(c, 59, 1, 3, 1900, 3);
        parts(c, Check.number(29, 2, 2000), 29, 2, 2000, 1);
        parts(c, Check.number(29, 2, 2000) + 1, 1, 3, 2000, 2);
        parts(c, Check.number(28, 2, 2100) + 1, 1, 3, 2100, 0);
    }

    @Says(where = "Promise 18", sentence = PART, edge = "each month's last day, the first of the next")
    static void partAroundMonths(Check c) {
        int[] lengths = {31, 28, 31, 30, 31, 30, 31, 31, 30, 31, 30, 31};
        int first = Check.number(1, 1, 2001);
        for (int m = 1; m <= 12; m++) {
            parts(c, first, 1, m, 2001, first % 7);
            int last = first + lengths[m - 1] - 1;
            parts(c, last, lengths[m - 1], m, 2001, last % 7);
            first = last + 1;
        }
    }

    @Says(where = "Promise 18", sentence = PART, edge = "a Sunday, and the Monday behind it")
    static void partAroundWeeks(Check c) {
        parts(c, 6, 7, 1, 1900, 6);
        parts(c, 7, 8, 1, 1900, 0);
        parts(c, Check.number(8, 4, 2001), 8, 4, 2001, 6);
        parts(c, Check.number(9, 4, 2001), 9, 4, 2001, 0);
    }

    @Says(where = "Promise 18", sentence = PART_THROWS, edge = "no such day: -1 and 109,573")
    static void partOfNoSuchDay(Check c) {
        DayColumn x = new DayColumn();
        for (int day : new int[] {-1, 109573, LOW, HIGH}) {
            for (int what = 0; what <= 3; what++) {
                c.due("part(" + day + ", " + what + ") throws", Check.partThrows(x, day, what), true);
            }
        }
        c.due("part(0, 0) throws", Check.partThrows(x, 0, 0), false);
        c.due("part(109572, 3) throws", Check.partThrows(x, 109572, 3), false);
    }

    @Says(where = "Promise 18", sentence = PART_THROWS, edge = "what: -1 and 4")
    static void partOfNoSuchWhat(Check c) {
        DayColumn x = new DayColumn();
        for (int what : new int[] {-1, 4, LOW, HIGH}) {
            c.due("part(0, " + what + ") throws", Check.partThrows(x, 0, what), true);
            c.due("part(109572, " + what + ") throws", Check.partThrows(x, 109572, what), true);
            c.due("part(-1, " + what + ") throws", Check.partThrows(x, -1, what), true);
        }
    }

    // 19: number

    private static void number(Check c, int day, int month, int year, int want) {
        c.due("number(" + day + ", " + month + ", " + year + ")", new DayColumn().number(day, month, year), want);
    }

    @Says(where = "Promise 19", sentence = NUMBER, edge = "the lowest and the highest day")
    static void numberOfOutermostDays(Check c) {
        number(c, 1, 1, 1900, 0);
        number(c, 31, 12, 2199, 109572);
    }

    @Says(where = "Promise 19", sentence = NUMBER, edge = "the ends of years and of February")
    static void numberAroundEnds(Check c) {
        number(c, 31, 12, 1900, 364);
        number(c, 1, 1, 1901, 365);
        number(c, 28, 2, 1900, 58);
        number(c, 1, 3, 1900, 59);
        number(c, 29, 2, 2000, 36583);
        number(c, 1, 3, 2000, 36584);
        number(c, 1, 3, 2100, 73108);
        number(c, 28, 2, 2100, 73107);
    }

    @Says(where = "Promise 19", sentence = NUMBER_NONE, edge = "the days 0 and each month's last and 1")
    static void numberOfNoSuchDay(Check c) {
        int[] lengths = {31, 28, 31, 30, 31, 30, 31, 31, 30, 31, 30, 31};
        for (int m = 1; m <= 12; m++) {
            number(c, 0, m, 2001, -1);
            number(c, lengths[m - 1], m, 2001, Check.number(lengths[m - 1], m, 2001));
            number(c, lengths[m - 1] + 1, m, 2001, -1);
        }
        number(c, -1, 1, 2001, -1);
        number(c, LOW, 1, 2001, -1);
        number(c, HIGH, 1, 2001, -1);
    }

    @Says(where = "Promise 19", sentence = NUMBER_NONE, edge = "the 29th of February of other years, a 30th")
    static void numberOfNoSuchFebruary(Check c) {
        number(c, 29, 2, 1900, -1);
        number(c, 29, 2, 2001, -1);
        number(c, 29, 2, 2100, -1);
        number(c, 30, 2, 2000, -1);
    }

    @Says(where = "Promise 19", sentence = NUMBER_NONE, edge = "the months 0 and 13")
    static void numberOfNoSuchMonth(Check c) {
        for (int month : new int[] {0, 13, -1, LOW, HIGH}) {
            number(c, 1, month, 2001, -1);
        }
    }

    @Says(where = "Promise 19", sentence = NUMBER_NONE, edge = "the years 1899 and 2200")
    static void numberOfNoSuchYear(Check c) {
        number(c, 31, 12, 1899, -1);
        number(c, 1, 1, 2200, -1);
        for (int year : new int[] {1899, 2200, 0, 1, 99, -2001, LOW, HIGH}) {
            number(c, 1, 1, year, -1);
        }
    }

    // 20: write

    private static void written(Check c, String pattern, int day, int month, int year, String want) {
        String got = Check.written(Check.styles(pattern), Check.number(day, month, year), 0);
        c.due("by '" + pattern + "'", got, want);
    }

    @Says(where = "Promise 20", sentence = WRITE, edge = "D and M from 9 to 10, 1, 31 and 12")
    static void writeDigits(Check c) {
        written(c, "D/M/Y", 1, 1, 2001, "1/1/2001");
        written(c, "D/M/Y", 9, 9, 2001, "9/9/2001");
        written(c, "D/M/Y", 10, 10, 2001, "10/10/2001");
        written(c, "D/M/Y", 31, 12, 2001, "31/12/2001");
    }

    @Says(where = "Promise 20", sentence = WRITE, edge = "Y and y of the lowest and the highest year, a 0 ahead of y")
    static void writeYears(Check c) {
        written(c, "Y/M/D", 1, 1, 1900, "1900/1/1");
        written(c, "Y/M/D", 31, 12, 2199, "2199/12/31");
        written(c, "y/M/D", 1, 1, 1900, "00/1/1");
        written(c, "y/M/D", 1, 1, 2009, "09/1/1");
        written(c, "y/M/D", 1, 1, 2010, "10/1/1");
        written(c, "y/M/D", 31, 12, 1999, "99/12/31");
    }

    @Says(where = "Promise 20", sentence = WRITE, edge = "words small, the first and the last of each")
    static void writeWords(Check c) {
        String[] months = {"jan", "feb", "mar", "apr", "may", "jun", "jul", "aug", "sep", "oct", "nov", "dec"};
        for (int m = 1; m <= 12; m++) {
            written(c, "N Y", 1, m, 2001, months[m - 1] + " 2001");
        }
        String[] week = {"mon", "tue", "wed", "thu", "fri", "sat", "sun"};
        for (int w = 0; w < 7; w++) {
            written(c, "W D/M/Y", w + 2, 4, 2001, week[w] + " " + (w + 2) + "/4/2001");
        }
    }

    @Says(where = "Promise 20", sentence = WRITE, edge = "one blank for a blank, ahead and at the end too")
    static void writeBlanks(Check c) {
        written(c, " D M Y ", 3, 4, 2001, " 3 4 2001 ");
    }

    @Says(where = "Promise 20", sentence = WRITE, edge = "a pattern of 24 bytes that is longest when it is written")
    static void writeLongest(Check c) {
        written(c, "WDNY56789012345678901234", 31, 12, 1999, "fri31dec199956789012345678901234");
        written(c, "W~D~N~Y~!~!~!~!~!~!~!~!~", 31, 12, 1999, "fri~31~dec~1999~!~!~!~!~!~!~!~!~");
    }

    @Says(where = "Promise 20", sentence = WRITE, edge = "byte 0 and the last one")
    static void writeOutermostBytes(Check c) {
        DayColumn x = Check.styles("D/M/Y");
        int day = Check.number(3, 4, 2001);
        c.due("byte 0", x.write(day, 0, 0), '3');
        c.due("byte 7", x.write(day, 0, 7), '1');
    }

    @Says(where = "Promise 20", sentence = WRITE, edge = "the last of eight styles, with no row at all")
    static void writeByLastStyle(Check c) {
        DayColumn x = Check.styles("MY", "MY", "MY", "MY", "MY", "MY", "MY", "D.M.Y");
        c.due("style 7", Check.written(x, Check.number(3, 4, 2001), 7), "3.4.2001");
        c.due("style 0", Check.written(x, Check.number(3, 4, 2001), 0), "42001");
    }

    @Says(where = "Promise 20", sentence = WRITE_NONE, edge = "without: i is -1, or behind the last byte")
    static void writeNoSuchByte(Check c) {
        DayColumn x = Check.styles("D/M/Y");
        int day = Check.number(24, 12, 2001);
        c.due("a long one ahead", x.write(day, 0, 9), '1');
        for (int i : new int[] {-1, 8, 9, 24, 32, LOW, HIGH}) {
            c.due("byte " + i, x.write(Check.number(3, 4, 2001), 0, i), -1);
        }
        DayColumn full = Check.styles("WDNY56789012345678901234");
        c.due("the last of the longest", full.write(Check.number(31, 12, 1999), 0, 31), '4');
        c.due("behind the longest", full.write(Check.number(31, 12, 1999), 0, 32), -1);
    }

    @Says(where = "Promise 20", sentence = WRITE_NONE, edge = "no such style: -1, behind the last, none at all")
    static void writeNoSuchStyle(Check c) {
        DayColumn x = Check.styles("D/M/Y", "M/D/Y");
        for (int style : new int[] {-1, 2, 7, 8, LOW, HIGH}) {
            c.due("style " + style, x.write(0, style, 0), -1);
        }
        c.due("the last there is", x.write(0, 1, 0), '1');
        c.due("no styles", new DayColumn().write(0, 0, 0), -1);
    }

    @Says(where = "Promise 20", sentence = WRITE_NONE, edge = "no such day: -1 and 109,573")
    static void writeNoSuchDay(Check c) {
        DayColumn x = Check.styles("D/M/Y");
        for (int day : new int[] {-1, 109573, LOW, HIGH}) {
            c.due("day " + day, x.write(day, 0, 0), -1);
        }
        c.due("the lowest", Check.written(x, 0, 0), "1/1/1900");
        c.due("the highest", Check.written(x, 109572, 0), "31/12/2199");
    }
}
