/** The boundary cases that promises 9 to 17 and 21 name: what a row says, and what the best way says. */
public final class BestEdgeTest {
    private static final String READ =
        "What a ROW says by a STYLE: what 0 the first, 1 the last day of its SPAN.";
    private static final String READ_NONE = "NONE: it is not READ, no such ones, what.";
    private static final String READINGS = "How many unlike SPANS all STYLES say of a ROW.";
    private static final String COST = "What BEST costs.";
    private static final String NO_STYLES_OR_ROWS = "NONE: no STYLES or no ROWS.";
    private static final String TOLD_NONE = "NONE likewise, no such one.";
    private static final String DAY = "What a ROW says by BEST: 0 the first, 1 the last day.";
    private static final String DAY_NONE = "NONE likewise, NOT, what.";
    private static final String SECOND = "What the WAYS cost least that do not READ a ROW as BEST does.";
    private static final String SECOND_NONE = "NONE: there are none, likewise, NOT.";
    private static final String MANY = "How many ROWS are of a KIND (0 .. 3).";
    private static final String MANY_NONE = "NONE: no such KIND, no STYLES or no ROWS.";
    private static final String SPANS = "How many spans of ROWS of one STYLE BEST has.";
    private static final String SAME =
        "Whether a ROW's first day by BEST, written by its STYLE, gives its CELL byte by byte (1, 0).";
    private static final String SAME_NONE = "NONE: NOT, likewise.";

    private static final int LOW = Integer.MIN_VALUE;
    private static final int HIGH = Integer.MAX_VALUE;

    public static void main(String[] args) {
        Sentences.run(BestEdgeTest.class);
    }

    /** Two styles, two rows, so that 2 is the lowest number of a row that there is not. */
    private static DayColumn two() {
        return Check.rows(Check.styles("D/M/Y", "M/D/Y"), "3/4/2001", "5/4/2001");
    }

    private static final int[] NO_ROWS_OF_TWO = {-1, 2, 30, LOW, HIGH};

    private static DayColumn noStyles() {
        return Check.rows(new DayColumn(), "3/4/2001");
    }

    private static DayColumn noRows() {
        return Check.styles("D/M/Y");
    }

    /** BEST keeps to the first style, so the second row is NOT, though the second style reads it. */
    private static DayColumn oneNot() {
        return Check.rows(Check.styles("Y-M-D", "D/M/Y"), "2001-4-1", "3/4/2001", "2001-4-5");
    }

    // 9: read

    @Says(where = "Promise 9", sentence = READ, edge = "0 and 1 of a day, of a month")
    static void readFirstAndLast(Check c) {
        DayColumn x = Check.rows(Check.styles("D/M/Y", "M/Y"), "3/4/2001", "4/2001");
        c.due("a day's first", x.read(0, 0, 0), Check.number(3, 4, 2001));
        c.due("a day's last", x.read(0, 0, 1), Check.number(3, 4, 2001));
        c.due("a month's first", x.read(1, 1, 0), Check.number(1, 4, 2001));
        c.due("a month's last", x.read(1, 1, 1), Check.number(30, 4, 2001));
    }

    @Says(where = "Promise 9", sentence = READ, edge = "the lowest day is 0, which is not NONE; the highest")
    static void readOutermostDays(Check c) {
        DayColumn x = Check.rows(Check.styles("D/M/Y"), "1/1/1900", "31/12/2199");
        c.due("the lowest", x.read(0, 0, 0), 0);
        c.due("it is read", x.kind(0), 0);
        c.due("the highest", x.read(1, 0, 1), 109572);
    }

    @Says(where = "Promise 9", sentence = READ, edge = "the last of thirty rows by the last of eight styles")
    static void readLastRowAndStyle(Check c) {
        DayColumn x = Check.styles("MY", "MY", "MY", "MY", "MY", "MY", "MY", "D/M/Y");
        for (int r = 0; r < 29; r++) {
            x.row();
        }
        Check.row(x, "3/4/2001");
        c.due("read", x.read(29, 7, 0), Check.number(3, 4, 2001));
        c.due("the style ahead", x.read(29, 6, 0), -1);
        c.due("the row ahead", x.read(28, 7, 0), -1);
    }

    @Says(where = "Promise 9", sentence = READ_NONE, edge = "it is not READ")
    static void readNot(Check c) {
        DayColumn x = Check.rows(Check.styles("D/M/Y"), "4/2001", "", "31/4/2001", "x");
        for (int r = 0; r < 4; r++) {
            c.due("first of row " + r, x.read(r, 0, 0), -1);
            c.due("last of row " + r, x.read(r, 0, 1), -1);
        }
    }

    @Says(where = "Promise 9", sentence = READ_NONE, edge = "no such row")
    static void readNoSuchRow(Check c) {
        DayColumn x = two();
        for (int row : NO_ROWS_OF_TWO) {
            c.due("row " + row, x.read(row, 0, 0), -1);
        }
        c.due("the last there is", x.read(1, 0, 0), Check.number(5, 4, 2001));
        x.clear();
        Check.row(x, "3/4/2001");
        c.due("one that was", x.read(1, 0, 0), -1);
        c.due("no rows", noRows().read(0, 0, 0), -1);
    }

    @Says(where = "Promise 9", sentence = READ_NONE, edge = "no such style")
    static void readNoSuchStyle(Check c) {
        DayColumn x = two();
        for (int style : new int[] {-1, 2, 8, LOW, HIGH}) {
            c.due("style " + style, x.read(0, style, 0), -1);
        }
        c.due("the last there is", x.read(0, 1, 0), Check.number(4, 3, 2001));
        c.due("no styles", noStyles().read(0, 0, 0), -1);
    }

    @Says(where = "Promise 9", sentence = READ_NONE, edge = "what: -1 and 2")
    static void readNoSuchWhat(Check c) {
        DayColumn x = two();
        for (int what : new int[] {-1, 2, LOW, HIGH}) {
            c.due("what " + what, x.read(0, 0, what), -1);
        }
    }

    // 10: readings

    @Says(where = "Promise 10", sentence = READINGS, edge = "none")
    static void readingsNone(Check c) {
        c.due("no style reads it", Check.rows(Check.styles("D/M/Y", "M/D/Y"), "x").readings(0), 0);
        c.due("an empty cell", Check.rows(Check.styles("D/M/Y"), "").readings(0), 0);
        c.due("there are no styles", noStyles().readings(0), 0);
    }

    @Says(where = "Promise 10", sentence = READINGS, edge = "one: alike by several styles")
    static void readingsAlike(Check c) {
        c.due("one style twice", Check.rows(Check.styles("D/M/Y", "D/M/Y"), "3/4/2001").readings(0), 1);
        c.due("two styles", Check.rows(Check.styles("D/M/Y", "M/D/Y"), "4/4/2001").readings(0), 1);
        c.due("a month twice", Check.rows(Check.styles("M/Y", "M/Y"), "4/2001").readings(0), 1);
        c.due("one beside those that do not read it",
            Check.rows(Check.styles("Y-M-D", "D/M/Y", "M/Y"), "3/4/2001").readings(0), 1);
    }

    @Says(where = "Promise 10", sentence = READINGS, edge = "unlike in the first day alone, in the last day alone")
    static void readingsUnlike(Check c) {
        DayColumn x = Check.rows(Check.styles("D/M/Y", "1/M/Y", "30/M/Y"), "1/4/2001", "30/4/2001", "3/4/2001");
        c.due("a day and the month that begins with it", x.readings(0), 2);
        c.due("a day and the month that ends with it", x.readings(1), 2);
        c.due("a day between", x.readings(2), 1);
        DayColumn z = Check.rows(Check.styles("30/M/Y", "1/M/Y", "D/M/Y"), "1/4/2001", "30/4/2001");
        c.due("the month that begins with it and a day", z.readings(0), 2);
        c.due("the month that ends with it and a day", z.readings(1), 2);
    }

    @Says(where = "Promise 10", sentence = READINGS, edge = "eight styles, eight spans; two, then one of them again")
    static void readingsEight(Check c) {
        DayColumn x = Check.styles("D M y", "D y M", "M D y", "M y D", "y D M", "y M D", "01 M y", "M 02 y");
        Check.row(x, "01 02 03");
        c.due("eight", x.readings(0), 8);
        DayColumn z = Check.rows(Check.styles("D/M/Y", "M/D/Y", "D/M/Y", "M/D/Y"), "3/4/2001");
        c.due("two, each twice", z.readings(0), 2);
    }

    @Says(where = "Promise 10", sentence = "NONE: no such one.", edge = "-1, and behind the last")
    static void readingsNoSuchRow(Check c) {
        DayColumn x = two();
        for (int row : NO_ROWS_OF_TWO) {
            c.due("row " + row, x.readings(row), -1);
        }
        c.due("the last there is", x.readings(1), 2);
        c.due("no rows", noRows().readings(0), -1);
    }

    // 11: cost

    @Says(where = "Promise 11", sentence = COST, edge = "the lowest cost, 0")
    static void costLowest(Check c) {
        c.due("one row", Check.rows(Check.styles("D/M/Y"), "3/4/2001").cost(), 0);
    }

    @Says(where = "Promise 11", sentence = COST, edge = "the highest cost, 31,000")
    static void costHighest(Check c) {
        DayColumn x = new DayColumn();
        Check.style(x, "D/M/Y", 1000);
        Check.style(x, "M/D/Y", 1000);
        for (int which = 0; which < 3; which++) {
            x.price(which, 1000);
        }
        for (int r = 0; r < 30; r++) {
            x.row();
        }
        c.due("thirty misses", x.cost(), 31000);
    }

    @Says(where = "Promise 11", sentence = NO_STYLES_OR_ROWS, edge = "no styles")
    static void costWithoutStyles(Check c) {
        c.due("cost", noStyles().cost(), -1);
    }

    @Says(where = "Promise 11", sentence = NO_STYLES_OR_ROWS, edge = "no rows, at first and cleared")
    static void costWithoutRows(Check c) {
        c.due("cost", noRows().cost(), -1);
        DayColumn x = two();
        c.due("of two", x.cost(), 0);
        x.clear();
        c.due("cleared", x.cost(), -1);
    }

    // 12: told

    @Says(where = "Promise 12", sentence = "BEST's STYLE of a ROW.",
        edge = "the first and the last of thirty rows, style 0 and 7")
    static void toldOutermost(Check c) {
        DayColumn x = Check.styles("D/M/Y", "MY", "MY", "MY", "MY", "MY", "MY", "Y-M-D");
        for (int r = 0; r < 30; r++) {
            Check.row(x, r < 15 ? "3/4/2001" : "2001-4-3");
        }
        c.due("the first", x.told(0), 0);
        c.due("ahead of the change", x.told(14), 0);
        c.due("behind the change", x.told(15), 7);
        c.due("the last", x.told(29), 7);
    }

    @Says(where = "Promise 12", sentence = TOLD_NONE, edge = "likewise: no styles, no rows")
    static void toldLikewise(Check c) {
        c.due("no styles", noStyles().told(0), -1);
        c.due("no rows", noRows().told(0), -1);
    }

    @Says(where = "Promise 12", sentence = TOLD_NONE, edge = "no such row: -1, and behind the last")
    static void toldNoSuchRow(Check c) {
        DayColumn x = two();
        for (int row : NO_ROWS_OF_TWO) {
            c.due("row " + row, x.told(row), -1);
        }
        c.due("the last there is", x.told(1), 0);
    }

    // 13: day

    @Says(where = "Promise 13", sentence = DAY, edge = "0 and 1 of a day, of a month; the lowest and the highest day")
    static void dayFirstAndLast(Check c) {
        DayColumn x = Check.styles("D/M/Y", "M/Y");
        x.price(1, 1000);
        Check.rows(x, "1/1/1900", "4/2001", "31/12/2199");
        c.due("the lowest, its first", x.day(0, 0), 0);
        c.due("the lowest, its last", x.day(0, 1), 0);
        c.due("a month's first", x.day(1, 0), Check.number(1, 4, 2001));
        c.due("a month's last", x.day(1, 1), Check.number(30, 4, 2001));
        c.due("the highest, its first", x.day(2, 0), 109572);
        c.due("the highest, its last", x.day(2, 1), 109572);
    }

    @Says(where = "Promise 13", sentence = DAY_NONE, edge = "likewise: no styles, no rows, no such row")
    static void dayLikewise(Check c) {
        c.due("no styles", noStyles().day(0, 0), -1);
        c.due("no rows", noRows().day(0, 0), -1);
        DayColumn x = two();
        for (int row : NO_ROWS_OF_TWO) {
            c.due("first of row " + row, x.day(row, 0), -1);
            c.due("last of row " + row, x.day(row, 1), -1);
        }
    }

    @Says(where = "Promise 13", sentence = DAY_NONE, edge = "NOT, though another style reads it")
    static void dayNot(Check c) {
        DayColumn x = oneNot();
        c.due("first", x.day(1, 0), -1);
        c.due("last", x.day(1, 1), -1);
        c.due("by the other style", x.read(1, 1, 0), Check.number(3, 4, 2001));
    }

    @Says(where = "Promise 13", sentence = DAY_NONE, edge = "what: -1 and 2")
    static void dayNoSuchWhat(Check c) {
        DayColumn x = two();
        for (int what : new int[] {-1, 2, LOW, HIGH}) {
            c.due("what " + what, x.day(0, what), -1);
        }
    }

    // 14: kind

    @Says(where = "Promise 14", sentence = "KIND of a ROW.", edge = "the lowest and the highest kind, each between")
    static void kindOfEach(Check c) {
        DayColumn x = Check.rows(Check.styles("D/M/Y", "M/D/Y"), "4/4/2001", "5/4/2001", "x");
        c.due("SURE", x.kind(0), 0);
        c.due("DOUBT", x.kind(1), 2);
        c.due("NOT", x.kind(2), 3);
        Check.row(x, "24/4/2001");
        c.due("WHOLE, by the row that came", x.kind(1), 1);
        c.due("and that row is SURE", x.kind(3), 0);
    }

    @Says(where = "Promise 14", sentence = "NONE likewise.", edge = "no styles, no rows, no such row")
    static void kindLikewise(Check c) {
        c.due("no styles", noStyles().kind(0), -1);
        c.due("no rows", noRows().kind(0), -1);
        DayColumn x = two();
        for (int row : NO_ROWS_OF_TWO) {
            c.due("row " + row, x.kind(row), -1);
        }
        c.due("the last there is", x.kind(1), 2);
    }

    // 15: second

    @Says(where = "Promise 15", sentence = SECOND, edge = "as cheap as BEST, dearer by 1")
    static void secondAsCheap(Check c) {
        for (int cost = 5; cost <= 6; cost++) {
            DayColumn x = new DayColumn();
            Check.style(x, "D/M/Y", 5);
            Check.style(x, "M/D/Y", cost);
            Check.row(x, "3/4/2001");
            c.due("another span by COST " + cost, x.second(0), cost);
            DayColumn z = new DayColumn();
            Check.style(z, "M/D/Y", cost + 1);
            Check.style(z, "D/M/Y", 5);
            Check.row(z, "3/4/2001");
            c.due("another span by a lower style, COST " + (cost + 1), z.second(0), cost + 1);
        }
    }

    @Says(where = "Promise 15", sentence = SECOND, edge = "a way that does not READ it at all")
    static void secondNotRead(Check c) {
        DayColumn x = Check.rows(Check.styles("D/M/Y", "Y-M-D"), "3/4/2001");
        c.due("COST and MISS", x.second(0), 10);
        x.price(1, 0);
        c.due("MISS 0", x.second(0), 0);
        x.price(1, 1000);
        c.due("MISS 1000", x.second(0), 1000);
    }

    @Says(where = "Promise 15", sentence = SECOND, edge = "the whole way counts: the rows ahead and behind")
    static void secondOfWholeWay(Check c) {
        DayColumn x = Check.rows(Check.styles("D/M/Y", "M/D/Y"), "22/4/2001", "23/4/2001", "24/4/2001", "6/7/2001",
            "25/7/2001", "26/7/2001", "27/7/2001");
        c.due("the first row: a miss, then a change", x.second(0), 10 + 20);
        c.due("6/7 otherwise: there and back", x.second(3), 20 + 20);
        c.due("the last row: a change, and a miss there", x.second(6), 20 + 10);
        DayColumn z = new DayColumn();
        Check.style(z, "D/M/Y", 100);
        Check.style(z, "M/D/Y", 100);
        z.price(1, 1000);
        Check.rows(z, "24/4/2001", "6/7/2001");
        c.due("a COST ahead, a change and a COST", z.second(1), 100 + 20 + 100);
    }

    @Says(where = "Promise 15", sentence = SECOND, edge = "unlike in the last day alone")
    static void secondOfMonth(Check c) {
        DayColumn x = new DayColumn();
        Check.style(x, "D/M/Y", 0);
        Check.style(x, "1/M/Y", 3);
        Check.row(x, "1/4/2001");
        c.due("the month that begins with it", x.second(0), 3);
    }

    @Says(where = "Promise 15", sentence = SECOND_NONE, edge = "there are none: one style, styles that say one span")
    static void secondThereIsNone(Check c) {
        c.due("one style", Check.rows(Check.styles("D/M/Y"), "3/4/2001").second(0), -1);
        c.due("one span", Check.rows(Check.styles("D/M/Y", "M/D/Y"), "4/4/2001").second(0), -1);
        c.due("one month", Check.rows(Check.styles("M/Y", "M/Y"), "4/2001").second(0), -1);
        c.due("one span by eight", Check.rows(Check.styles("D/M/Y", "D/M/Y", "D/M/Y", "D/M/Y", "M/D/Y", "M/D/Y",
            "M/D/Y", "M/D/Y"), "4/4/2001").second(0), -1);
    }

    @Says(where = "Promise 15", sentence = SECOND_NONE, edge = "likewise: no styles, no rows, no such row")
    static void secondLikewise(Check c) {
        c.due("no styles", noStyles().second(0), -1);
        c.due("no rows", noRows().second(0), -1);
        DayColumn x = two();
        for (int row : NO_ROWS_OF_TWO) {
            c.due("row " + row, x.second(row), -1);
        }
        c.due("the last there is", x.second(1), 0);
    }

    @Says(where = "Promise 15", sentence = SECOND_NONE, edge = "NOT, though another way reads it")
    static void secondNot(Check c) {
        c.due("another style reads it", oneNot().second(1), -1);
        c.due("none reads it", Check.rows(Check.styles("D/M/Y", "M/D/Y"), "x").second(0), -1);
    }

    // 16: many

    @Says(where = "Promise 16", sentence = MANY, edge = "the kinds 0 and 3, none of a kind, all")
    static void manyOfEach(Check c) {
        DayColumn x = Check.rows(Check.styles("D/M/Y", "M/D/Y"), "24/4/2001", "5/5/2001", "5/6/2001", "x", "y", "z");
        c.due("SURE", x.many(0), 2);
        c.due("WHOLE", x.many(1), 1);
        c.due("DOUBT", x.many(2), 0);
        c.due("NOT", x.many(3), 3);
        DayColumn doubt = two();
        c.due("all in DOUBT", doubt.many(2), 2);
        c.due("none WHOLE", doubt.many(1), 0);
    }

    @Says(where = "Promise 16", sentence = MANY, edge = "thirty rows")
    static void manyOfThirty(Check c) {
        DayColumn x = Check.styles("D/M/Y");
        for (int r = 0; r < 30; r++) {
            x.row();
        }
        c.due("NOT", x.many(3), 30);
        c.due("SURE", x.many(0), 0);
    }

    @Says(where = "Promise 16", sentence = MANY_NONE, edge = "no such kind: -1 and 4")
    static void manyNoSuchKind(Check c) {
        DayColumn x = Check.rows(two(), "x");
        for (int kind : new int[] {-1, 4, LOW, HIGH}) {
            c.due("kind " + kind, x.many(kind), -1);
        }
    }

    @Says(where = "Promise 16", sentence = MANY_NONE, edge = "no styles or no rows")
    static void manyWithout(Check c) {
        for (int kind = 0; kind < 4; kind++) {
            c.due("no styles, kind " + kind, noStyles().many(kind), -1);
            c.due("no rows, kind " + kind, noRows().many(kind), -1);
        }
    }

    // 17: spans

    @Says(where = "Promise 17", sentence = SPANS, edge = "one row, all rows of one style")
    static void spansOne(Check c) {
        DayColumn x = Check.rows(Check.styles("D/M/Y", "Y-M-D"), "3/4/2001");
        c.due("one row", x.spans(), 1);
        for (int r = 1; r < 30; r++) {
            x.row();
        }
        c.due("thirty rows", x.spans(), 1);
    }

    @Says(where = "Promise 17", sentence = SPANS, edge = "each of thirty rows another style than the one ahead")
    static void spansThirty(Check c) {
        DayColumn x = Check.styles("D/M/Y", "Y-M-D");
        x.price(0, 0);
        for (int r = 0; r < 30; r++) {
            Check.row(x, r % 2 == 0 ? "3/4/2001" : "2001-4-3");
        }
        c.due("thirty", x.spans(), 30);
    }

    @Says(where = "Promise 17", sentence = SPANS,
        edge = "a style that comes again is another span; a change at the last row")
    static void spansAgain(Check c) {
        DayColumn x = Check.styles("D/M/Y", "Y-M-D");
        x.price(0, 0);
        Check.rows(x, "3/4/2001", "3/4/2001", "2001-4-3", "2001-4-3");
        c.due("two", x.spans(), 2);
        Check.row(x, "3/4/2001");
        c.due("three", x.spans(), 3);
    }

    @Says(where = "Promise 17", sentence = NO_STYLES_OR_ROWS, edge = "no styles")
    static void spansWithoutStyles(Check c) {
        c.due("spans", noStyles().spans(), -1);
    }

    @Says(where = "Promise 17", sentence = NO_STYLES_OR_ROWS, edge = "no rows, at first and cleared")
    static void spansWithoutRows(Check c) {
        c.due("spans", noRows().spans(), -1);
        DayColumn x = two();
        c.due("of two", x.spans(), 1);
        x.clear();
        c.due("cleared", x.spans(), -1);
    }

    // 21: same

    private static void same(Check c, String pattern, String cell, int want) {
        c.due("'" + cell + "' by '" + pattern + "'", Check.rows(Check.styles(pattern), cell).same(0), want);
    }

    @Says(where = "Promise 21", sentence = SAME, edge = "a 0 ahead, one digit, two")
    static void sameDigits(Check c) {
        same(c, "D/M/Y", "3/4/2001", 1);
        same(c, "D/M/Y", "03/4/2001", 0);
        same(c, "D/M/Y", "3/04/2001", 0);
        same(c, "D/M/Y", "9/9/2001", 1);
        same(c, "D/M/Y", "10/10/2001", 1);
        same(c, "y/M/D", "01/4/3", 1);
    }

    @Says(where = "Promise 21", sentence = SAME, edge = "one great letter, the first, between, the last")
    static void sameLetters(Check c) {
        same(c, "W D N Y", "tue 3 apr 2001", 1);
        for (String word : new String[] {"Apr", "aPr", "apR", "APR"}) {
            same(c, "W D N Y", "tue 3 " + word + " 2001", 0);
        }
        same(c, "W D N Y", "Tue 3 apr 2001", 0);
        same(c, "N/Y/W", "apr/2001/suN", 0);
        same(c, "N/Y/W", "apr/2001/sun", 1);
    }

    @Says(where = "Promise 21", sentence = SAME, edge = "one blank, two, blanks up to the 24th byte")
    static void sameBlanks(Check c) {
        same(c, "D M Y ", "3 4 2001 ", 1);
        same(c, "D M Y ", "3  4 2001 ", 0);
        same(c, "D M Y ", "3 4 2001  ", 0);
        same(c, "D M Y ", "3 4 2001" + " ".repeat(16), 0);
        same(c, " D M Y", "  3 4 2001", 0);
    }

    @Says(where = "Promise 21", sentence = SAME,
        edge = "its first day: a month without a day; the lowest and the highest day")
    static void sameFirstDay(Check c) {
        same(c, "W N Y", "sun apr 2001", 1);
        same(c, "M/y", "2/00", 1);
        same(c, "D/M/Y", "1/1/1900", 1);
        same(c, "D/M/Y", "31/12/2199", 1);
    }

    @Says(where = "Promise 21", sentence = SAME, edge = "BEST's style, though another one would give it")
    static void sameByBest(Check c) {
        c.due("2010-4-5 is written 10/4/5", Check.rows(Check.styles("y/M/D", "D/M/y"), "10/4/05").same(0), 0);
        c.due("10.4.2005 is written so", Check.rows(Check.styles("D/M/y", "y/M/D"), "10/4/05").same(0), 1);
    }

    @Says(where = "Promise 21", sentence = SAME, edge = "a cell and a pattern of 24 bytes")
    static void sameFull(Check c) {
        same(c, "M/Y789012345678901234", "4/2001789012345678901234", 1);
        same(c, "M/y5678901234567890123", "04/015678901234567890123", 0);
    }

    @Says(where = "Promise 21", sentence = SAME_NONE, edge = "NOT, though another style reads it")
    static void sameNot(Check c) {
        c.due("another style reads it", oneNot().same(1), -1);
        c.due("an empty cell", Check.rows(Check.styles("D/M/Y"), "").same(0), -1);
    }

    @Says(where = "Promise 21", sentence = SAME_NONE, edge = "likewise: no styles, no rows, no such row")
    static void sameLikewise(Check c) {
        c.due("no styles", noStyles().same(0), -1);
        c.due("no rows", noRows().same(0), -1);
        DayColumn x = two();
        for (int row : NO_ROWS_OF_TWO) {
            c.due("row " + row, x.same(row), -1);
        }
        c.due("the last there is", x.same(1), 1);
    }
}
