/** Promises 8, 11 to 17 and 21: prices, the best way, its days, kinds, seconds, spans, and cells written back. */
public final class BestTest {
    private static final Check CHECK = new Check("BestTest");

    public static void main(String[] args) {
        prices();
        cost();
        orderOfRows();
        told();
        day();
        kinds();
        second();
        many();
        spans();
        same();
        nothingThere();
        fullColumn();
        CHECK.finish();
    }

    private static void prices() {
        DayColumn x = Check.rows(Check.styles("D/M/Y"), "x", "4/4/2001", "3/4/2001");
        CHECK.due("8 at first a miss 10, a break 5", x.cost(), 15);
        CHECK.due("8 miss", x.price(1, 1000), true);
        CHECK.due("8 miss counts", x.cost(), 1005);
        CHECK.due("8 break", x.price(2, 0), true);
        CHECK.due("8 break counts", x.cost(), 1000);
        for (int which : new int[] {-1, 3, Integer.MIN_VALUE, Integer.MAX_VALUE}) {
            CHECK.due("8 which " + which, x.price(which, 1), false);
        }
        for (int which = 0; which < 3; which++) {
            CHECK.due("8 below 0", x.price(which, -1), false);
            CHECK.due("8 over 1000", x.price(which, 1001), false);
            CHECK.due("8 far", x.price(which, Integer.MIN_VALUE), false);
        }
        CHECK.due("8 refused changes nothing", x.cost(), 1000);
        DayColumn z = Check.rows(Check.styles("D/M/Y", "Y-M-D"), "3/4/2001", "2001-4-4");
        z.price(1, 100);
        CHECK.due("8 at first a change 20", z.cost(), 20);
        CHECK.due("8 change", z.price(0, 1), true);
        CHECK.due("8 change counts", z.cost(), 1);
        CHECK.due("8 change 0", z.price(0, 0), true);
        CHECK.due("8 free change", z.cost(), 0);
    }

    private static void cost() {
        DayColumn x = new DayColumn();
        Check.style(x, "D/M/Y", 7);
        Check.style(x, "Y-M-D", 9);
        Check.row(x, "3/4/2001");
        CHECK.due("11 the first row's COST", x.cost(), 7);
        Check.row(x, "4/4/2001");
        CHECK.due("11 no COST for the same STYLE", x.cost(), 7);
        Check.row(x, "2001-04-05");
        CHECK.due("11 a miss is cheaper than a change", x.cost(), 17);
        Check.row(x, "2001-04-06");
        Check.row(x, "2001-04-07");
        CHECK.due("11 all by the other STYLE, two misses", x.cost(), 9 + 10 + 10);
        Check.row(x, "2001-04-06");
        CHECK.due("11 a break", x.cost(), 9 + 10 + 10 + 5);
        x.price(1, 100);
        CHECK.due("11 CHANGE and the new STYLE's COST", x.cost(), 7 + 20 + 9 + 5);
        Check.style(x, "M/D/Y", 0);
        CHECK.due("11 a new style counts at once: 4 march, 4 april", x.cost(), 20 + 9 + 5);
        x.price(1, 10);
        x.clear();
        Check.row(x, "x");
        CHECK.due("11 the cheapest style misses", x.cost(), 10);
    }

    private static void orderOfRows() {
        DayColumn x = Check.rows(Check.styles("D/M/Y", "M/D/Y"), "3/4/2001", "4/4/2001", "5/4/2001", "6/4/2001");
        CHECK.due("11 both in order", x.cost(), 0);
        CHECK.due("12 the lower of equals", x.told(2), 0);
        Check.rows(x, "4/5/2001", "3/6/2001");
        CHECK.due("11 in order by D/M/Y alone", x.cost(), 0);
        CHECK.due("12 order settles", x.told(0), 0);
        DayColumn z = Check.rows(Check.styles("D/M/Y", "M/D/Y"), "4/3/2001", "4/4/2001", "5/2/2001", "6/1/2001");
        CHECK.due("11 in order by M/D/Y alone", z.cost(), 0);
        CHECK.due("12 order settles the other style", z.told(0), 1);
        DayColumn same = Check.rows(Check.styles("D/M/Y"), "3/4/2001", "3/4/2001");
        CHECK.due("11 the same day is no break", same.cost(), 0);
        DayColumn month = Check.rows(Check.styles("D/M/Y", "M/Y"), "30/4/2001", "4/2001", "1/4/2001", "3/2001");
        month.price(0, 0);
        month.price(1, 1000);
        month.price(2, 50);
        CHECK.due("11 a break only behind the end of a month", month.cost(), 50);
        DayColumn gap = Check.rows(Check.styles("D/M/Y"), "4/4/2001", "x", "3/4/2001");
        CHECK.due("11 no break over a row that is not read", gap.cost(), 10);
        DayColumn ends = Check.rows(Check.styles("M/Y", "D/M/Y"), "4/2001", "31/3/2001");
        ends.price(0, 0);
        ends.price(1, 1000);
        CHECK.due("11 a month begins behind a day", ends.cost(), 5);
    }

    private static void told() {
        DayColumn x = Check.rows(Check.styles("M/D/Y", "D/M/Y", "D/M/Y"), "3/4/2001");
        CHECK.due("12 the lowest of equals", x.told(0), 0);
        Check.row(x, "24/4/2001");
        CHECK.due("12 settled by the row behind", x.told(0), 1);
        CHECK.due("12 the second row", x.told(1), 1);
        CHECK.due("12 no row", x.told(2), -1);
        CHECK.due("12 no row -1", x.told(-1), -1);
        CHECK.due("12 no row 30", x.told(30), -1);
        DayColumn z = new DayColumn();
        Check.style(z, "D/M/Y", 0);
        Check.style(z, "Y-M-D", 0);
        z.price(0, 10);
        Check.rows(z, "3/4/2001", "2001-4-4", "5/4/2001");
        CHECK.due("12 10 either way", z.cost(), 10);
        CHECK.due("12 the way that is lower at the first row that differs", z.told(1), 0);
        DayColumn late = Check.rows(Check.styles("D/M/Y", "Y-M-D"), "2001-4-4", "3/4/2001");
        late.price(0, 10);
        late.price(2, 0);
        CHECK.due("12 missing by 0, 0 equals change by 1, 0 and missing by 1, 1", late.cost(), 10);
        CHECK.due("12 so 0 first", late.told(0), 0);
        CHECK.due("12 then 0", late.told(1), 0);
    }

    private static void day() {
        DayColumn x = Check.rows(Check.styles("M/D/Y", "D/M/Y", "M/Y"), "3/4/2001", "24/4/2001", "x", "5/2001");
        x.price(1, 100);
        CHECK.due("13 first", x.day(0, 0), x.number(3, 4, 2001));
        CHECK.due("13 last", x.day(0, 1), x.number(3, 4, 2001));
        CHECK.due("13 a month's first", x.day(3, 0), x.number(1, 5, 2001));
        CHECK.due("13 a month's last", x.day(3, 1), x.number(31, 5, 2001));
        CHECK.due("13 NOT", x.day(2, 0), -1);
        CHECK.due("13 what -1", x.day(0, -1), -1);
        CHECK.due("13 what 2", x.day(0, 2), -1);
        CHECK.due("13 no row", x.day(4, 0), -1);
        CHECK.due("13 no row -1", x.day(-1, 0), -1);
    }

    private static void kinds() {
        DayColumn x = Check.rows(Check.styles("D/M/Y", "M/D/Y"), "3/4/2001", "4/4/2001", "x", "24/4/2001");
        CHECK.due("14 WHOLE", x.kind(0), 1);
        CHECK.due("14 SURE: all say one SPAN", x.kind(1), 0);
        CHECK.due("14 NOT", x.kind(2), 3);
        CHECK.due("14 SURE", x.kind(3), 0);
        CHECK.due("14 no row", x.kind(4), -1);
        CHECK.due("14 no row -1", x.kind(-1), -1);
        x.price(1, 0);
        CHECK.due("14 a way as cheap reads it otherwise", x.kind(0), 2);
        CHECK.due("14 SURE is asked first", x.kind(3), 0);
        DayColumn notAtAll = Check.rows(Check.styles("D/M/Y", "M/D/Y", "Y"), "3/4/2001");
        Check.style(notAtAll, "Y-M-D", 0);
        CHECK.due("14 DOUBT", notAtAll.kind(0), 2);
        notReadAtAll();
        missedByBest();
    }

    /** Read in two unlike ways, the other of them dear, but not reading it at all is as cheap as the best way. */
    private static void notReadAtAll() {
        DayColumn x = new DayColumn();
        Check.style(x, "D/M/Y", 10);
        Check.style(x, "M/D/Y", 500);
        Check.style(x, "Y-M-D", 0);
        Check.row(x, "3/4/2001");
        CHECK.due("14 10 either way", x.cost(), 10);
        CHECK.due("14 BEST reads it", x.told(0), 0);
        CHECK.due("14 DOUBT: or not at all", x.kind(0), 2);
        CHECK.due("15 the way that does not read it", x.second(0), 10);
        x.price(1, 11);
        CHECK.due("14 WHOLE", x.kind(0), 1);
        CHECK.due("15 dearer by one", x.second(0), 11);
    }

    private static void missedByBest() {
        DayColumn x = new DayColumn();
        Check.style(x, "Y-M-D", 0);
        Check.style(x, "D/M/Y", 0);
        Check.rows(x, "2001-4-1", "3/4/2001", "2001-4-5");
        CHECK.due("14 NOT, though some STYLE reads it", x.kind(1), 3);
        CHECK.due("13 NOT", x.day(1, 0), -1);
        CHECK.due("15 NOT", x.second(1), -1);
        CHECK.due("21 NOT", x.same(1), -1);
        CHECK.due("10 one reading", x.readings(1), 1);
    }

    private static void second() {
        DayColumn x = Check.rows(Check.styles("D/M/Y"), "3/4/2001", "x");
        CHECK.due("15 there are none", x.second(0), -1);
        CHECK.due("15 NOT", x.second(1), -1);
        CHECK.due("15 no row", x.second(2), -1);
        CHECK.due("15 no row -1", x.second(-1), -1);
        Check.style(x, "D/M/Y", 3);
        CHECK.due("15 another STYLE, the same SPAN", x.second(0), -1);
        Check.style(x, "M/D/Y", 4);
        CHECK.due("15 the whole way costs", x.second(0), 14);
        DayColumn z = Check.rows(Check.styles("D/M/Y", "M/D/Y"), "3/4/2001", "24/4/2001", "25/4/2001", "26/4/2001");
        CHECK.due("15 change behind the row", z.second(0), 20);
        CHECK.due("15 not read, change there and back or all by 1", z.second(2), 30);
        CHECK.due("11 the best", z.cost(), 0);
        DayColumn order = Check.rows(Check.styles("D/M/Y", "M/D/Y"), "1/2/2001", "3/1/2001");
        CHECK.due("15 a break less by 1", order.cost(), 0);
        CHECK.due("12 the order settles", order.told(0), 1);
        CHECK.due("15 by 0 with a break", order.second(0), 5);
    }

    private static void many() {
        DayColumn x = Check.rows(Check.styles("D/M/Y", "M/D/Y"), "3/4/2001", "4/4/2001", "x", "5/4/2001");
        CHECK.due("16 SURE", x.many(0), 1);
        CHECK.due("16 WHOLE", x.many(1), 0);
        CHECK.due("16 DOUBT", x.many(2), 2);
        CHECK.due("16 NOT", x.many(3), 1);
        Check.row(x, "24/4/2001");
        CHECK.due("16 SURE then", x.many(0), 2);
        CHECK.due("16 WHOLE then", x.many(1), 2);
        CHECK.due("16 DOUBT then", x.many(2), 0);
        for (int kind : new int[] {-1, 4, Integer.MIN_VALUE, Integer.MAX_VALUE}) {
            CHECK.due("16 no kind " + kind, x.many(kind), -1);
        }
    }

    private static void spans() {
        DayColumn x = Check.rows(Check.styles("D/M/Y", "Y-M-D"), "3/4/2001");
        x.price(0, 1);
        CHECK.due("17 one row", x.spans(), 1);
        Check.row(x, "4/4/2001");
        CHECK.due("17 one style", x.spans(), 1);
        Check.rows(x, "2001-4-5", "2001-4-6");
        CHECK.due("17 two", x.spans(), 2);
        Check.rows(x, "7/4/2001");
        CHECK.due("17 three, though two styles", x.spans(), 3);
        Check.row(x, "x");
        CHECK.due("17 a row that is not read goes with the one ahead", x.spans(), 3);
    }

    private static void same() {
        DayColumn x = Check.rows(Check.styles("D/M/Y"), "3/4/2001", "03/4/2001", "3/04/2001", "24/12/2001", "x");
        CHECK.due("21 as written", x.same(0), 1);
        CHECK.due("21 a 0 ahead of D", x.same(1), 0);
        CHECK.due("21 a 0 ahead of M", x.same(2), 0);
        CHECK.due("21 two digits", x.same(3), 1);
        CHECK.due("21 NOT", x.same(4), -1);
        CHECK.due("21 no row", x.same(5), -1);
        CHECK.due("21 no row -1", x.same(-1), -1);
        DayColumn w = Check.rows(Check.styles("W D N y"), "tue 3 apr 01", "Tue 3 apr 01", "tue 3 aPr 01",
                "tue  3 apr 01", "tue 3 apr  01");
        CHECK.due("21 words", w.same(0), 1);
        for (int row = 1; row < 5; row++) {
            CHECK.due("21 great letters or more blanks, row " + row, w.same(row), 0);
        }
        DayColumn m = Check.rows(Check.styles("W N Y"), "sun apr 2001");
        CHECK.due("21 a month by its first day", m.same(0), 1);
    }

    private static void nothingThere() {
        DayColumn rowsAlone = Check.rows(new DayColumn(), "3/4/2001");
        DayColumn stylesAlone = Check.styles("D/M/Y");
        for (DayColumn x : new DayColumn[] {new DayColumn(), rowsAlone, stylesAlone}) {
            CHECK.due("11", x.cost(), -1);
            CHECK.due("12", x.told(0), -1);
            CHECK.due("13", x.day(0, 0), -1);
            CHECK.due("14", x.kind(0), -1);
            CHECK.due("15", x.second(0), -1);
            CHECK.due("16", x.many(0), -1);
            CHECK.due("17", x.spans(), -1);
            CHECK.due("21", x.same(0), -1);
        }
    }

    /** Thirty rows, each read by one of eight styles alone. */
    private static void fullColumn() {
        DayColumn x = new DayColumn();
        String marks = "abcdefgh";
        for (int s = 0; s < 8; s++) {
            Check.style(x, "D/M/Y" + marks.charAt(s), s);
        }
        int costs = 7;
        for (int r = 0; r < 30; r++) {
            int s = 7 - r % 8;
            Check.row(x, (30 - r) + "/1/2001" + marks.charAt(s));
            costs += r == 0 ? 0 : s;
        }
        x.price(0, 3);
        x.price(1, 1000);
        x.price(2, 2);
        CHECK.due("11 all rows", x.cost(), costs + 29 * 3 + 29 * 2);
        CHECK.due("17 all rows", x.spans(), 30);
        CHECK.due("16 all rows", x.many(0), 30);
        for (int r = 0; r < 30; r++) {
            CHECK.due("12 row " + r, x.told(r), 7 - r % 8);
            CHECK.due("13 row " + r, x.day(r, 1), x.number(30 - r, 1, 2001));
            CHECK.due("21 row " + r, x.same(r), 1);
        }
        int last = 7 - 29 % 8;
        CHECK.due("15 the last row as the one ahead", x.second(29), x.cost() - last - 3 - 2 + 1000);
        dearest();
    }

    /** The highest cost there is: thirty rows that nothing reads. */
    private static void dearest() {
        DayColumn x = new DayColumn();
        Check.style(x, "M/Y", 1000);
        x.price(1, 1000);
        for (int r = 0; r < 30; r++) {
            Check.row(x, "x");
        }
        CHECK.due("11 the dearest", x.cost(), 31000);
        CHECK.due("16 none read", x.many(3), 30);
        CHECK.due("17 one span", x.spans(), 1);
    }
}
