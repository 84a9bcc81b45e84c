import java.time.LocalDate;
import java.time.temporal.ChronoUnit;

/** Promises 18 to 20: the parts of a day, the number of a day, a day written; java.time is the measure. */
public final class CalendarTest {
    private static final Check CHECK = new Check("CalendarTest");
    private static final LocalDate FIRST = LocalDate.of(1900, 1, 1);
    private static final int DAYS = 109573;

    public static void main(String[] args) {
        everyDay();
        noSuchParts();
        noSuchNumbers();
        written();
        writtenWrongly();
        CHECK.finish();
    }

    private static void everyDay() {
        CHECK.due("DAYS", ChronoUnit.DAYS.between(FIRST, LocalDate.of(2200, 1, 1)), DAYS);
        DayColumn x = null;
        for (int day = 0; day < DAYS; day++) {
            if (day % 100 == 0) {
                x = new DayColumn();
            }
            LocalDate d = FIRST.plusDays(day);
            CHECK.due("18 day of " + day, x.part(day, 0), d.getDayOfMonth());
            CHECK.due("18 month of " + day, x.part(day, 1), d.getMonthValue());
            CHECK.due("18 year of " + day, x.part(day, 2), d.getYear());
            CHECK.due("18 weekday of " + day, x.part(day, 3), d.getDayOfWeek().getValue() - 1);
            CHECK.due("19 number of " + d, x.number(d.getDayOfMonth(), d.getMonthValue(), d.getYear()), day);
        }
    }

    private static void noSuchParts() {
        DayColumn x = new DayColumn();
        for (int day : new int[] {-1, DAYS, Integer.MIN_VALUE, Integer.MAX_VALUE}) {
            for (int what = 0; what < 4; what++) {
                CHECK.due("18 no day " + day, Check.partThrows(x, day, what), true);
            }
        }
        for (int what : new int[] {-1, 4, Integer.MIN_VALUE, Integer.MAX_VALUE}) {
            CHECK.due("18 what " + what, Check.partThrows(x, 0, what), true);
            CHECK.due("18 what " + what, Check.partThrows(x, DAYS - 1, what), true);
        }
        CHECK.due("18 the first day", Check.partThrows(x, 0, 0), false);
        CHECK.due("18 the last day", Check.partThrows(x, DAYS - 1, 3), false);
    }

    private static void noSuchNumbers() {
        int low = Integer.MIN_VALUE;
        int high = Integer.MAX_VALUE;
        int[][] none = {{0, 1, 1900}, {32, 1, 1900}, {31, 4, 2001}, {29, 2, 1900}, {29, 2, 2001}, {29, 2, 2100},
            {30, 2, 2000}, {1, 0, 2000}, {1, 13, 2000}, {1, -1, 2000}, {-1, 1, 2000}, {31, 12, 1899}, {1, 1, 2200},
            {1, 1, 0}, {1, 1, -2000}, {low, 1, 2000}, {high, 1, 2000}, {1, low, 2000}, {1, high, 2000},
            {1, 1, low}, {1, 1, high}};
        DayColumn x = new DayColumn();
        for (int[] d : none) {
            CHECK.due("19 no " + d[0] + "." + d[1] + "." + d[2], x.number(d[0], d[1], d[2]), -1);
        }
        for (int month = 1; month <= 12; month++) {
            int length = LocalDate.of(2001, month, 1).lengthOfMonth();
            CHECK.due("19 last of " + month, x.number(length, month, 2001) >= 0, true);
            CHECK.due("19 behind it " + month, x.number(length + 1, month, 2001), -1);
        }
    }

    private static void isWritten(String pattern, int d, int m, int y, String want) {
        DayColumn x = Check.styles(pattern);
        String got = Check.written(x, x.number(d, m, y), 0);
        CHECK.due("20 '" + pattern + "' gave '" + got + "', due '" + want + "'", got.equals(want), true);
    }

    private static void written() {
        isWritten("D/M/Y", 3, 4, 2001, "3/4/2001");
        isWritten("D/M/Y", 24, 12, 2199, "24/12/2199");
        isWritten("D/M/Y", 10, 10, 1900, "10/10/1900");
        isWritten("D/M/Y", 9, 9, 1999, "9/9/1999");
        isWritten("y-M-D", 3, 4, 2001, "01-4-3");
        isWritten("y-M-D", 3, 4, 1900, "00-4-3");
        isWritten("M.y", 3, 4, 2199, "4.99");
        isWritten("W, D N Y", 3, 4, 2001, "tue, 3 apr 2001");
        isWritten(" d D m N  Y ", 29, 2, 2000, " d 29 m feb  2000 ");
        isWritten("WDNY56789012345678901234", 31, 12, 1999, "fri31dec199956789012345678901234");
        isWritten("W N Y", 3, 4, 2001, "tue apr 2001");
        String[] months = {"jan", "feb", "mar", "apr", "may", "jun", "jul", "aug", "sep", "oct", "nov", "dec"};
        String[] week = {"sat", "tue", "wed", "sat", "mon", "thu", "sat", "tue", "fri", "sun", "wed", "fri"};
        for (int m = 1; m <= 12; m++) {
            isWritten("W N Y", 1, m, 2000, week[m - 1] + " " + months[m - 1] + " 2000");
        }
        DayColumn x = Check.styles("D/M/Y", "M/D/Y");
        CHECK.due("20 the second style", Check.written(x, x.number(3, 4, 2001), 1).equals("4/3/2001"), true);
        x.window(2100);
        CHECK.due("20 no window", Check.written(x, 0, 0).equals("1/1/1900"), true);
    }

    private static void writtenWrongly() {
        DayColumn x = Check.styles("D/M/Y");
        CHECK.due("20 the last byte", x.write(0, 0, 7), '0');
        for (int bad : new int[] {-1, 8, 32, Integer.MIN_VALUE, Integer.MAX_VALUE}) {
            CHECK.due("20 no byte " + bad, x.write(0, 0, bad), -1);
        }
        for (int bad : new int[] {-1, 1, 8, Integer.MIN_VALUE, Integer.MAX_VALUE}) {
            CHECK.due("20 no style " + bad, x.write(0, bad, 0), -1);
        }
        for (int bad : new int[] {-1, DAYS, Integer.MIN_VALUE, Integer.MAX_VALUE}) {
            CHECK.due("20 no day " + bad, x.write(bad, 0, 0), -1);
        }
        CHECK.due("20 the last day", x.write(DAYS - 1, 0, 9), '9');
    }
}
