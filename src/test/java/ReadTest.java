/** Promises 7, 9 and 10: the window, what a row says by a style, how many unlike spans. */
public final class ReadTest {
    private static final Check CHECK = new Check("ReadTest");

    public static void main(String[] args) {
        digits();
        words();
        blanksAndOthers();
        daysThereAre();
        months();
        window();
        wrongArguments();
        readings();
        fullCells();
        CHECK.finish();
    }

    private static void digits() {
        CHECK.reads("D/M/Y", "3/4/2001", 3, 4, 2001);
        CHECK.reads("D/M/Y", "03/04/2001", 3, 4, 2001);
        CHECK.reads("D/M/Y", "31/12/2199", 31, 12, 2199);
        CHECK.reads("D/M/Y", "1/1/1900", 1, 1, 1900);
        CHECK.reads("M/D/Y", "3/4/2001", 4, 3, 2001);
        CHECK.reads("Y-M-D", "2001-4-3", 3, 4, 2001);
        CHECK.reads("YMD", "20010403", 3, 4, 2001);
        CHECK.reads("YMD", "2001123", 3, 12, 2001);
        CHECK.readsNot("YMD", "200143");
        CHECK.readsNot("YMD", "2001143");
        CHECK.readsNot("D/M/Y", "003/4/2001");
        CHECK.readsNot("D/M/Y", "/4/2001");
        CHECK.readsNot("D/M/Y", "3//2001");
        CHECK.readsNot("D/M/Y", "3/4/201");
        CHECK.readsNot("D/M/Y", "3/4/20011");
        CHECK.readsNot("D/M/Y", "3/4/");
        CHECK.readsNot("D/M/Y", "3/4/2001 ");
        CHECK.readsNot("D/M/Y", " 3/4/2001");
        CHECK.readsNot("D/M/Y", "3/4/200:");
        CHECK.readsNot("D/M/Y", "3/4/200/");
        CHECK.readsNot("D/M/Y", "");
        CHECK.readsNot("D/M/y", "3/4/2001");
        CHECK.readsNot("D/M/y", "3/4/1");
        CHECK.reads("D/M/y", "3/4/01", 3, 4, 2001);
        CHECK.reads("yMD", "010403", 3, 4, 2001);
        CHECK.readsNot("D1/M/Y", "31/4/2001");
        CHECK.reads("D1/M/Y", "031/4/2001", 3, 4, 2001);
    }

    private static void words() {
        String[] names = {"jan", "feb", "mar", "apr", "may", "jun", "jul", "aug", "sep", "oct", "nov", "dec"};
        for (int m = 1; m <= 12; m++) {
            CHECK.reads("D N Y", "3 " + names[m - 1] + " 2001", 3, m, 2001);
            CHECK.reads("D N Y", "3 " + names[m - 1].toUpperCase() + " 2001", 3, m, 2001);
        }
        CHECK.reads("DNY", "3aPr2001", 3, 4, 2001);
        CHECK.readsNot("D N Y", "3 ap 2001");
        CHECK.readsNot("D N Y", "3 april 2001");
        CHECK.readsNot("D N Y", "3 anf 2001");
        CHECK.readsNot("D N Y", "3 4 2001");
        CHECK.readsNot("D M Y", "3 apr 2001");
        CHECK.readsNot("N Y D", "ap");
        String[] week = {"mon", "tue", "wed", "thu", "fri", "sat", "sun"};
        for (int w = 0; w < 7; w++) {
            CHECK.reads("W D/M/Y", week[w] + " " + (w + 2) + "/4/2001", w + 2, 4, 2001);
            CHECK.reads("D/M/Y W", (w + 2) + "/4/2001 " + week[w].toUpperCase(), w + 2, 4, 2001);
            CHECK.readsNot("W D/M/Y", week[w] + " " + (w + 3) + "/4/2001");
        }
        CHECK.readsNot("W D/M/Y", "xxx 3/4/2001");
        CHECK.readsNot("W D/M/Y", "tu 3/4/2001");
        CHECK.readsNot("W D/M/Y", "[ue 3/4/2001");
        CHECK.readsNot("D N Y", "3 @pr 2001");
    }

    private static void blanksAndOthers() {
        CHECK.reads("D N Y", "3    apr  2001", 3, 4, 2001);
        CHECK.readsNot("D N Y", "3apr 2001");
        CHECK.reads(" D/M/Y ", "  3/4/2001 ", 3, 4, 2001);
        CHECK.readsNot(" D/M/Y ", "3/4/2001 ");
        CHECK.readsNot(" D/M/Y ", " 3/4/2001");
        CHECK.readsNot("D  M Y", "3  4 2001");
        CHECK.reads("d:D m:M Y", "d:3 m:4 2001", 3, 4, 2001);
        CHECK.readsNot("d:D m:M Y", "D:3 m:4 2001");
        CHECK.readsNot("d:D m:M Y", "d:3 M:4 2001");
        CHECK.readsNot("D/M/Y", "3-4-2001");
        CHECK.readsNot("D/M/Y", "3/4 /2001");
        CHECK.reads("Y~M~D", "2001~4~3", 3, 4, 2001);
        CHECK.reads("0M0Y0D", "0040200103", 3, 4, 2001);
    }

    private static void daysThereAre() {
        CHECK.readsNot("D/M/Y", "0/4/2001");
        CHECK.readsNot("D/M/Y", "00/4/2001");
        CHECK.readsNot("D/M/Y", "3/0/2001");
        CHECK.readsNot("D/M/Y", "3/13/2001");
        CHECK.readsNot("D/M/Y", "31/4/2001");
        CHECK.readsNot("D/M/Y", "32/1/2001");
        CHECK.readsNot("D/M/Y", "29/2/2001");
        CHECK.readsNot("D/M/Y", "29/2/1900");
        CHECK.readsNot("D/M/Y", "29/2/2100");
        CHECK.readsNot("D/M/Y", "30/2/2000");
        CHECK.reads("D/M/Y", "29/2/2000", 29, 2, 2000);
        CHECK.reads("D/M/Y", "29/2/2096", 29, 2, 2096);
        CHECK.readsNot("D/M/Y", "31/12/1899");
        CHECK.readsNot("D/M/Y", "1/1/2200");
        CHECK.readsNot("D/M/Y", "1/1/0000");
        CHECK.readsNot("D/M/Y", "1/1/9999");
    }

    private static void months() {
        CHECK.readsMonth("M/Y", "2/2000", 2, 2000, 29);
        CHECK.readsMonth("M/Y", "02/1900", 2, 1900, 28);
        CHECK.readsMonth("N Y", "apr 2001", 4, 2001, 30);
        CHECK.readsMonth("M/Y", "12/2199", 12, 2199, 31);
        CHECK.readsMonth("M/y", "1/50", 1, 1950, 31);
        CHECK.readsMonth("M/y", "1/49", 1, 2049, 31);
        CHECK.readsMonth("W N Y", "sun apr 2001", 4, 2001, 30);
        CHECK.readsNot("W N Y", "mon apr 2001");
        CHECK.readsNot("M/Y", "0/2001");
        CHECK.readsNot("M/Y", "13/2001");
        CHECK.readsNot("M/Y", "1/1/2001");
        CHECK.readsNot("M/Y", "1/2200");
        CHECK.readsNot("M/Y", "12/1899");
    }

    private static void window() {
        DayColumn x = Check.rows(Check.styles("D/M/y", "D/M/Y"), "1/1/00", "1/1/49", "1/1/50", "1/1/99");
        CHECK.due("7 1950 at first", x.read(2, 0, 0), x.number(1, 1, 1950));
        CHECK.due("7 49 ends the window", x.read(1, 0, 0), x.number(1, 1, 2049));
        CHECK.due("7 below", x.window(1899), false);
        CHECK.due("7 over", x.window(2101), false);
        CHECK.due("7 far below", x.window(Integer.MIN_VALUE), false);
        CHECK.due("7 far over", x.window(Integer.MAX_VALUE), false);
        CHECK.due("7 refused changes nothing", x.count(3), 1950);
        CHECK.due("7 refused changes no reading", x.read(2, 0, 0), x.number(1, 1, 1950));
        for (int w = 1900; w <= 2100; w += 25) {
            CHECK.due("7 window " + w, x.window(w), true);
            int[] figures = {0, 49, 50, 99};
            for (int r = 0; r < 4; r++) {
                int year = w;
                while (year % 100 != figures[r]) {
                    year++;
                }
                CHECK.due("7 row " + r + " from " + w, x.read(r, 0, 0), x.number(1, 1, year));
            }
        }
        CHECK.due("7 the highest", x.count(3), 2100);
        CHECK.due("7 no style without y", x.read(0, 1, 0), -1);
        windowAndDays();
    }

    /** The window decides whether there is such a day, and which weekday it is. */
    private static void windowAndDays() {
        DayColumn x = Check.rows(Check.styles("D/M/y", "W D/M/y"), "29/2/00", "tue 3/4/01");
        CHECK.due("7 29/2/2000", x.day(0, 0), x.number(29, 2, 2000));
        CHECK.due("7 tue in 2001", x.read(1, 1, 0), x.number(3, 4, 2001));
        x.window(1900);
        CHECK.due("7 no 29/2/1900", x.read(0, 0, 0), -1);
        CHECK.due("7 no 29/2/1900 in BEST", x.day(0, 0), -1);
        CHECK.due("7 wed in 1901", x.read(1, 1, 0), -1);
        x.window(1901);
        CHECK.due("7 29/2/2000 again", x.read(0, 0, 1), x.number(29, 2, 2000));
    }

    private static void wrongArguments() {
        DayColumn x = Check.rows(Check.styles("D/M/Y"), "3/4/2001");
        int[] bad = {-1, 1, 8, 30, Integer.MIN_VALUE, Integer.MAX_VALUE};
        for (int b : bad) {
            CHECK.due("9 no row " + b, x.read(b, 0, 0), -1);
            CHECK.due("9 no style " + b, x.read(0, b, 0), -1);
            CHECK.due("10 no row " + b, x.readings(b), -1);
        }
        for (int b : new int[] {-1, 2, Integer.MIN_VALUE, Integer.MAX_VALUE}) {
            CHECK.due("9 what " + b, x.read(0, 0, b), -1);
        }
    }

    private static void readings() {
        DayColumn x = Check.rows(new DayColumn(), "3/4/2001", "4/4/2001", "x", "24/4/2001", "4/2001");
        CHECK.due("10 no styles", x.readings(0), 0);
        Check.style(x, "D/M/Y", 5);
        CHECK.due("10 one style", x.readings(0), 1);
        Check.style(x, "M/D/Y", 0);
        Check.style(x, "D/M/Y", 9);
        Check.style(x, "M/Y", 9);
        Check.style(x, "Y-M-D", 9);
        CHECK.due("10 two unlike", x.readings(0), 2);
        CHECK.due("10 alike", x.readings(1), 1);
        CHECK.due("10 none", x.readings(2), 0);
        CHECK.due("10 one", x.readings(3), 1);
        CHECK.due("10 a month", x.readings(4), 1);
        DayColumn z = Check.styles("D M y", "D y M", "M D y", "M y D", "y D M", "y M D", "D 2 M y", "M y");
        Check.rows(z, "01 02 03", "02 03", "10 11 12", "11 11 11");
        CHECK.due("10 six orders of three", z.readings(0), 6);
        CHECK.due("10 the eighth style", z.readings(1), 1);
        CHECK.due("10 all orders of 10 11 12", z.readings(2), 6);
        CHECK.due("10 all alike", z.readings(3), 1);
        DayColumn month = Check.rows(Check.styles("D/M/Y", "1/M/Y", "30/M/Y"), "1/4/2001", "30/4/2001");
        CHECK.due("10 a day and the month that begins with it", month.readings(0), 2);
        CHECK.due("10 a day and the month that ends with it", month.readings(1), 2);
        CHECK.due("14 unlike, so not sure", month.kind(0), 1);
        CHECK.due("15 unlike, so another way", month.second(0), 10);
    }

    /** Cells of 24 bytes that end in the middle of a part, behind a cell whose bytes would fit. */
    private static void fullCells() {
        String[] patterns = {"0123456789012345678M-Y", "01234567890123456789Y-M", "012345678901234567Y-N",
            "01234567890123456789M-y", "0123456789012345W M-Y", "0123456789012345678M Y ", "012345678901234567M-Y.."};
        for (String pattern : patterns) {
            DayColumn x = Check.styles(pattern);
            String written = Check.written(x, x.number(1, 10, 2001), 0) + "1234";
            for (int length = 0; length <= 24; length++) {
                x.clear();
                Check.row(x, "012345678901234567891234");
                Check.row(x, written.substring(0, length));
                boolean whole = length == written.length() - 4;
                CHECK.due("9 '" + pattern + "' " + length + " bytes", x.read(1, 0, 0) != -1, whole);
            }
        }
        DayColumn blanks = Check.rows(Check.styles("M Y "), "4 2001" + " ".repeat(18), "4 2001 ", " ".repeat(24));
        CHECK.due("9 blanks up to the 24th byte", blanks.read(0, 0, 0), blanks.number(1, 4, 2001));
        CHECK.due("9 fewer blanks behind more", blanks.read(1, 0, 0), blanks.number(1, 4, 2001));
        CHECK.due("9 blanks alone", blanks.read(2, 0, 0), -1);
    }
}
