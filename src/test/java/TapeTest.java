/** Promises 1 to 6 and 22: a new object, the tape, styles, rows, clear, count. */
public final class TapeTest {
    private static final Check CHECK = new Check("TapeTest");

    public static void main(String[] args) {
        newObject();
        feed();
        end();
        style();
        patterns();
        row();
        clear();
        count();
        CHECK.finish();
    }

    private static void newObject() {
        DayColumn x = new DayColumn();
        CHECK.due("1 styles", x.count(0), 0);
        CHECK.due("1 rows", x.count(1), 0);
        CHECK.due("1 tape", x.count(2), 0);
        CHECK.due("1 window", x.count(3), 1950);
        CHECK.due("1 cost", x.cost(), -1);
        CHECK.due("1 readings", x.readings(0), -1);
        CHECK.due("1 write", x.write(0, 0, 0), -1);
    }

    private static void feed() {
        DayColumn x = new DayColumn();
        CHECK.due("2 zeros", x.feed(0, 0), 0);
        CHECK.due("2 zeros between", x.feed(0x00440000, 0x2F004D00), 3);
        CHECK.due("2 highest byte", x.feed(0x2F000000, 0x00000059), 5);
        CHECK.due("2 order is one, other, highest first", x.style(0), 0);
        CHECK.due("2 order as written", Check.written(x, 0, 0).equals("1/1/1900"), true);
        CHECK.due("2 eight", x.feed(-1, -1), 8);
        CHECK.due("2 sixteen", x.feed(0x80808080, 0x01010101), 16);
        CHECK.due("2 twenty-three", x.feed(0x41414141, 0x41414100), 23);
        CHECK.due("2 over 24", x.feed(0x41000000, 0x00000041), -1);
        CHECK.due("2 refused changes nothing", x.count(2), 23);
        CHECK.due("2 the 24th", x.feed(0, 0x00410000), 24);
        CHECK.due("2 the 25th", x.feed(0, 1), -1);
        CHECK.due("2 nothing more fits a full tape", x.feed(0, 0), 24);
    }

    private static void end() {
        DayColumn x = new DayColumn();
        Check.put(x, "D/M/Yabc");
        CHECK.due("3 more than it has", x.end(9), false);
        CHECK.due("3 below 0", x.end(-1), false);
        CHECK.due("3 lowest int", x.end(Integer.MIN_VALUE), false);
        CHECK.due("3 highest int", x.end(Integer.MAX_VALUE), false);
        CHECK.due("3 refused changes nothing", x.count(2), 8);
        CHECK.due("3 all", x.end(8), true);
        CHECK.due("3 first five", x.end(5), true);
        CHECK.due("3 five stand", x.count(2), 5);
        CHECK.due("3 what was cut is gone", x.end(6), false);
        CHECK.due("3 style of the first five", x.style(0), 0);
        CHECK.due("3 those five", Check.written(x, 0, 0).equals("1/1/1900"), true);
        CHECK.due("3 nothing of nothing", x.end(0), true);
    }

    private static void style() {
        DayColumn x = new DayColumn();
        Check.put(x, "D/M/Y");
        CHECK.due("4 cost below 0", x.style(-1), -1);
        CHECK.due("4 cost over 1000", x.style(1001), -1);
        CHECK.due("4 refused leaves the tape", x.count(2), 5);
        CHECK.due("4 cost 1000", x.style(1000), 0);
        CHECK.due("4 the tape is empty then", x.count(2), 0);
        CHECK.due("4 an empty tape is none", x.style(0), -1);
        for (int i = 1; i < 8; i++) {
            CHECK.due("4 style " + i, Check.style(x, "M/Y", 0), i);
        }
        CHECK.due("4 the ninth", Check.style(x, "M/Y", 0), -1);
        CHECK.due("4 the ninth leaves the tape", x.count(2), 3);
        CHECK.due("4 eight stand", x.count(0), 8);
        CHECK.due("4 a row", Check.row(x, "1/2/2003"), 0);
        CHECK.due("4 COST counts", x.cost(), 10);
    }

    private static void patterns() {
        String[] good = {"MY", "My", "NY", "Ny", "WDNy", "W, D. N Y", "yM", "dmnw M:Y", "   M   Y   ",
            "~M Y!", "0M1Y2", "MY3456789012345678901234"};
        String[] bad = {"", "D", "M", "Y", "y", "N", "W", "DM", "DY", "D/D/M/Y", "M/M/Y", "N/N/Y", "M/N/Y",
            "M/Y/Y", "M/y/y", "M/Y/y", "W W M Y", "WW DMY", "m/Y", "D/m/y", "M\tY", "MY\u007f", "MY\u001f",
            "MY\u0080", "MY\u00ff"};
        for (String pattern : good) {
            DayColumn x = new DayColumn();
            CHECK.due("4 pattern '" + pattern + "'", Check.style(x, pattern, 0), 0);
            CHECK.due("4 styles", x.count(0), 1);
        }
        for (String pattern : bad) {
            DayColumn x = new DayColumn();
            CHECK.due("4 no pattern '" + pattern + "'", Check.style(x, pattern, 0), -1);
            CHECK.due("4 no styles", x.count(0), 0);
            CHECK.due("4 the tape stands", x.count(2), pattern.length());
        }
    }

    private static void row() {
        DayColumn x = Check.styles("D/M/Y");
        CHECK.due("5 an empty cell", x.row(), 0);
        CHECK.due("5 it says nothing", x.read(0, 0, 0), -1);
        CHECK.due("5 24 bytes, the lowest and highest", Check.row(x, " ~3456789012345678901234"), 1);
        CHECK.due("5 the tape is empty then", x.count(2), 0);
        for (String text : new String[] {"1/2/2003\n", "\u001f", "\u007f", "\u0080", "\u00ff1/2/2003", "1\u00012"}) {
            CHECK.due("5 a byte that is none", Check.row(x, text), -1);
            CHECK.due("5 refused leaves the tape", x.count(2), text.length());
            CHECK.due("5 refused adds no row", x.count(1), 2);
        }
        for (int i = 2; i < 30; i++) {
            CHECK.due("5 row " + i, Check.row(x, i + "/2/2003"), i);
        }
        CHECK.due("5 the thirty-first", Check.row(x, "1/2/2003"), -1);
        CHECK.due("5 the tape stands", x.count(2), 8);
        CHECK.due("5 thirty stand", x.count(1), 30);
        CHECK.due("5 rows stand in order", x.read(7, 0, 0), x.number(7, 2, 2003));
        CHECK.due("5 the last row", x.read(29, 0, 0), -1);
        CHECK.due("5 row 28", x.read(28, 0, 1), x.number(28, 2, 2003));
    }

    private static void clear() {
        DayColumn x = Check.rows(Check.styles("D/M/Y", "M/D/Y"), "3/4/2001", "24/4/2001");
        x.window(2000);
        x.price(1, 7);
        Check.put(x, "25/4/2001");
        CHECK.due("6 a cost ahead", x.cost(), 0);
        x.clear();
        CHECK.due("6 no rows", x.count(1), 0);
        CHECK.due("6 styles stay", x.count(0), 2);
        CHECK.due("6 the tape stays", x.count(2), 9);
        CHECK.due("6 the window stays", x.count(3), 2000);
        CHECK.due("6 no cost", x.cost(), -1);
        CHECK.due("6 no old row", x.read(0, 0, 0), -1);
        CHECK.due("6 no old kind", x.kind(0), -1);
        CHECK.due("6 numbers begin anew", x.row(), 0);
        CHECK.due("6 the new cell, not the old one", x.read(0, 0, 0), x.number(25, 4, 2001));
        CHECK.due("6 a shorter cell", Check.row(x, "x"), 1);
        CHECK.due("6 prices stay", x.cost(), 7);
        x.clear();
        x.clear();
        CHECK.due("6 twice", x.count(1), 0);
    }

    private static void count() {
        DayColumn x = Check.rows(Check.styles("D/M/Y", "M/D/Y"), "a", "b", "c");
        x.feed(0x41424344, 0);
        x.window(1999);
        CHECK.due("22 styles", x.count(0), 2);
        CHECK.due("22 rows", x.count(1), 3);
        CHECK.due("22 tape", x.count(2), 4);
        CHECK.due("22 window", x.count(3), 1999);
        for (int what : new int[] {-1, 4, 5, Integer.MIN_VALUE, Integer.MAX_VALUE}) {
            CHECK.due("22 none for " + what, x.count(what), -1);
        }
    }
}
