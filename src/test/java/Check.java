import java.time.LocalDate;
import java.time.temporal.ChronoUnit;
import java.util.NoSuchElementException;

/** Compares answers with what is due, and puts texts on a column's tape. */
final class Check {
    private final String name;
    private int asked = 0;
    private int wrong = 0;

    Check(String name) {
        this.name = name;
    }

    void due(String call, long got, long want) {
        asked++;
        if (got != want) {
            wrong++;
            System.out.println(name + ": " + call + " answered " + got + ", due is " + want);
        }
    }

    void due(String call, boolean got, boolean want) {
        due(call, got ? 1 : 0, want ? 1 : 0);
    }

    void due(String call, String got, String want) {
        due(call + " (it gave '" + got + "', due is '" + want + "')", got.equals(want), true);
    }

    /** A cell that a pattern reads as one day. */
    void reads(String pattern, String cell, int day, int month, int year) {
        DayColumn x = rows(styles(pattern), cell);
        int want = number(day, month, year);
        due("first day of '" + cell + "' by '" + pattern + "'", x.read(0, 0, 0), want);
        due("last day of '" + cell + "' by '" + pattern + "'", x.read(0, 0, 1), want);
    }

    /** A cell that a pattern reads as a whole month of so many days. */
    void readsMonth(String pattern, String cell, int month, int year, int length) {
        DayColumn x = rows(styles(pattern), cell);
        int want = number(1, month, year);
        due("first day of '" + cell + "' by '" + pattern + "'", x.read(0, 0, 0), want);
        due("last day of '" + cell + "' by '" + pattern + "'", x.read(0, 0, 1), want + length - 1);
    }

    void readsNot(String pattern, String cell) {
        DayColumn x = rows(styles(pattern), cell);
        due("first day of '" + cell + "' by '" + pattern + "'", x.read(0, 0, 0), -1);
        due("last day of '" + cell + "' by '" + pattern + "'", x.read(0, 0, 1), -1);
    }

    /** Whether there were answers, and all were those due. */
    boolean isClean() {
        return asked > 0 && wrong == 0;
    }

    /** Ends the test: exit code 1 if one answer was not the one due. */
    void finish() {
        System.out.println(name + ": " + asked + " answers, " + wrong + " of them wrong");
        if (!isClean()) {
            System.exit(1);
        }
    }

    /** The tape holds just this text afterwards. */
    static void put(DayColumn x, String text) {
        x.end(0);
        for (int i = 0; i < text.length(); i += 8) {
            x.feed(four(text, i), four(text, i + 4));
        }
    }

    static int style(DayColumn x, String pattern, int cost) {
        put(x, pattern);
        return x.style(cost);
    }

    static int row(DayColumn x, String cell) {
        put(x, cell);
        return x.row();
    }

    /** A column of these styles, all of cost 0. */
    static DayColumn styles(String... patterns) {
        DayColumn x = new DayColumn();
        for (String pattern : patterns) {
            style(x, pattern, 0);
        }
        return x;
    }

    static DayColumn rows(DayColumn x, String... cells) {
        for (String cell : cells) {
            row(x, cell);
        }
        return x;
    }

    /** The number of a day by java.time, so that a test of reading does not lean on the class's own count. */
    static int number(int day, int month, int year) {
        return (int) ChronoUnit.DAYS.between(LocalDate.of(1900, 1, 1), LocalDate.of(year, month, day));
    }

    static boolean partThrows(DayColumn x, int day, int what) {
        try {
            x.part(day, what);
            return false;
        } catch (NoSuchElementException e) {
            return true;
        }
    }

    /** What write answers for i = 0, 1, .. up to the first NONE. */
    static String written(DayColumn x, int day, int style) {
        StringBuilder text = new StringBuilder();
        for (int i = 0; i < 40; i++) {
            int b = x.write(day, style, i);
            if (b == DayColumn.NONE) {
                break;
            }
            text.append((char) b);
        }
        return text.toString();
    }

    /** Four bytes of a text as a number, 0 for those behind its end. */
    static int four(String text, int at) {
        int number = 0;
        for (int i = at; i < at + 4; i++) {
            number = number << 8 | (i < text.length() ? text.charAt(i) : 0);
        }
        return number;
    }
}
