/** Compares answers with what is due, and puts texts on a column's tape. */
final class Check {
    private final String name;
    private int asked = 0;
    private int wrong = 0;

    Check(String name) {
        this.name = name;
    }

    void due(String call, long got, long want) {
        asked++;
        if (got != want) {
            wrong++;
            System.out.println(name + ": " + call + " answered " + got + ", due is " + want);
        }
    }

    void due(String call, boolean got, boolean want) {
        due(call, got ? 1 : 0, want ? 1 : 0);
    }

    /** Ends the test: exit code 1 if one answer was not the one due. */
    void finish() {
        System.out.println(name + ": " + asked + " answers, " + wrong + " of them wrong");
        if (wrong != 0 || asked == 0) {
            System.exit(1);
        }
    }

    /** The tape holds just this text afterwards. */
    static void put(DayColumn x, String text) {
        x.end(0);
        for (int i = 0; i < text.length(); i += 8) {
            x.feed(four(text, i), four(text, i + 4));
        }
    }

    static int style(DayColumn x, String pattern, int cost) {
        put(x, pattern);
        return x.style(cost);
    }

    static int row(DayColumn x, String cell) {
        put(x, cell);
        return x.row();
    }

    /** A column of these styles, all of cost 0. */
    static DayColumn styles(String... patterns) {
        DayColumn x = new DayColumn();
        for (String pattern : patterns) {
            style(x, pattern, 0);
        }
        return x;
    }

    static DayColumn rows(DayColumn x, String... cells) {
        for (String cell : cells) {
            row(x, cell);
        }
        return x;
    }

    /** What write answers for i = 0, 1, .. up to the first NONE. */
    static String written(DayColumn x, int day, int style) {
        StringBuilder text = new StringBuilder();
        for (int i = 0; i < 40; i++) {
            int b = x.write(day, style, i);
            if (b == DayColumn.NONE) {
                break;
            }
            text.append((char) b);
        }
        return text.toString();
    }

    /** Four bytes of a text as a number, 0 for those behind its end. */
    static int four(String text, int at) {
        int number = 0;
        for (int i = at; i < at + 4; i++) {
            number = number << 8 | (i < text.length() ? text.charAt(i) : 0);
        }
        return number;
    }
}
