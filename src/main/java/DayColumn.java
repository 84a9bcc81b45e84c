import java.util.NoSuchElementException;

/**
 * A reader of a column of days whose style is not known: the styles are told, every cell is read by
 * all of them, and the way through the whole column that costs least settles which style each row has.
 */
public final class DayColumn {
    /** There is none; refused. */
    public static final int NONE = -1;

    private static final int MOST_STYLES = 8;
    private static final int MOST_ROWS = 30;
    private static final int MOST_BYTES = 24;
    private static final int MOST_PRICE = 1000;
    private static final int LOWEST_WINDOW = 1900;
    private static final int HIGHEST_WINDOW = 2100;

    private static final int SURE = 0;
    private static final int WHOLE = 1;
    private static final int DOUBT = 2;
    private static final int NOT = 3;

    private final Tape tape;
    private final Texts patterns;
    private final Texts cells;
    private final Readings table;
    private final Ways ways;
    private final Pen pen;
    private int windowYear;
    private boolean settled;

    public DayColumn() {
        tape = new Tape();
        patterns = new Texts(MOST_STYLES);
        cells = new Texts(MOST_ROWS);
        table = new Readings(patterns, cells);
        ways = new Ways(table);
        pen = new Pen();
        windowYear = 1950;
        settled = false;
    }

    public int feed(int one, int other) {
        int more = Tape.bytesIn(one) + Tape.bytesIn(other);
        if (tape.length() + more > MOST_BYTES) {
            return NONE;
        }
        tape.append(one);
        tape.append(other);
        return tape.length();
    }

    public boolean end(int n) {
        return tape.cut(n);
    }

    public int style(int cost) {
        if (!isPrice(cost) || patterns.isFull() || !tape.isPattern()) {
            return NONE;
        }
        int style = patterns.add(tape);
        ways.setCost(style, cost);
        settled = false;
        return style;
    }

    public int row() {
        if (cells.isFull() || !tape.isText()) {
            return NONE;
        }
        int row = cells.add(tape);
        table.forget(row);
        settled = false;
        return row;
    }

    public void clear() {
        cells.removeAll();
        settled = false;
    }

    public boolean window(int year) {
        if (year < LOWEST_WINDOW || year > HIGHEST_WINDOW) {
            return false;
        }
        windowYear = year;
        settled = false;
        return true;
    }

    public boolean price(int which, int v) {
        if (!isPrice(v) || !ways.setPrice(which, v)) {
            return false;
        }
        settled = false;
        return true;
    }

    public int read(int row, int style, int what) {
        if (!cells.has(row) || !patterns.has(style)) {
            return NONE;
        }
        table.bring(row, windowYear);
        return table.edge(row, style, what);
    }

    public int readings(int row) {
        if (!cells.has(row)) {
            return NONE;
        }
        table.bring(row, windowYear);
        return table.unlike(row);
    }

    public int cost() {
        return settle() ? ways.leastCost() : NONE;
    }

    public int told(int row) {
        return settle() && cells.has(row) ? ways.styleOf(row) : NONE;
    }

    public int day(int row, int what) {
        return settle() && cells.has(row) ? table.edge(row, ways.styleOf(row), what) : NONE;
    }

    public int kind(int row) {
        return settle() && cells.has(row) ? kindOf(row) : NONE;
    }

    public int second(int row) {
        return settle() && cells.has(row) && isReadByBest(row) ? ways.leastOtherwise(row) : NONE;
    }

    public int many(int kind) {
        if (kind < SURE || kind > NOT || !settle()) {
            return NONE;
        }
        int found = 0;
        for (int row = 0; row < cells.size(); row++) {
            if (kindOf(row) == kind) {
                found++;
            }
        }
        return found;
    }

    public int spans() {
        if (!settle()) {
            return NONE;
        }
        int found = 1;
        for (int row = 1; row < cells.size(); row++) {
            if (ways.styleOf(row) != ways.styleOf(row - 1)) {
                found++;
            }
        }
        return found;
    }

    public int part(int day, int what) throws NoSuchElementException {
        if (!Calendar.isDay(day)) {
            throw new NoSuchElementException("no such day");
        }
        switch (what) {
            case 0:
                return Calendar.dayOfMonth(day);
            case 1:
                return Calendar.monthOf(day);
            case 2:
                return Calendar.yearOf(day);
            case 3:
                return Calendar.weekdayOf(day);
            default:
                throw new NoSuchElementException("no such part of a day");
        }
    }

    public int number(int day, int month, int year) {
        return Calendar.dayNumber(day, month, year);
    }

    public int write(int day, int style, int i) {
        if (!Calendar.isDay(day) || !patterns.has(style)) {
            return NONE;
        }
        pen.setDown(day, patterns, style);
        return pen.byteAt(i);
    }

    public int same(int row) {
        if (!settle() || !cells.has(row) || !isReadByBest(row)) {
            return NONE;
        }
        int style = ways.styleOf(row);
        pen.setDown(table.edge(row, style, 0), patterns, style);
        return pen.equalsText(cells, row) ? 1 : 0;
    }

    public int count(int what) {
        switch (what) {
            case 0:
                return patterns.size();
            case 1:
                return cells.size();
            case 2:
                return tape.length();
            case 3:
                return windowYear;
            default:
                return NONE;
        }
    }

    private static boolean isPrice(int v) {
        return v >= 0 && v <= MOST_PRICE;
    }

    /** False where there is no BEST; the work is put off until an answer needs it, as most calls need none. */
    private boolean settle() {
        if (patterns.size() == 0 || cells.size() == 0) {
            return false;
        }
        if (!settled) {
            for (int row = 0; row < cells.size(); row++) {
                table.bring(row, windowYear);
            }
            ways.settle(cells.size(), patterns.size());
            settled = true;
        }
        return true;
    }

    private boolean isReadByBest(int row) {
        return table.isRead(row, ways.styleOf(row));
    }

    private int kindOf(int row) {
        if (!isReadByBest(row)) {
            return NOT;
        }
        if (table.unlike(row) == 1) {
            return SURE;
        }
        return ways.leastOtherwise(row) == ways.leastCost() ? DOUBT : WHOLE;
    }

    /** Days as numbers from the 1st of January 1900 to the 31st of December 2199. */
    private static final class Calendar {
        private static final int FIRST_YEAR = 1900;
        private static final int LAST_YEAR = 2199;
        private static final int LAST_DAY = 109572;
        private static final int MONTHS = 12;
        private static final int FEBRUARY = 2;
        private static final int LEAP_YEARS_BEFORE_1900 = 460;
        private static final int[] MONTH_LENGTHS = {31, 28, 31, 30, 31, 30, 31, 31, 30, 31, 30, 31};

        static boolean isDay(int day) {
            return day >= 0 && day <= LAST_DAY;
        }

        static int dayNumber(int dayOfMonth, int month, int year) {
            if (year < FIRST_YEAR || year > LAST_YEAR || dayOfMonth < 1
                    || dayOfMonth > monthLength(month, year)) {
                return NONE;
            }
            int number = yearStart(year) + dayOfMonth - 1;
            for (int m = 1; m < month; m++) {
                number += monthLength(m, year);
            }
            return number;
        }

        /** 0 for what is no month, so that no day is found in it. */
        static int monthLength(int month, int year) {
            if (month < 1 || month > MONTHS) {
                return 0;
            }
            boolean leap = year % 4 == 0 && year % 100 != 0 || year % 400 == 0;
            return month == FEBRUARY && leap ? 29 : MONTH_LENGTHS[month - 1];
        }

        static int yearOf(int day) {
            // Years of 366 days alone would end late, so this begins at or ahead of the year sought.
            int year = FIRST_YEAR + day / 366;
            while (year < LAST_YEAR && yearStart(year + 1) <= day) {
                year++;
            }
            return year;
        }

        static int monthOf(int day) {
            int year = yearOf(day);
            int rest = day - yearStart(year);
            int month = 1;
            while (month < MONTHS && rest >= monthLength(month, year)) {
                rest -= monthLength(month, year);
                month++;
            }
            return month;
        }

        static int dayOfMonth(int day) {
            return day - dayNumber(1, monthOf(day), yearOf(day)) + 1;
        }

        static int weekdayOf(int day) {
            return day % 7;
        }

        private static int yearStart(int year) {
            int past = year - 1;
            int leapYears = past / 4 - past / 100 + past / 400 - LEAP_YEARS_BEFORE_1900;
            return (year - FIRST_YEAR) * 365 + leapYears;
        }
    }

    /** The words of months and weekdays, three small letters each, one behind the other. */
    private static final class Words {
        static final int LETTERS = 3;
        static final char[] MONTHS = {
            'j', 'a', 'n', 'f', 'e', 'b', 'm', 'a', 'r', 'a', 'p', 'r', 'm', 'a', 'y', 'j', 'u', 'n',
            'j', 'u', 'l', 'a', 'u', 'g', 's', 'e', 'p', 'o', 'c', 't', 'n', 'o', 'v', 'd', 'e', 'c'};
        static final char[] WEEKDAYS = {
            'm', 'o', 'n', 't', 'u', 'e', 'w', 'e', 'd', 't', 'h', 'u', 'f', 'r', 'i', 's', 'a', 't',
            's', 'u', 'n'};
    }

    /** The bytes that came in and are not yet a pattern or a cell. */
    private static final class Tape {
        private final int[] bytes;
        private int length;

        Tape() {
            bytes = new int[MOST_BYTES];
            length = 0;
        }

        static int bytesIn(int number) {
            int found = 0;
            for (int shift = 24; shift >= 0; shift -= 8) {
                if ((number >>> shift & 255) != 0) {
                    found++;
                }
            }
            return found;
        }

        int length() {
            return length;
        }

        int byteAt(int i) {
            return i < 0 || i >= length ? NONE : bytes[i];
        }

        void append(int number) {
            for (int shift = 24; shift >= 0; shift -= 8) {
                int next = number >>> shift & 255;
                if (next != 0 && length < MOST_BYTES) {
                    bytes[length] = next;
                    length++;
                }
            }
        }

        boolean cut(int n) {
            if (n < 0 || n > length) {
                return false;
            }
            length = n;
            return true;
        }

        boolean isText() {
            for (int i = 0; i < length; i++) {
                if (bytes[i] < 32 || bytes[i] > 126) {
                    return false;
                }
            }
            return true;
        }

        boolean isPattern() {
            int days = countOf('D');
            int months = countOf('M') + countOf('N');
            int years = countOf('Y') + countOf('y');
            int weekdays = countOf('W');
            return isText() && days <= 1 && months == 1 && years == 1 && weekdays <= 1;
        }

        private int countOf(int part) {
            int found = 0;
            for (int i = 0; i < length; i++) {
                if (bytes[i] == part) {
                    found++;
                }
            }
            return found;
        }
    }

    /** Texts of 24 bytes at most; all lie in one array, so that an object of the face stays small. */
    private static final class Texts {
        private final int[] bytes;
        private final int[] lengths;
        private int size;

        Texts(int most) {
            int room = Math.max(0, Math.min(most, MOST_ROWS));
            bytes = new int[room * MOST_BYTES];
            lengths = new int[room];
            size = 0;
        }

        int size() {
            return size;
        }

        boolean isFull() {
            return size >= lengths.length;
        }

        boolean has(int text) {
            return text >= 0 && text < size;
        }

        /** Takes the tape's bytes away from it; the number of the new text, NONE if there is no room. */
        int add(Tape tape) {
            if (isFull()) {
                return NONE;
            }
            int text = size;
            int length = tape.length();
            for (int i = 0; i < length && i < MOST_BYTES; i++) {
                bytes[text * MOST_BYTES + i] = tape.byteAt(i);
            }
            lengths[text] = length;
            size++;
            tape.cut(0);
            return text;
        }

        void removeAll() {
            size = 0;
        }

        int lengthOf(int text) {
            return has(text) ? lengths[text] : 0;
        }

        int byteAt(int text, int i) {
            return i < 0 || i >= lengthOf(text) ? NONE : bytes[text * MOST_BYTES + i];
        }
    }

    /** Reads one cell by one pattern; the span found stands here until the next reading. */
    private static final class Reader {
        private final int[] cell;
        private int length;
        private int at;
        private int dayOfMonth;
        private int month;
        private int year;
        private int weekday;
        private int first;
        private int last;

        Reader() {
            cell = new int[MOST_BYTES];
            length = 0;
        }

        int first() {
            return first;
        }

        int last() {
            return last;
        }

        void hold(Texts cells, int row) {
            length = Math.min(cells.lengthOf(row), MOST_BYTES);
            for (int i = 0; i < length; i++) {
                cell[i] = cells.byteAt(row, i);
            }
        }

        /** Reads the cell that is held; the span is NONE to NONE then if it is not read. */
        void scan(Texts patterns, int style, int window) {
            at = 0;
            dayOfMonth = NONE;
            month = NONE;
            year = NONE;
            weekday = NONE;
            first = NONE;
            last = NONE;
            int parts = patterns.lengthOf(style);
            boolean fits = true;
            for (int i = 0; i < parts && fits; i++) {
                fits = take(patterns.byteAt(style, i), window);
            }
            if (fits && at == length) {
                findSpan();
            }
        }

        private boolean take(int part, int window) {
            switch (part) {
                case 'D':
                    dayOfMonth = takeDigits(digitsHere());
                    return dayOfMonth != NONE;
                case 'M':
                    month = takeDigits(digitsHere());
                    return month != NONE;
                case 'N':
                    month = 1 + takeWord(Words.MONTHS);
                    return month >= 1;
                case 'Y':
                    year = takeDigits(4);
                    return year != NONE;
                case 'y':
                    year = takeShortYear(window);
                    return year != NONE;
                case 'W':
                    weekday = takeWord(Words.WEEKDAYS);
                    return weekday != NONE;
                case ' ':
                    return takeBlanks();
                default:
                    return takeByte(part);
            }
        }

        /** How many digits a day or a month takes here: two if the second byte is a digit. */
        private int digitsHere() {
            int next = at + 1;
            return next < length && cell[next] >= '0' && cell[next] <= '9' ? 2 : 1;
        }

        private int takeDigits(int many) {
            if (many > length - at) {
                return NONE;
            }
            int value = 0;
            for (int i = at; i < at + many; i++) {
                if (cell[i] < '0' || cell[i] > '9') {
                    return NONE;
                }
                value = value * 10 + cell[i] - '0';
            }
            at += many;
            return value;
        }

        private int takeShortYear(int window) {
            int figures = takeDigits(2);
            return figures == NONE ? NONE : window + Math.floorMod(figures - window, 100);
        }

        private int takeWord(char[] words) {
            int many = words.length / Words.LETTERS;
            for (int word = 0; word < many; word++) {
                if (standsHere(words, word * Words.LETTERS)) {
                    at += Words.LETTERS;
                    return word;
                }
            }
            return NONE;
        }

        private boolean standsHere(char[] words, int start) {
            if (length - at < Words.LETTERS || start < 0 || words.length - start < Words.LETTERS) {
                return false;
            }
            for (int i = 0; i < Words.LETTERS; i++) {
                int b = cell[at + i];
                int small = b >= 'A' && b <= 'Z' ? b - 'A' + 'a' : b;
                if (small != words[start + i]) {
                    return false;
                }
            }
            return true;
        }

        /** One blank of the pattern takes all blanks that stand here, so a second one behind it finds none. */
        private boolean takeBlanks() {
            int start = at;
            while (at < length && cell[at] == ' ') {
                at++;
            }
            return at > start;
        }

        private boolean takeByte(int wanted) {
            if (at >= length || cell[at] != wanted) {
                return false;
            }
            at++;
            return true;
        }

        private void findSpan() {
            boolean wholeMonth = dayOfMonth == NONE;
            int start = Calendar.dayNumber(wholeMonth ? 1 : dayOfMonth, month, year);
            if (start == NONE || weekday != NONE && weekday != Calendar.weekdayOf(start)) {
                return;
            }
            first = start;
            last = wholeMonth ? start + Calendar.monthLength(month, year) - 1 : start;
        }
    }

    /** What each row says by each style; a row is read again only by new styles, or if the window moved. */
    private static final class Readings {
        private final Texts patterns;
        private final Texts cells;
        private final Reader reader;
        private final int[] first;
        private final int[] last;
        private final int[] stylesRead;
        private final int[] windowRead;

        Readings(Texts patterns, Texts cells) {
            this.patterns = patterns;
            this.cells = cells;
            reader = new Reader();
            first = new int[MOST_ROWS * MOST_STYLES];
            last = new int[MOST_ROWS * MOST_STYLES];
            stylesRead = new int[MOST_ROWS];
            windowRead = new int[MOST_ROWS];
        }

        void forget(int row) {
            if (row >= 0 && row < MOST_ROWS) {
                stylesRead[row] = 0;
            }
        }

        void bring(int row, int window) {
            if (row < 0 || row >= MOST_ROWS) {
                return;
            }
            int styles = Math.min(patterns.size(), MOST_STYLES);
            int start = windowRead[row] == window ? stylesRead[row] : 0;
            if (start < styles) {
                reader.hold(cells, row);
            }
            for (int style = start; style < styles; style++) {
                reader.scan(patterns, style, window);
                first[row * MOST_STYLES + style] = reader.first();
                last[row * MOST_STYLES + style] = reader.last();
            }
            stylesRead[row] = styles;
            windowRead[row] = window;
        }

        /** The first (0) or last (1) day of a span; NONE if the row is not read so. */
        int edge(int row, int style, int which) {
            if (row < 0 || row >= MOST_ROWS || style < 0 || style >= MOST_STYLES || which < 0 || which > 1) {
                return NONE;
            }
            int slot = row * MOST_STYLES + style;
            return which == 0 ? first[slot] : last[slot];
        }

        boolean isRead(int row, int style) {
            return edge(row, style, 0) != NONE;
        }

        boolean isAlike(int row, int style, int other) {
            return edge(row, style, 0) == edge(row, other, 0) && edge(row, style, 1) == edge(row, other, 1);
        }

        /** How many unlike spans all styles say of a row. */
        int unlike(int row) {
            int found = 0;
            for (int style = 0; style < patterns.size(); style++) {
                if (isRead(row, style) && !isSaidAhead(row, style)) {
                    found++;
                }
            }
            return found;
        }

        private boolean isSaidAhead(int row, int style) {
            for (int other = 0; other < style; other++) {
                if (isAlike(row, other, style)) {
                    return true;
                }
            }
            return false;
        }
    }

    /** The costs of all ways, and the best one. */
    private static final class Ways {
        private static final int CHANGE = 0;
        private static final int MISS = 1;
        private static final int BREAK = 2;

        private final Readings table;
        private final int[] costs;
        private final int[] prices;
        private final int[] ahead;
        private final int[] behind;
        private final int[] best;
        private int rows;
        private int styles;

        Ways(Readings table) {
            this.table = table;
            costs = new int[MOST_STYLES];
            prices = new int[] {20, 10, 5};
            ahead = new int[MOST_ROWS * MOST_STYLES];
            behind = new int[MOST_ROWS * MOST_STYLES];
            best = new int[MOST_ROWS];
            rows = 0;
            styles = 0;
        }

        void setCost(int style, int cost) {
            if (style >= 0 && style < costs.length) {
                costs[style] = cost;
            }
        }

        boolean setPrice(int which, int v) {
            if (which < 0 || which >= prices.length) {
                return false;
            }
            prices[which] = v;
            return true;
        }

        void settle(int rowCount, int styleCount) {
            rows = Math.max(0, Math.min(rowCount, MOST_ROWS));
            styles = Math.max(0, Math.min(styleCount, MOST_STYLES));
            for (int row = 0; row < rows; row++) {
                addUpAhead(row);
            }
            for (int row = rows - 1; row >= 0; row--) {
                addUpBehind(row);
            }
            for (int row = 0; row < rows; row++) {
                best[row] = cheapestStyle(row);
            }
        }

        int styleOf(int row) {
            return row < 0 || row >= rows ? NONE : best[row];
        }

        int leastCost() {
            return through(0, styleOf(0));
        }

        /** The least cost of the ways that do not read a row as the best one does; NONE if there are none. */
        int leastOtherwise(int row) {
            int told = styleOf(row);
            int least = NONE;
            for (int style = 0; style < styles; style++) {
                if (!table.isAlike(row, told, style)) {
                    int cost = through(row, style);
                    least = least == NONE ? cost : Math.min(least, cost);
                }
            }
            return least;
        }

        /** The least cost of the ways that tell a row a style. */
        private int through(int row, int style) {
            if (row < 0 || row >= rows || style < 0 || style >= styles) {
                return NONE;
            }
            return ahead[row * MOST_STYLES + style] + behind[row * MOST_STYLES + style];
        }

        /** For each style of a row: the least cost of the rows up to this one, this one too. */
        private void addUpAhead(int row) {
            for (int style = 0; style < styles; style++) {
                int least = row == 0 ? costs[style] + missOf(row, style) : NONE;
                for (int from = 0; from < styles && row > 0; from++) {
                    int cost = ahead[(row - 1) * MOST_STYLES + from] + step(row, from, style);
                    least = least == NONE ? cost : Math.min(least, cost);
                }
                ahead[row * MOST_STYLES + style] = least;
            }
        }

        /** For each style of a row: the least cost of the rows behind this one. */
        private void addUpBehind(int row) {
            for (int style = 0; style < styles; style++) {
                int least = row == rows - 1 ? 0 : NONE;
                for (int to = 0; to < styles && row < rows - 1; to++) {
                    int cost = step(row + 1, style, to) + behind[(row + 1) * MOST_STYLES + to];
                    least = least == NONE ? cost : Math.min(least, cost);
                }
                behind[row * MOST_STYLES + style] = least;
            }
        }

        /** The lowest of the styles that cost least behind what the rows ahead were told. */
        private int cheapestStyle(int row) {
            int cheapest = 0;
            int least = NONE;
            for (int style = 0; style < styles; style++) {
                int own = row == 0 ? costs[style] + missOf(row, style) : step(row, best[row - 1], style);
                int cost = own + behind[row * MOST_STYLES + style];
                if (least == NONE || cost < least) {
                    least = cost;
                    cheapest = style;
                }
            }
            return cheapest;
        }

        /** What a row told a style adds behind a row ahead told another (or the same) one. */
        private int step(int row, int from, int to) {
            int cost = missOf(row, to);
            if (from != to) {
                cost += prices[CHANGE] + costs[to];
            }
            return breaksOrder(row, from, to) ? cost + prices[BREAK] : cost;
        }

        private int missOf(int row, int style) {
            return table.edge(row, style, 0) == NONE ? prices[MISS] : 0;
        }

        /** A row ahead that is not read begins at NONE, which is never behind an end. */
        private boolean breaksOrder(int row, int from, int to) {
            int end = table.edge(row, to, 1);
            return end != NONE && table.edge(row - 1, from, 0) > end;
        }
    }

    /** Writes one day by one pattern; what it wrote stands here until the next writing. */
    private static final class Pen {
        /** A pattern's 24 bytes, and what Y (3), D (1), N (2) and W (2) take more than their one byte. */
        private static final int MOST_WRITTEN = 32;

        private final int[] bytes;
        private int length;

        Pen() {
            bytes = new int[MOST_WRITTEN];
            length = 0;
        }

        int byteAt(int i) {
            return i < 0 || i >= length ? NONE : bytes[i];
        }

        boolean equalsText(Texts texts, int text) {
            if (length != texts.lengthOf(text)) {
                return false;
            }
            for (int i = 0; i < length; i++) {
                if (byteAt(i) != texts.byteAt(text, i)) {
                    return false;
                }
            }
            return true;
        }

        void setDown(int day, Texts patterns, int style) {
            length = 0;
            int parts = patterns.lengthOf(style);
            for (int i = 0; i < parts; i++) {
                putPart(patterns.byteAt(style, i), day);
            }
        }

        private void putPart(int part, int day) {
            switch (part) {
                case 'D':
                    putShort(Calendar.dayOfMonth(day));
                    break;
                case 'M':
                    putShort(Calendar.monthOf(day));
                    break;
                case 'N':
                    putWord(Words.MONTHS, Calendar.monthOf(day) - 1);
                    break;
                case 'Y':
                    putTwo(Calendar.yearOf(day) / 100);
                    putTwo(Calendar.yearOf(day) % 100);
                    break;
                case 'y':
                    putTwo(Calendar.yearOf(day) % 100);
                    break;
                case 'W':
                    putWord(Words.WEEKDAYS, Calendar.weekdayOf(day));
                    break;
                default:
                    putByte(part);
                    break;
            }
        }

        private void putShort(int value) {
            if (value >= 10) {
                putTwo(value);
            } else {
                putByte('0' + value);
            }
        }

        private void putTwo(int value) {
            putByte('0' + value / 10);
            putByte('0' + value % 10);
        }

        private void putWord(char[] words, int word) {
            int start = word * Words.LETTERS;
            for (int i = start; i < start + Words.LETTERS && i >= 0 && i < words.length; i++) {
                putByte(words[i]);
            }
        }

        private void putByte(int b) {
            if (length < bytes.length) {
                bytes[length] = b;
                length++;
            }
        }
    }
}
