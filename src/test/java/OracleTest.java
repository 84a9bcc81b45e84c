import java.time.DateTimeException;
import java.time.LocalDate;
import java.time.temporal.ChronoUnit;
import java.util.ArrayList;
import java.util.HashSet;
import java.util.List;
import java.util.Locale;
import java.util.Random;
import java.util.regex.Matcher;
import java.util.regex.Pattern;

/**
 * Random columns against a second reader made another way: cells by regular expressions and java.time,
 * the best way by going through all ways there are. Promises 7 to 17 and 21.
 */
public final class OracleTest {
    static final String[] PATTERNS = {"D/M/Y", "M/D/Y", "D/M/y", "M/D/y", "y/M/D", "Y-M-D", "M/Y", "N Y", "M/y",
        "D N Y", "W D N Y", "W N Y", "W, D/M/y", "YMD", "yMD", "DMy", "D. N y",
        "1/M/Y", "28/M/y"};
    private static final Check CHECK = new Check("OracleTest");
    private static final String MONTHS = "janfebmaraprmayjunjulaugsepoctnovdec";
    private static final String WEEK = "montuewedthufrisatsun";
    private static final LocalDate ORIGIN = LocalDate.of(1900, 1, 1);

    public static void main(String[] args) {
        for (int seed = 0; seed < 4000; seed++) {
            new OracleTest(seed).go();
        }
        CHECK.finish();
    }

    private final int seed;
    private final Random random;
    private final DayColumn x = new DayColumn();
    private final List<String> patterns = new ArrayList<>();
    private final List<Integer> costs = new ArrayList<>();
    private final List<String> cells = new ArrayList<>();
    private final int[] prices = {20, 10, 5};
    private int window = 1950;

    private long[][] spans;
    private int least;
    private int[] best;
    private int[] otherwise;

    private OracleTest(int seed) {
        this.seed = seed;
        this.random = new Random(seed);
    }

    private void go() {
        for (int round = 0; round < 3; round++) {
            change();
            if (!patterns.isEmpty() && !cells.isEmpty()) {
                readAll();
                goThroughAllWays();
                compare();
            }
        }
    }

    private void change() {
        if (random.nextInt(4) == 0) {
            x.clear();
            cells.clear();
        }
        if (random.nextInt(2) == 0) {
            window = 1900 + random.nextInt(201);
            x.window(window);
        }
        for (int which = 0; which < 3; which++) {
            if (random.nextInt(3) == 0) {
                prices[which] = random.nextInt(random.nextBoolean() ? 6 : 40);
                x.price(which, prices[which]);
            }
        }
        int moreStyles = Math.min(random.nextInt(3), 4 - patterns.size());
        for (int i = 0; i < moreStyles; i++) {
            String pattern = PATTERNS[random.nextInt(PATTERNS.length)];
            int cost = random.nextInt(4) == 0 ? random.nextInt(20) : 0;
            CHECK.due("style", Check.style(x, pattern, cost), patterns.size());
            patterns.add(pattern);
            costs.add(cost);
        }
        int moreRows = Math.min(random.nextInt(4), 5 - cells.size());
        for (int i = 0; i < moreRows; i++) {
            String cell = anyCell();
            CHECK.due("row", Check.row(x, cell), cells.size());
            cells.add(cell);
        }
    }

    private String anyCell() {
        LocalDate day = LocalDate.of(1998 + random.nextInt(8), 1 + random.nextInt(12), 1 + random.nextInt(28));
        String pattern = patterns.isEmpty() || random.nextInt(5) == 0
                ? PATTERNS[random.nextInt(PATTERNS.length)] : patterns.get(random.nextInt(patterns.size()));
        StringBuilder cell = new StringBuilder();
        for (char c : pattern.toCharArray()) {
            cell.append(random.nextInt(60) == 0 ? "" : written(c, day));
        }
        return cell.length() > 24 ? cell.substring(0, 24) : cell.toString();
    }

    private String written(char c, LocalDate day) {
        String two = random.nextInt(4) == 0 ? "%02d" : "%d";
        switch (c) {
            case 'D': return String.format(two, day.getDayOfMonth());
            case 'M': return String.format(two, day.getMonthValue());
            case 'Y': return String.valueOf(day.getYear());
            case 'y': return String.format("%02d", day.getYear() % 100);
            case 'N': return anyCase(MONTHS.substring(day.getMonthValue() * 3 - 3, day.getMonthValue() * 3));
            case 'W': return anyCase(WEEK.substring(day.getDayOfWeek().getValue() * 3 - 3,
                    day.getDayOfWeek().getValue() * 3));
            case ' ': return random.nextInt(6) == 0 ? "  " : " ";
            default: return String.valueOf(c);
        }
    }

    private static String plain(String pattern, long number) {
        LocalDate day = ORIGIN.plusDays(number);
        int weekday = day.getDayOfWeek().getValue();
        StringBuilder text = new StringBuilder();
        for (char c : pattern.toCharArray()) {
            switch (c) {
                case 'D': text.append(day.getDayOfMonth()); break;
                case 'M': text.append(day.getMonthValue()); break;
                case 'Y': text.append(day.getYear()); break;
                case 'y': text.append(String.valueOf(day.getYear()).substring(2)); break;
                case 'N': text.append(MONTHS, day.getMonthValue() * 3 - 3, day.getMonthValue() * 3); break;
                case 'W': text.append(WEEK, weekday * 3 - 3, weekday * 3); break;
                default: text.append(c);
            }
        }
        return text.toString();
    }

    private String anyCase(String word) {
        return random.nextInt(4) == 0 ? word.toUpperCase(Locale.ROOT) : word;
    }

    /** The span as first * 1,000,000 + last, or -1. */
    private long span(String pattern, String cell) {
        StringBuilder regex = new StringBuilder();
        for (char c : pattern.toCharArray()) {
            switch (c) {
                case 'D': regex.append("(?<D>(?>[0-9]{1,2}))"); break;
                case 'M': regex.append("(?<M>(?>[0-9]{1,2}))"); break;
                case 'Y': regex.append("(?<Y>[0-9]{4})"); break;
                case 'y': regex.append("(?<y>[0-9]{2})"); break;
                case 'N': regex.append("(?<N>[A-Za-z]{3})"); break;
                case 'W': regex.append("(?<W>[A-Za-z]{3})"); break;
                case ' ': regex.append(" ++"); break;
                default: regex.append(Pattern.quote(String.valueOf(c)));
            }
        }
        Matcher m = Pattern.compile(regex.toString()).matcher(cell);
        if (!m.matches()) {
            return -1;
        }
        int year = pattern.indexOf('Y') >= 0 ? Integer.parseInt(m.group("Y")) : fullYear(Integer.parseInt(m.group("y")));
        int month = pattern.indexOf('M') >= 0 ? Integer.parseInt(m.group("M")) : word(MONTHS, m.group("N"));
        int day = pattern.indexOf('D') >= 0 ? Integer.parseInt(m.group("D")) : 1;
        if (year < 1900 || year > 2199) {
            return -1;
        }
        LocalDate date;
        try {
            date = LocalDate.of(year, month, day);
        } catch (DateTimeException e) {
            return -1;
        }
        if (pattern.indexOf('W') >= 0 && word(WEEK, m.group("W")) != date.getDayOfWeek().getValue()) {
            return -1;
        }
        long first = ChronoUnit.DAYS.between(ORIGIN, date);
        return first * 1000000 + (pattern.indexOf('D') >= 0 ? first : first + date.lengthOfMonth() - 1);
    }

    private int fullYear(int figures) {
        for (int year = window; year < window + 100; year++) {
            if (year % 100 == figures) {
                return year;
            }
        }
        throw new IllegalStateException();
    }

    private static int word(String words, String one) {
        for (int i = 0; i < words.length(); i += 3) {
            if (words.substring(i, i + 3).equals(one.toLowerCase(Locale.ROOT))) {
                return i / 3 + 1;
            }
        }
        return 0;
    }

    private void readAll() {
        spans = new long[cells.size()][patterns.size()];
        for (int r = 0; r < cells.size(); r++) {
            for (int s = 0; s < patterns.size(); s++) {
                spans[r][s] = span(patterns.get(s), cells.get(r));
            }
        }
    }

    private int costOf(int[] way) {
        int cost = 0;
        for (int r = 0; r < way.length; r++) {
            long own = spans[r][way[r]];
            if (r == 0) {
                cost += costs.get(way[r]);
            } else if (way[r] != way[r - 1]) {
                cost += prices[0] + costs.get(way[r]);
            }
            if (own < 0) {
                cost += prices[1];
            } else if (r > 0 && spans[r - 1][way[r - 1]] >= 0
                    && spans[r - 1][way[r - 1]] / 1000000 > own % 1000000) {
                cost += prices[2];
            }
        }
        return cost;
    }

    /** Ways in rising order of their styles from the first row on, so the first cheapest one is the best. */
    private int[] nextWay(int[] way) {
        int[] next = way.clone();
        for (int r = next.length - 1; r >= 0; r--) {
            next[r]++;
            if (next[r] < patterns.size()) {
                return next;
            }
            next[r] = 0;
        }
        return null;
    }

    private void goThroughAllWays() {
        best = null;
        for (int[] way = new int[cells.size()]; way != null; way = nextWay(way)) {
            if (best == null || costOf(way) < least) {
                best = way;
                least = costOf(way);
            }
        }
        otherwise = new int[cells.size()];
        java.util.Arrays.fill(otherwise, -1);
        for (int[] way = new int[cells.size()]; way != null; way = nextWay(way)) {
            int cost = costOf(way);
            for (int r = 0; r < way.length; r++) {
                if (spans[r][way[r]] != spans[r][best[r]] && (otherwise[r] < 0 || cost < otherwise[r])) {
                    otherwise[r] = cost;
                }
            }
        }
    }

    private int unlike(int r) {
        HashSet<Long> said = new HashSet<>();
        for (long span : spans[r]) {
            if (span >= 0) {
                said.add(span);
            }
        }
        return said.size();
    }

    private int kindOf(int r) {
        if (spans[r][best[r]] >= 0 && unlike(r) == 1) {
            return 0;
        }
        if (spans[r][best[r]] < 0) {
            return 3;
        }
        return otherwise[r] == least ? 2 : 1;
    }

    private void compare() {
        String run = "seed " + seed + " " + patterns + costs + cells + java.util.Arrays.toString(prices) + window + " ";
        int[] kinds = new int[4];
        int runs = 0;
        for (int r = 0; r < cells.size(); r++) {
            long own = spans[r][best[r]];
            kinds[kindOf(r)]++;
            runs += r == 0 || best[r] != best[r - 1] ? 1 : 0;
            for (int s = 0; s < patterns.size(); s++) {
                long span = spans[r][s];
                CHECK.due(run + "9 first", x.read(r, s, 0), span < 0 ? -1 : span / 1000000);
                CHECK.due(run + "9 last", x.read(r, s, 1), span < 0 ? -1 : span % 1000000);
            }
            CHECK.due(run + "10 row " + r, x.readings(r), unlike(r));
            CHECK.due(run + "12 row " + r, x.told(r), best[r]);
            CHECK.due(run + "13 first, row " + r, x.day(r, 0), own < 0 ? -1 : own / 1000000);
            CHECK.due(run + "13 last, row " + r, x.day(r, 1), own < 0 ? -1 : own % 1000000);
            CHECK.due(run + "14 row " + r, x.kind(r), kindOf(r));
            CHECK.due(run + "15 row " + r, x.second(r), own < 0 ? -1 : otherwise[r]);
            int same = own < 0 ? -1 : plain(patterns.get(best[r]), own / 1000000).equals(cells.get(r)) ? 1 : 0;
            CHECK.due(run + "21 row " + r, x.same(r), same);
        }
        CHECK.due(run + "11", x.cost(), least);
        CHECK.due(run + "17", x.spans(), runs);
        for (int k = 0; k < 4; k++) {
            CHECK.due(run + "16 kind " + k, x.many(k), kinds[k]);
        }
    }
}
