/** The boundary cases that promises 1 to 8 and 22 name: a new object, the tape, styles, rows, settings, count. */
public final class TapeEdgeTest {
    private static final String NEW = "No STYLES, no ROWS.";
    private static final String FEED = "Eight bytes more come to the TAPE "
        + "(of both numbers the highest first; bytes of 0 are left out): how many it has.";
    private static final String FEED_NONE = "NONE: more than 24.";
    private static final String END = "The TAPE has its first n bytes alone.";
    private static final String END_FALSE = "False: n.";
    private static final String STYLE = "The TAPE (empty then) is the PATTERN of a STYLE: its number.";
    private static final String STYLE_NONE = "NONE: it is none, COST, there are 8.";
    private static final String ROW = "The TAPE (empty then; it may be empty) is a ROW behind the others: its number.";
    private static final String ROW_NONE = "NONE: a byte that is none of 32 .. 126, there are 30.";
    private static final String CLEAR = "No ROWS any more.";
    private static final String OUT_OF_BOUNDS = "False: out of bounds.";
    private static final String PRICE = "0 CHANGE, 1 MISS, 2 BREAK.";
    private static final String COUNT = "0 STYLES, 1 ROWS, 2 bytes of the TAPE, 3 WINDOW.";

    private static final int LOW = Integer.MIN_VALUE;
    private static final int HIGH = Integer.MAX_VALUE;

    public static void main(String[] args) {
        Sentences.run(TapeEdgeTest.class);
    }

    // 1: a new object

    @Says(where = "Promise 1", sentence = NEW, edge = "nothing is counted")
    static void newCounts(Check c) {
        DayColumn x = new DayColumn();
        c.due("STYLES", x.count(0), 0);
        c.due("ROWS", x.count(1), 0);
        c.due("bytes of the TAPE", x.count(2), 0);
    }

    @Says(where = "Promise 1", sentence = NEW, edge = "the first of either has the number 0")
    static void newNumbers(Check c) {
        DayColumn x = new DayColumn();
        c.due("the first row", Check.row(x, "3/4/2001"), 0);
        c.due("the first style", Check.style(x, "D/M/Y", 0), 0);
    }

    @Says(where = "Promise 1", sentence = NEW, edge = "nothing is answered of style 0 or row 0")
    static void newAnswers(Check c) {
        DayColumn x = new DayColumn();
        c.due("read", x.read(0, 0, 0), -1);
        c.due("readings", x.readings(0), -1);
        c.due("cost", x.cost(), -1);
        c.due("told", x.told(0), -1);
        c.due("day", x.day(0, 0), -1);
        c.due("kind", x.kind(0), -1);
        c.due("second", x.second(0), -1);
        c.due("many", x.many(0), -1);
        c.due("spans", x.spans(), -1);
        c.due("write", x.write(0, 0, 0), -1);
        c.due("same", x.same(0), -1);
    }

    @Says(where = "Promise 1", sentence = NEW, edge = "another object's styles and rows are not its own")
    static void newBesideAnother(Check c) {
        DayColumn other = Check.rows(Check.styles("D/M/Y"), "3/4/2001");
        other.window(2000);
        DayColumn x = new DayColumn();
        c.due("STYLES", x.count(0), 0);
        c.due("ROWS", x.count(1), 0);
        c.due("WINDOW", x.count(3), 1950);
        c.due("the other's", other.count(1), 1);
    }

    // 2: feed

    /** What the tape holds, seen as a pattern that is written: M and Y at its end make it one. */
    private static String tape(DayColumn x) {
        x.feed(Check.four("MY", 0), 0);
        return x.style(0) == 0 ? Check.written(x, 0, 0) : "no pattern";
    }

    @Says(where = "Promise 2", sentence = FEED, edge = "eight bytes")
    static void feedEight(Check c) {
        DayColumn x = new DayColumn();
        c.due("eight", x.feed(0x61626364, 0x65666768), 8);
        c.due("the tape", tape(x), "abcdefgh11900");
    }

    @Says(where = "Promise 2", sentence = FEED, edge = "the highest first, of one and then of other")
    static void feedOrder(Check c) {
        DayColumn x = new DayColumn();
        c.due("the highest of one, the lowest of other", x.feed(0x61000000, 0x62), 2);
        c.due("the lowest of one, the highest of other", x.feed(0x63, 0x64000000), 4);
        c.due("the tape", tape(x), "abcd11900");
    }

    @Says(where = "Promise 2", sentence = FEED, edge = "bytes of 0 in each place, all of them")
    static void feedZeros(Check c) {
        DayColumn x = new DayColumn();
        c.due("all", x.feed(0, 0), 0);
        for (int i = 0; i < 4; i++) {
            int three = 0x61626364 & ~(255 << 8 * i);
            c.due("one of one", x.feed(three, 0), 3);
            c.due("one of other", x.feed(0, three), 6);
            x.end(0);
        }
        c.due("around", x.feed(0x00610062, 0x63006400), 4);
        c.due("the tape", tape(x), "abcd11900");
    }

    @Says(where = "Promise 2", sentence = FEED, edge = "bytes that are no part of a text come too, the highest bit set")
    static void feedAnyBytes(Check c) {
        DayColumn x = new DayColumn();
        c.due("255, eight times", x.feed(-1, -1), 8);
        c.due("128 and 1", x.feed(0x80000001, 0x01000080), 12);
        c.due("127 and 31", x.feed(0x7F1F0000, 0), 14);
        c.due("the lowest int, the highest int", x.feed(LOW, HIGH), 19);
    }

    @Says(where = "Promise 2", sentence = FEED, edge = "how many it has: all, not those that came now")
    static void feedAnswersAll(Check c) {
        DayColumn x = new DayColumn();
        c.due("one", x.feed(0x61, 0), 1);
        c.due("one more", x.feed(0x62, 0), 2);
        c.due("none more", x.feed(0, 0), 2);
        c.due("as count says", x.count(2), 2);
    }

    @Says(where = "Promise 2", sentence = FEED_NONE, edge = "24, and a 25th")
    static void feedOverTwentyFour(Check c) {
        DayColumn x = new DayColumn();
        c.due("8", x.feed(-1, -1), 8);
        c.due("16", x.feed(-1, -1), 16);
        c.due("24", x.feed(-1, -1), 24);
        c.due("a 25th", x.feed(0, 1), -1);
        c.due("eight more", x.feed(-1, -1), -1);
        c.due("24 stand", x.count(2), 24);
    }

    @Says(where = "Promise 2", sentence = FEED_NONE, edge = "a full tape and no byte more")
    static void feedNothingToFull(Check c) {
        DayColumn x = new DayColumn();
        Check.put(x, "abcdefghijklmnopqrstuvwx");
        c.due("bytes of 0", x.feed(0, 0), 24);
    }

    @Says(where = "Promise 2", sentence = FEED_NONE, edge = "of two bytes, one of which would fit, neither comes")
    static void feedPartly(Check c) {
        DayColumn x = new DayColumn();
        Check.put(x, "M/Y45678901234567890123");
        c.due("two behind 23", x.feed(0x61000000, 0x62), -1);
        c.due("23 stand", x.count(2), 23);
        c.due("one behind 23", x.feed(0, 0x63), 24);
        x.style(0);
        c.due("the tape", Check.written(x, 0, 0), "1/190045678901234567890123c");
    }

    // 3: end

    @Says(where = "Promise 3", sentence = END, edge = "none, one, all but one, all")
    static void endWithin(Check c) {
        for (int n : new int[] {0, 1, 7, 8}) {
            DayColumn x = new DayColumn();
            Check.put(x, "abcdefgh");
            c.due("end " + n, x.end(n), true);
            c.due("bytes", x.count(2), n);
            c.due("the tape", tape(x), "abcdefgh".substring(0, n) + "11900");
        }
    }

    @Says(where = "Promise 3", sentence = END, edge = "an empty tape, a full one")
    static void endOfEmptyAndFull(Check c) {
        DayColumn x = new DayColumn();
        c.due("none of none", x.end(0), true);
        Check.put(x, "abcdefghijklmnopqrstuvwx");
        c.due("24 of 24", x.end(24), true);
        c.due("they stand", x.count(2), 24);
        c.due("none of 24", x.end(0), true);
        c.due("there is room again", x.feed(-1, -1), 8);
    }

    @Says(where = "Promise 3", sentence = END_FALSE, edge = "below 0, more than the tape has")
    static void endBeyond(Check c) {
        DayColumn x = new DayColumn();
        c.due("1 of none", x.end(1), false);
        Check.put(x, "abcdefgh");
        for (int n : new int[] {-1, 9, 24, 25, LOW, HIGH}) {
            c.due("end " + n, x.end(n), false);
            c.due("bytes", x.count(2), 8);
        }
        x.end(5);
        c.due("what was cut does not come again", x.end(6), false);
        c.due("the tape", tape(x), "abcde11900");
    }

    // 4: style

    @Says(where = "Promise 4", sentence = STYLE, edge = "the numbers 0 to 7")
    static void styleNumbers(Check c) {
        DayColumn x = new DayColumn();
        for (int i = 0; i < 8; i++) {
            c.due("style " + i, Check.style(x, i + "M/Y", 0), i);
            c.due("STYLES", x.count(0), i + 1);
        }
        for (int i = 0; i < 8; i++) {
            c.due("pattern " + i, Check.written(x, 0, i), i + "1/1900");
        }
    }

    @Says(where = "Promise 4", sentence = STYLE, edge = "the tape is empty then")
    static void styleEmptiesTape(Check c) {
        DayColumn x = new DayColumn();
        Check.put(x, "D/M/Y");
        x.style(0);
        c.due("bytes", x.count(2), 0);
        c.due("an empty tape is no pattern", x.style(0), -1);
        c.due("nothing stands ahead of what comes", x.feed(0x61, 0), 1);
    }

    @Says(where = "Promise 4", sentence = STYLE, edge = "the same pattern twice is two styles")
    static void styleTwice(Check c) {
        DayColumn x = Check.styles("D/M/Y", "D/M/Y");
        c.due("STYLES", x.count(0), 2);
    }

    @Says(where = "Promise 4", sentence = STYLE, edge = "behind rows that stand: it reads them at once")
    static void styleBehindRows(Check c) {
        DayColumn x = Check.rows(Check.styles("D/M/Y"), "4/24/2001");
        c.due("not read", x.cost(), 10);
        Check.style(x, "M/D/Y", 0);
        c.due("read", x.read(0, 1, 0), Check.number(24, 4, 2001));
        c.due("and cheaper", x.cost(), 0);
    }

    @Says(where = "Promise 4", sentence = STYLE_NONE, edge = "it is none: the tape is no pattern")
    static void styleOfNoPattern(Check c) {
        for (String none : new String[] {"", "D", "D/M", "D/Y", "D/M/M/Y", "M/Y" + (char) 31, (char) 127 + "M/Y"}) {
            DayColumn x = new DayColumn();
            c.due("'" + none + "'", Check.style(x, none, 0), -1);
            c.due("STYLES", x.count(0), 0);
            c.due("the tape stands", x.count(2), none.length());
        }
    }

    @Says(where = "Promise 4", sentence = STYLE_NONE, edge = "COST -1 and 1,001, 0 and 1,000")
    static void styleOfCost(Check c) {
        DayColumn x = new DayColumn();
        Check.put(x, "D/M/Y");
        for (int cost : new int[] {-1, 1001, LOW, HIGH}) {
            c.due("COST " + cost, x.style(cost), -1);
            c.due("the tape stands", x.count(2), 5);
        }
        c.due("COST 1000", x.style(1000), 0);
        c.due("COST 0", Check.style(x, "D/M/Y", 0), 1);
    }

    @Says(where = "Promise 4", sentence = STYLE_NONE, edge = "there are 8")
    static void styleNine(Check c) {
        DayColumn x = Check.styles("MY", "MY", "MY", "MY", "MY", "MY", "MY");
        c.due("the eighth", Check.style(x, "NY", 0), 7);
        c.due("the ninth", Check.style(x, "D/N/Y", 0), -1);
        c.due("the ninth again", x.style(0), -1);
        c.due("STYLES", x.count(0), 8);
        c.due("the tape stands", x.count(2), 5);
        c.due("the eighth stands", Check.written(x, 0, 7), "jan1900");
        x.clear();
        c.due("clear makes no room for it", x.style(0), -1);
    }

    // 5: row

    @Says(where = "Promise 5", sentence = ROW, edge = "the numbers 0 to 29, behind the others")
    static void rowNumbers(Check c) {
        DayColumn x = Check.styles("D/M/Y");
        for (int r = 0; r < 30; r++) {
            c.due("row " + r, Check.row(x, r + 1 + "/1/2001"), r);
            c.due("ROWS", x.count(1), r + 1);
        }
        for (int r = 0; r < 30; r++) {
            c.due("cell " + r, x.read(r, 0, 0), Check.number(r + 1, 1, 2001));
        }
    }

    @Says(where = "Promise 5", sentence = ROW, edge = "the tape is empty then")
    static void rowEmptiesTape(Check c) {
        DayColumn x = Check.styles("D/M/Y");
        Check.put(x, "3/4/2001");
        x.row();
        c.due("bytes", x.count(2), 0);
        c.due("nothing stands ahead of what comes", x.feed(0x61, 0), 1);
    }

    @Says(where = "Promise 5", sentence = ROW, edge = "it may be empty")
    static void rowOfNothing(Check c) {
        DayColumn x = Check.styles("D/M/Y");
        c.due("an empty tape", x.row(), 0);
        c.due("again", x.row(), 1);
        c.due("ROWS", x.count(1), 2);
        c.due("it says nothing", x.read(0, 0, 0), -1);
        c.due("two misses", x.cost(), 20);
    }

    @Says(where = "Promise 5", sentence = ROW, edge = "a full tape of 24 bytes")
    static void rowOfFullTape(Check c) {
        DayColumn x = Check.styles("M/Y 89012345678901234");
        c.due("24 bytes", Check.row(x, "4/2001  8901234567890123"), 0);
        c.due("not read", x.read(0, 0, 0), -1);
        c.due("24 bytes", Check.row(x, "4/2001 89012345678901234"), 1);
        c.due("read", x.read(1, 0, 0), Check.number(1, 4, 2001));
    }

    @Says(where = "Promise 5", sentence = ROW_NONE, edge = "the bytes 1, 31, 127, 128, 255 in each place")
    static void rowOfOtherBytes(Check c) {
        for (int b : new int[] {1, 31, 127, 128, 255}) {
            for (int at = 0; at < 4; at++) {
                DayColumn x = new DayColumn();
                String text = "123".substring(0, at) + (char) b + "123".substring(at);
                c.due("byte " + b + " at " + at, Check.row(x, text), -1);
                c.due("ROWS", x.count(1), 0);
                c.due("the tape stands", x.count(2), 4);
            }
        }
    }

    @Says(where = "Promise 5", sentence = ROW_NONE, edge = "the bytes 32 and 126 are taken")
    static void rowOfOutermostBytes(Check c) {
        DayColumn x = new DayColumn();
        c.due("32", Check.row(x, " "), 0);
        c.due("126", Check.row(x, "~"), 1);
    }

    @Says(where = "Promise 5", sentence = ROW_NONE, edge = "there are 30")
    static void rowThirtyOne(Check c) {
        DayColumn x = Check.styles("D/M/Y");
        for (int r = 0; r < 29; r++) {
            x.row();
        }
        c.due("the thirtieth", Check.row(x, "3/4/2001"), 29);
        c.due("the thirty-first", Check.row(x, "4/4/2001"), -1);
        c.due("ROWS", x.count(1), 30);
        c.due("the tape stands", x.count(2), 8);
        c.due("the thirtieth stands", x.read(29, 0, 0), Check.number(3, 4, 2001));
        x.end(0);
        c.due("nor an empty one", x.row(), -1);
    }

    // 6: clear

    @Says(where = "Promise 6", sentence = CLEAR, edge = "of none, of thirty")
    static void clearNoneAndThirty(Check c) {
        DayColumn x = new DayColumn();
        x.clear();
        c.due("of none", x.count(1), 0);
        for (int r = 0; r < 30; r++) {
            x.row();
        }
        x.clear();
        c.due("of thirty", x.count(1), 0);
        c.due("there is room again", x.row(), 0);
    }

    @Says(where = "Promise 6", sentence = CLEAR, edge = "nothing is answered of the rows that were")
    static void clearAnswers(Check c) {
        DayColumn x = Check.rows(Check.styles("D/M/Y"), "3/4/2001");
        c.due("cost ahead", x.cost(), 0);
        x.clear();
        c.due("cost", x.cost(), -1);
        c.due("read", x.read(0, 0, 0), -1);
        c.due("readings", x.readings(0), -1);
        c.due("told", x.told(0), -1);
        c.due("day", x.day(0, 0), -1);
        c.due("kind", x.kind(0), -1);
        c.due("second", x.second(0), -1);
        c.due("many", x.many(0), -1);
        c.due("spans", x.spans(), -1);
        c.due("same", x.same(0), -1);
    }

    @Says(where = "Promise 6", sentence = CLEAR, edge = "rows that come then are read anew")
    static void clearAndFill(Check c) {
        DayColumn x = Check.rows(Check.styles("D/M/Y", "M/D/Y"), "3/4/2001", "24/4/2001", "25/4/2001");
        c.due("WHOLE", x.kind(0), 1);
        x.clear();
        c.due("the number 0 again", Check.row(x, "5/4/2001"), 0);
        c.due("the new cell", x.read(0, 0, 0), Check.number(5, 4, 2001));
        c.due("no old row settles it", x.kind(0), 2);
        x.clear();
        c.due("a shorter cell", Check.row(x, "5/4/200"), 0);
        c.due("no byte of the old one", x.read(0, 0, 0), -1);
    }

    @Says(where = "Promise 6", sentence = CLEAR, edge = "the styles, the tape, the window and the prices stay")
    static void clearRowsAlone(Check c) {
        DayColumn x = Check.rows(Check.styles("D/M/Y", "M/D/Y"), "3/4/2001");
        x.window(2000);
        x.price(1, 7);
        Check.put(x, "x");
        x.clear();
        c.due("STYLES", x.count(0), 2);
        c.due("bytes of the TAPE", x.count(2), 1);
        c.due("WINDOW", x.count(3), 2000);
        x.row();
        c.due("MISS", x.cost(), 7);
    }

    // 7: window

    @Says(where = "Promise 7", sentence = "WINDOW.", edge = "1900 and 2100")
    static void windowOutermost(Check c) {
        DayColumn x = Check.rows(Check.styles("D/M/y"), "3/4/00", "3/4/99");
        c.due("1900", x.window(1900), true);
        c.due("WINDOW", x.count(3), 1900);
        c.due("00", x.read(0, 0, 0), Check.number(3, 4, 1900));
        c.due("99", x.read(1, 0, 0), Check.number(3, 4, 1999));
        c.due("2100", x.window(2100), true);
        c.due("WINDOW", x.count(3), 2100);
        c.due("00", x.read(0, 0, 0), Check.number(3, 4, 2100));
        c.due("99", x.read(1, 0, 0), Check.number(3, 4, 2199));
    }

    @Says(where = "Promise 7", sentence = "WINDOW.", edge = "rows and what the whole settled go by it at once")
    static void windowAtOnce(Check c) {
        DayColumn x = Check.rows(Check.styles("D/M/y"), "3/4/49", "3/4/50");
        c.due("2049, then 1950: a break", x.cost(), 5);
        x.window(1949);
        c.due("1949, then 1950", x.cost(), 0);
        c.due("its day", x.day(0, 0), Check.number(3, 4, 1949));
        x.window(1950);
        c.due("2049 again", x.cost(), 5);
        c.due("its day", x.day(0, 0), Check.number(3, 4, 2049));
    }

    @Says(where = "Promise 7", sentence = OUT_OF_BOUNDS, edge = "1899 and 2101")
    static void windowOutOfBounds(Check c) {
        DayColumn x = Check.rows(Check.styles("D/M/y"), "3/4/00");
        for (int year : new int[] {1899, 2101, 0, -1, LOW, HIGH}) {
            c.due("window " + year, x.window(year), false);
            c.due("WINDOW", x.count(3), 1950);
            c.due("the row", x.read(0, 0, 0), Check.number(3, 4, 2000));
        }
    }

    // 8: price

    /** A column whose best way has one change of style, one row not read, or two rows out of order, and no more. */
    private static DayColumn columnWithOne(int which) {
        switch (which) {
            case 0:
                DayColumn x = Check.styles("D/M/Y", "Y-M-D");
                x.price(1, 1000);
                return Check.rows(x, "3/4/2001", "4/4/2001", "2001-4-5", "2001-4-6");
            case 1:
                return Check.rows(Check.styles("D/M/Y"), "x");
            default:
                return Check.rows(Check.styles("D/M/Y"), "4/4/2001", "3/4/2001");
        }
    }

    @Says(where = "Promise 8", sentence = PRICE, edge = "0 and 1,000 of each")
    static void priceLowestAndHighest(Check c) {
        for (int which = 0; which < 3; which++) {
            DayColumn x = columnWithOne(which);
            for (int v : new int[] {0, 1, 999, 1000}) {
                c.due("price(" + which + ", " + v + ")", x.price(which, v), true);
                c.due("cost behind it", x.cost(), v);
            }
        }
    }

    @Says(where = "Promise 8", sentence = PRICE, edge = "a price counts at once, and again when it goes back")
    static void priceAtOnce(Check c) {
        DayColumn x = Check.rows(Check.styles("D/M/Y"), "x", "4/4/2001", "3/4/2001");
        c.due("at first", x.cost(), 15);
        x.price(1, 0);
        c.due("MISS 0", x.cost(), 5);
        x.price(2, 0);
        c.due("BREAK 0", x.cost(), 0);
        x.price(1, 10);
        c.due("MISS 10", x.cost(), 10);
    }

    @Says(where = "Promise 8", sentence = OUT_OF_BOUNDS, edge = "which: -1 and 3")
    static void priceOfNoSuch(Check c) {
        DayColumn x = Check.rows(Check.styles("D/M/Y"), "x", "4/4/2001", "3/4/2001");
        for (int which : new int[] {-1, 3, LOW, HIGH}) {
            c.due("which " + which, x.price(which, 1), false);
            c.due("cost", x.cost(), 15);
        }
    }

    @Says(where = "Promise 8", sentence = OUT_OF_BOUNDS, edge = "v: -1 and 1,001")
    static void priceOutOfBounds(Check c) {
        for (int which = 0; which < 3; which++) {
            DayColumn x = Check.rows(Check.styles("D/M/Y", "Y-M-D"), "4/4/2001", "3/4/2001", "5/4/2001",
                "2001-4-6", "2001-4-7", "2001-4-8", "x");
            for (int v : new int[] {-1, 1001, LOW, HIGH}) {
                c.due("price(" + which + ", " + v + ")", x.price(which, v), false);
                c.due("a BREAK, a CHANGE and a MISS", x.cost(), 5 + 20 + 10);
            }
        }
    }

    // 22: count

    @Says(where = "Promise 22", sentence = COUNT, edge = "none, and as many as there can be")
    static void countLowestAndHighest(Check c) {
        DayColumn x = new DayColumn();
        c.due("no STYLES", x.count(0), 0);
        c.due("no ROWS", x.count(1), 0);
        c.due("no bytes", x.count(2), 0);
        for (int i = 0; i < 8; i++) {
            Check.style(x, "MY", 0);
        }
        for (int r = 0; r < 30; r++) {
            x.row();
        }
        x.feed(-1, -1);
        x.feed(-1, -1);
        x.feed(-1, -1);
        c.due("8 STYLES", x.count(0), 8);
        c.due("30 ROWS", x.count(1), 30);
        c.due("24 bytes", x.count(2), 24);
    }

    @Says(where = "Promise 22", sentence = COUNT, edge = "WINDOW at first, the lowest, the highest")
    static void countWindow(Check c) {
        DayColumn x = new DayColumn();
        c.due("at first", x.count(3), 1950);
        x.window(1900);
        c.due("the lowest", x.count(3), 1900);
        x.window(2100);
        c.due("the highest", x.count(3), 2100);
    }

    @Says(where = "Promise 22", sentence = "NONE for others.", edge = "-1 and 4")
    static void countOfOthers(Check c) {
        DayColumn x = Check.rows(Check.styles("D/M/Y"), "x");
        for (int what : new int[] {-1, 4, LOW, HIGH}) {
            c.due("what " + what, x.count(what), -1);
        }
    }
}
