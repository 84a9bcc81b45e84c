import java.util.Arrays;

/** The boundary cases that "Terms" names of the column, what a way costs, the best one, kinds, and what is refused. */
public final class ColumnEdgeTest {
    private static final String TERMS = "Terms";
    private static final String COLUMN = "A COLUMN (30 ROWS at most, each a CELL).";
    private static final String FIRST_ROW = "It costs: for the first ROW its STYLE's COST;";
    private static final String CHANGE = "for each other ROW whose STYLE is not that of the ROW ahead "
        + "CHANGE (0 .. 1,000; 20 at first) and its STYLE's COST;";
    private static final String MISS = "for each ROW that is not READ by its STYLE MISS (0 .. 1,000; 10);";
    private static final String BREAK = "for each two ROWS one behind the other that are both READ so, and of which "
        + "the first one's SPAN begins behind the end of the second one's, BREAK (0 .. 1,000; 5).";
    private static final String BEST =
        "BEST costs least; of several the one that has the lower STYLE at the first ROW where they differ.";
    private static final String SURE = "KINDS of a ROW: 0 SURE: it is READ by BEST's STYLE, "
        + "and all STYLES that READ it say one SPAN;";
    private static final String NOT = "3 NOT: BEST's STYLE does not READ it;";
    private static final String DOUBT = "2 DOUBT: some WAY as cheap as BEST READS it as another SPAN than BEST "
        + "(or not at all); else 1 WHOLE.";
    private static final String IN_THIS_ORDER = "(Asked in this order.)";
    private static final String REFUSED = "What is refused answers as told and changes nothing.";

    public static void main(String[] args) {
        Sentences.run(ColumnEdgeTest.class);
    }

    // A COLUMN and what a WAY costs

    @Says(where = TERMS, sentence = COLUMN, edge = "thirty, and a thirty-first")
    static void thirtyRows(Check c) {
        DayColumn x = Check.styles("D/M/Y");
        for (int r = 0; r < 30; r++) {
            c.due("row " + r, Check.row(x, r + 1 + "/1/2001"), r);
        }
        c.due("the thirty-first", Check.row(x, "31/1/2001"), -1);
        c.due("ROWS", x.count(1), 30);
        c.due("the last one is read", x.day(29, 0), Check.number(30, 1, 2001));
        c.due("there is no other", x.day(30, 0), -1);
        c.due("all thirty are SURE", x.many(0), 30);
    }

    @Says(where = TERMS, sentence = COLUMN, edge = "each of thirty counts, the dearest column")
    static void thirtyMisses(Check c) {
        DayColumn x = new DayColumn();
        Check.style(x, "D/M/Y", 1000);
        x.price(1, 1000);
        for (int r = 0; r < 30; r++) {
            Check.row(x, "");
            c.due("cost of " + (r + 1), x.cost(), 1000 + 1000 * (r + 1));
        }
    }

    @Says(where = TERMS, sentence = "A WAY tells each ROW a STYLE.", edge = "a row that no style reads")
    static void toldThoughNotRead(Check c) {
        DayColumn x = Check.rows(Check.styles("Y-M-D", "D/M/Y"), "x", "3/4/2001", "", "4/4/2001", "y");
        for (int r = 0; r < 5; r++) {
            c.due("told " + r, x.told(r), 1);
        }
    }

    @Says(where = TERMS, sentence = FIRST_ROW, edge = "COST 0 and 1,000, no CHANGE")
    static void costOfFirstRow(Check c) {
        for (int cost : new int[] {0, 1, 1000}) {
            DayColumn x = new DayColumn();
            Check.style(x, "D/M/Y", cost);
            Check.row(x, "3/4/2001");
            c.due("one row of COST " + cost, x.cost(), cost);
            Check.row(x, "4/4/2001");
            c.due("two rows of COST " + cost, x.cost(), cost);
        }
    }

    @Says(where = TERMS, sentence = FIRST_ROW, edge = "the COST is due if the first row is not READ, too")
    static void costOfFirstRowNotRead(Check c) {
        DayColumn x = new DayColumn();
        Check.style(x, "D/M/Y", 7);
        Check.row(x, "x");
        c.due("COST and MISS", x.cost(), 17);
    }

    /** Two rows that one style reads, then two that the other one reads. */
    private static DayColumn changing(int costOne, int costOther) {
        DayColumn x = new DayColumn();
        Check.style(x, "D/M/Y", costOne);
        Check.style(x, "Y-M-D", costOther);
        x.price(1, 1000);
        return Check.rows(x, "3/4/2001", "4/4/2001", "2001-4-5", "2001-4-6");
    }

    @Says(where = TERMS, sentence = CHANGE, edge = "20 at first")
    static void changeAtFirst(Check c) {
        c.due("a change", changing(0, 0).cost(), 20);
    }

    @Says(where = TERMS, sentence = CHANGE, edge = "CHANGE 0 and 1,000")
    static void changeLowestAndHighest(Check c) {
        DayColumn x = changing(0, 0);
        c.due("price 0", x.price(0, 0), true);
        c.due("a change for 0", x.cost(), 0);
        c.due("price 1000", x.price(0, 1000), true);
        c.due("a change for 1000", x.cost(), 1000);
        c.due("it does change", x.told(3), 1);
    }

    @Says(where = TERMS, sentence = CHANGE, edge = "the new style's COST 0 and 1,000, not the old one's")
    static void changeCostsTheNewStyle(Check c) {
        c.due("COST 0, then 0", changing(0, 0).cost(), 20);
        c.due("COST 1, then 300", changing(1, 300).cost(), 321);
        c.due("COST 300, then 1", changing(300, 1).cost(), 321);
        DayColumn x = changing(0, 1000);
        x.price(0, 0);
        Check.row(x, "2001-4-7");
        c.due("COST 0, then 1000", x.cost(), 1000);
    }

    @Says(where = TERMS, sentence = CHANGE, edge = "back to the style ahead, which costs anew")
    static void changeBack(Check c) {
        DayColumn x = Check.rows(changing(7, 9), "7/4/2001", "8/4/2001");
        c.due("there and back", x.cost(), 7 + 20 + 9 + 20 + 7);
    }

    @Says(where = TERMS, sentence = MISS, edge = "10 at first")
    static void missAtFirst(Check c) {
        c.due("one row", Check.rows(Check.styles("D/M/Y"), "x").cost(), 10);
    }

    @Says(where = TERMS, sentence = MISS, edge = "MISS 0 and 1,000")
    static void missLowestAndHighest(Check c) {
        DayColumn x = Check.rows(Check.styles("D/M/Y"), "x", "3/4/2001");
        c.due("price 0", x.price(1, 0), true);
        c.due("a miss for 0", x.cost(), 0);
        c.due("price 1000", x.price(1, 1000), true);
        c.due("a miss for 1000", x.cost(), 1000);
    }

    @Says(where = TERMS, sentence = MISS, edge = "the first row, one between, the last")
    static void missAnywhere(Check c) {
        c.due("the first", Check.rows(Check.styles("D/M/Y"), "x", "3/4/2001", "4/4/2001").cost(), 10);
        c.due("one between", Check.rows(Check.styles("D/M/Y"), "3/4/2001", "x", "4/4/2001").cost(), 10);
        c.due("the last", Check.rows(Check.styles("D/M/Y"), "3/4/2001", "4/4/2001", "x").cost(), 10);
        c.due("all", Check.rows(Check.styles("D/M/Y"), "x", "", "31/4/2001").cost(), 30);
    }

    private static int costOfOrder(String... cells) {
        DayColumn x = Check.styles("D/M/Y", "M/Y");
        x.price(0, 0);
        x.price(1, 1000);
        return Check.rows(x, cells).cost();
    }

    @Says(where = TERMS, sentence = BREAK, edge = "5 at first")
    static void breakAtFirst(Check c) {
        c.due("a break", Check.rows(Check.styles("D/M/Y"), "4/4/2001", "3/4/2001").cost(), 5);
    }

    @Says(where = TERMS, sentence = BREAK, edge = "BREAK 0 and 1,000")
    static void breakLowestAndHighest(Check c) {
        DayColumn x = Check.rows(Check.styles("D/M/Y"), "4/4/2001", "3/4/2001");
        c.due("price 0", x.price(2, 0), true);
        c.due("a break for 0", x.cost(), 0);
        c.due("price 1000", x.price(2, 1000), true);
        c.due("a break for 1000", x.cost(), 1000);
    }

    @Says(where = TERMS, sentence = BREAK, edge = "the day ahead, the same day, the day behind")
    static void breakOfDays(Check c) {
        c.due("a day later", costOfOrder("3/4/2001", "4/4/2001"), 0);
        c.due("the same day", costOfOrder("3/4/2001", "3/4/2001"), 0);
        c.due("a day earlier", costOfOrder("3/4/2001", "2/4/2001"), 5);
        c.due("the year's last day, then the next one's first", costOfOrder("31/12/2000", "1/1/2001"), 0);
        c.due("the other way round", costOfOrder("1/1/2001", "31/12/2000"), 5);
        c.due("the lowest day, then the highest", costOfOrder("1/1/1900", "31/12/2199"), 0);
        c.due("the highest day, then the lowest", costOfOrder("31/12/2199", "1/1/1900"), 5);
    }

    @Says(where = TERMS, sentence = BREAK, edge = "a month first: it begins with its first day")
    static void breakBehindMonth(Check c) {
        c.due("then its first day", costOfOrder("4/2001", "1/4/2001"), 0);
        c.due("then the day ahead of it", costOfOrder("4/2001", "31/3/2001"), 5);
        c.due("then the same month", costOfOrder("4/2001", "4/2001"), 0);
        c.due("then the month ahead", costOfOrder("4/2001", "3/2001"), 5);
    }

    @Says(where = TERMS, sentence = BREAK, edge = "a month second: it ends with its last day")
    static void breakAheadOfMonth(Check c) {
        c.due("behind its last day", costOfOrder("30/4/2001", "4/2001"), 0);
        c.due("behind the next month's first", costOfOrder("1/5/2001", "4/2001"), 5);
    }

    @Says(where = TERMS, sentence = BREAK, edge = "one of both, or a row between, that is not READ")
    static void breakNeedsBothRead(Check c) {
        c.due("a row between", Check.rows(Check.styles("D/M/Y"), "4/4/2001", "x", "3/4/2001").cost(), 10);
        c.due("a row between, told another style", costOfOrder("4/4/2001", "x", "3/4/2001"), 1000);
        c.due("the second is not", costOfOrder("4/4/2001", "x"), 1000);
        c.due("the first is not", costOfOrder("x", "3/4/2001"), 1000);
        c.due("neither is", costOfOrder("x", "x"), 2000);
        c.due("the second is not, at the lowest day", costOfOrder("1/1/1900", "x"), 1000);
    }

    @Says(where = TERMS, sentence = BREAK, edge = "each two rows, not the first and the third")
    static void breakOfEachTwo(Check c) {
        c.due("two breaks", costOfOrder("5/4/2001", "4/4/2001", "3/4/2001"), 10);
        c.due("the third ahead of the first, one break", costOfOrder("5/4/2001", "7/4/2001", "4/4/2001"), 5);
        c.due("a month that goes with both", costOfOrder("5/4/2001", "4/2001", "4/4/2001"), 0);
    }

    // BEST

    @Says(where = TERMS, sentence = BEST, edge = "dearer by 1, equal, cheaper by 1")
    static void bestCostsLeast(Check c) {
        for (int cost = 4; cost <= 6; cost++) {
            DayColumn x = new DayColumn();
            Check.style(x, "D/M/Y", 5);
            Check.style(x, "M/D/Y", cost);
            Check.row(x, "3/4/2001");
            c.due("5 against " + cost, x.told(0), cost < 5 ? 1 : 0);
            c.due("cost of 5 against " + cost, x.cost(), Math.min(cost, 5));
        }
    }

    @Says(where = TERMS, sentence = BEST, edge = "all styles alike: the lowest in each row")
    static void bestOfAlike(Check c) {
        DayColumn x = Check.styles("D/M/Y", "D/M/Y", "D/M/Y", "D/M/Y", "D/M/Y", "D/M/Y", "D/M/Y", "D/M/Y");
        x.price(0, 0);
        Check.rows(x, "3/4/2001", "4/4/2001", "5/4/2001");
        for (int r = 0; r < 3; r++) {
            c.due("told " + r, x.told(r), 0);
        }
    }

    @Says(where = TERMS, sentence = BEST, edge = "equal ways that differ at the first row: 0 2 against 1 0")
    static void bestDiffersAtFirstRow(Check c) {
        DayColumn x = Check.styles("D/M/y", "M/D/y", "y/M/D");
        x.price(0, 0);
        Check.rows(x, "01/02/03", "15/01/03");
        c.due("both cost 0", x.cost(), 0);
        c.due("told 0", x.told(0), 0);
        c.due("told 1, the only one in order behind it", x.told(1), 2);
    }

    @Says(where = TERMS, sentence = BEST, edge = "equal ways that differ at a later row: where the change stands")
    static void bestDiffersLater(Check c) {
        DayColumn late = Check.rows(Check.styles("D/M/Y", "M/D/Y"), "24/4/2001", "5/5/2001", "6/6/2001", "7/24/2001");
        late.price(1, 1000);
        c.due("one change, anywhere", late.cost(), 20);
        c.due("the lower as long as it may be", late.told(2), 0);
        c.due("then the other", late.told(3), 1);
        DayColumn soon = Check.rows(Check.styles("M/D/Y", "D/M/Y"), "24/4/2001", "5/5/2001", "6/6/2001", "7/24/2001");
        soon.price(1, 1000);
        c.due("the other first", soon.told(0), 1);
        c.due("the lower as soon as it may be", soon.told(1), 0);
    }

    @Says(where = TERMS, sentence = BEST, edge = "a lower style that would cost more behind it is not taken")
    static void bestLooksBehind(Check c) {
        DayColumn x = Check.rows(Check.styles("M/D/Y", "D/M/Y"), "3/4/2001", "24/4/2001");
        c.due("settled by the row behind", x.told(0), 1);
        c.due("the least", x.cost(), 0);
    }

    // KINDS

    @Says(where = TERMS, sentence = SURE, edge = "one style alone reads it, the others do not")
    static void sureByOneStyle(Check c) {
        c.due("one style", Check.rows(Check.styles("D/M/Y"), "3/4/2001").kind(0), 0);
        c.due("others do not read it", Check.rows(Check.styles("Y-M-D", "D/M/Y", "M/Y"), "3/4/2001").kind(0), 0);
        c.due("24 is no month", Check.rows(Check.styles("D/M/Y", "M/D/Y"), "24/4/2001").kind(0), 0);
    }

    @Says(where = TERMS, sentence = SURE, edge = "several styles, one span")
    static void sureByOneSpan(Check c) {
        c.due("4/4", Check.rows(Check.styles("D/M/Y", "M/D/Y"), "4/4/2001").kind(0), 0);
        c.due("4/5", Check.rows(Check.styles("D/M/Y", "M/D/Y"), "4/5/2001").kind(0), 2);
    }

    @Says(where = TERMS, sentence = SURE, edge = "spans that differ in their first or their last day alone")
    static void notSureOfDayAndMonth(Check c) {
        DayColumn x = Check.rows(Check.styles("D/M/Y", "1/M/Y", "30/M/Y"), "1/4/2001", "30/4/2001");
        c.due("a month begins with that day", x.kind(0), 1);
        c.due("a month ends with that day", x.kind(1), 1);
    }

    @Says(where = TERMS, sentence = NOT, edge = "no style reads it, an empty cell")
    static void notReadByAny(Check c) {
        DayColumn x = Check.rows(Check.styles("D/M/Y"), "x", "", "31/4/2001", "1/4/2001");
        for (int r = 0; r < 3; r++) {
            c.due("kind " + r, x.kind(r), 3);
        }
        c.due("a day there is", x.kind(3), 0);
    }

    @Says(where = TERMS, sentence = NOT, edge = "another style reads it, but not BEST's")
    static void notReadByBest(Check c) {
        DayColumn x = Check.rows(Check.styles("Y-M-D", "D/M/Y"), "2001-4-1", "3/4/2001", "2001-4-5");
        c.due("one span is said of it", x.readings(1), 1);
        c.due("BEST's style", x.told(1), 0);
        c.due("kind", x.kind(1), 3);
    }

    @Says(where = TERMS, sentence = DOUBT, edge = "a way as cheap reads it otherwise, dearer by 1: WHOLE")
    static void doubtOfAnotherSpan(Check c) {
        for (int cost = 5; cost <= 6; cost++) {
            DayColumn x = new DayColumn();
            Check.style(x, "D/M/Y", 5);
            Check.style(x, "M/D/Y", cost);
            Check.row(x, "3/4/2001");
            c.due("5 against " + cost, x.kind(0), cost == 5 ? 2 : 1);
        }
    }

    @Says(where = TERMS, sentence = DOUBT, edge = "a way as cheap does not read it at all, dearer by 1: WHOLE")
    static void doubtOfNoSpan(Check c) {
        for (int miss = 5; miss <= 6; miss++) {
            DayColumn x = new DayColumn();
            Check.style(x, "D/M/Y", 5);
            Check.style(x, "Y-M-D", 0);
            Check.style(x, "M/D/Y", 1000);
            x.price(1, miss);
            Check.row(x, "3/4/2001");
            c.due("BEST reads it", x.told(0), 0);
            c.due("miss " + miss, x.kind(0), miss == 5 ? 2 : 1);
        }
    }

    @Says(where = TERMS, sentence = DOUBT, edge = "a way as cheap by another style that says the same span: WHOLE")
    static void wholeThoughAsCheap(Check c) {
        DayColumn x = new DayColumn();
        Check.style(x, "D/M/Y", 0);
        Check.style(x, "D/M/Y", 0);
        Check.style(x, "M/D/Y", 1);
        Check.row(x, "3/4/2001");
        c.due("two spans", x.readings(0), 2);
        c.due("kind", x.kind(0), 1);
    }

    @Says(where = TERMS, sentence = IN_THIS_ORDER, edge = "SURE, though a way as cheap does not read it")
    static void sureIsAskedAheadOfDoubt(Check c) {
        DayColumn x = Check.rows(Check.styles("D/M/Y", "Y-M-D"), "3/4/2001");
        x.price(1, 0);
        c.due("a way as cheap", x.second(0), x.cost());
        c.due("kind", x.kind(0), 0);
    }

    @Says(where = TERMS, sentence = IN_THIS_ORDER, edge = "NOT, though a way as cheap reads it")
    static void notIsAskedAheadOfDoubt(Check c) {
        DayColumn x = Check.rows(Check.styles("Y-M-D", "D/M/Y", "M/D/Y"), "3/4/2001");
        x.price(1, 0);
        c.due("the lowest of equals", x.told(0), 0);
        c.due("kind", x.kind(0), 3);
    }

    // What is refused, and the constant

    /** A full column: eight styles, thirty rows, a text on the tape, all settings moved. */
    private static DayColumn full() {
        DayColumn x = new DayColumn();
        for (String pattern : new String[] {"D/M/y", "M/D/y", "Y-M-D", "M/Y", "N Y", "D N Y", "W D N y", "y/M/D"}) {
            Check.style(x, pattern, 3);
        }
        for (int r = 0; r < 30; r++) {
            Check.row(x, r % 5 == 4 ? "2001-4-1" : r % 12 + 1 + "/" + (r / 3 + 3) + "/01");
        }
        x.window(1960);
        x.price(0, 7);
        x.price(1, 9);
        x.price(2, 4);
        Check.put(x, "3/4/01");
        return x;
    }

    /** What can be asked of the column, as one row of answers; few enough calls to stay below 512 in all. */
    private static int[] answers(DayColumn x) {
        int[] all = new int[4 + 1 + 30 + 10];
        int n = 0;
        for (int what = 0; what < 4; what++) {
            all[n++] = x.count(what);
        }
        all[n++] = x.cost();
        for (int r = 0; r < 30; r++) {
            all[n++] = x.second(r) * 8 + x.told(r);
        }
        for (int r = 0; r < 10; r++) {
            all[n++] = x.read(r * 3, r % 2, 0);
        }
        return all;
    }

    private static void changesNothing(Check c, String call, DayColumn x, boolean refused) {
        int[] due = answers(full());
        c.due(call + " is refused", refused, true);
        c.due(call + " changes nothing", Arrays.equals(answers(x), due), true);
        x.clear();
        c.due("the tape is a row", x.row(), 0);
        c.due("its bytes", x.read(0, 0, 0), Check.number(3, 4, 2001));
    }

    @Says(where = TERMS, sentence = REFUSED, edge = "feed")
    static void refusedFeed(Check c) {
        DayColumn x = full();
        x.feed(-1, -1);
        x.feed(-1, -1);
        boolean refused = x.feed(0x31320000, 0x33) == -1;
        c.due("of three that do not all fit none has come", x.count(2), 22);
        x.end(6);
        changesNothing(c, "feed", x, refused);
    }

    @Says(where = TERMS, sentence = REFUSED, edge = "end")
    static void refusedEnd(Check c) {
        DayColumn x = full();
        changesNothing(c, "end", x, !x.end(7) && !x.end(-1));
    }

    @Says(where = TERMS, sentence = REFUSED, edge = "style")
    static void refusedStyle(Check c) {
        DayColumn x = full();
        changesNothing(c, "a ninth style, no pattern", x, x.style(0) == -1);
        DayColumn z = Check.rows(Check.styles("D/M/Y"), "3/4/2001", "x");
        Check.put(z, "M/D/Y");
        c.due("cost", z.style(1001), -1);
        c.due("cost", z.style(-1), -1);
        c.due("STYLES", z.count(0), 1);
        c.due("readings", z.readings(0), 1);
        c.due("the tape is still the pattern", z.style(0), 1);
        c.due("it reads", z.readings(0), 2);
    }

    @Says(where = TERMS, sentence = REFUSED, edge = "row")
    static void refusedRow(Check c) {
        DayColumn x = full();
        changesNothing(c, "a thirty-first row", x, x.row() == -1);
        DayColumn z = Check.rows(Check.styles("D/M/Y"), "3/4/2001");
        Check.put(z, "4/4/2001" + (char) 127);
        c.due("a byte that is none", z.row(), -1);
        c.due("ROWS", z.count(1), 1);
        c.due("the tape stands", z.count(2), 9);
        z.end(8);
        c.due("its bytes are a row", z.row(), 1);
        c.due("which reads", z.read(1, 0, 0), Check.number(4, 4, 2001));
    }

    @Says(where = TERMS, sentence = REFUSED, edge = "window")
    static void refusedWindow(Check c) {
        DayColumn x = full();
        changesNothing(c, "window", x, !x.window(1899) && !x.window(2101));
    }

    @Says(where = TERMS, sentence = REFUSED, edge = "price")
    static void refusedPrice(Check c) {
        DayColumn x = full();
        boolean refused = true;
        for (int which = -1; which <= 3; which++) {
            refused &= !x.price(which, -1) && !x.price(which, 1001);
        }
        changesNothing(c, "price", x, refused && !x.price(-1, 1) && !x.price(3, 1));
    }

    @Says(where = TERMS, sentence = REFUSED, edge = "the calls that ask")
    static void refusedQuestions(Check c) {
        DayColumn x = full();
        int sum = x.read(30, 0, 0) + x.read(0, 8, 0) + x.read(0, 0, 2) + x.readings(30) + x.told(30) + x.day(30, 0)
            + x.day(0, 2) + x.kind(30) + x.second(30) + x.many(4) + x.number(0, 0, 0) + x.write(-1, 0, 0)
            + x.write(0, 8, 0) + x.write(0, 0, 24) + x.same(30) + x.count(4);
        boolean thrown = Check.partThrows(x, -1, 0) && Check.partThrows(x, 0, 4);
        changesNothing(c, "each that asks", x, sum == -16 && thrown);
    }

    @Says(where = TERMS, sentence = "The constants: NONE = -1: There is none; refused.", edge = "its number")
    static void none(Check c) {
        c.due("NONE", DayColumn.NONE, -1);
        c.due("there is none", new DayColumn().cost(), DayColumn.NONE);
        c.due("refused", new DayColumn().style(0), DayColumn.NONE);
    }

    @Says(where = "What it is", sentence = "An object is used for at most 512 calls after it has been made;",
        edge = "the 512th call")
    static void fiveHundredAndTwelveCalls(Check c) {
        DayColumn x = Check.rows(Check.styles("D/M/Y", "M/D/Y"), "3/4/2001", "24/4/2001");
        // A text of up to eight bytes takes end, feed and style or row, one of nine bytes a feed more.
        int made = 3 + 3 + 3 + 4;
        for (int call = made + 1; call <= 511; call++) {
            c.due("call " + call, x.price(1, call % 2 * 10), true);
        }
        c.due("the 512th call", x.kind(0), 1);
    }
}
