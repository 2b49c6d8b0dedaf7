/** Promises 15 to 18: cells, their formulas, and kept results. */
public final class CellsTest {
    private static final long MISSING = Cubecaller.MISSING;
    private static final int SUM = Cubecaller.SUM;
    private static final int NUMBER = Cubecaller.NUMBER;
    private static final int LOOK = Cubecaller.LOOK;
    private static final int DATE = Cubecaller.DATE;
    private static final int PLUS = Cubecaller.PLUS;
    private static final int MINUS = Cubecaller.MINUS;
    private static final int TIMES = Cubecaller.TIMES;
    private static final int PER = Cubecaller.PER;

    public static void main(String[] args) {
        plusAndMinus();
        timesAndPer();
        bounds();
        boundsOfSums();
        lookBack();
        lookBackInTime();
        toDate();
        toDateInTime();
        toDateIsBounded();
        orders();
        chain();
        wideChain();
        ratioOfFormulas();
        refuses();
        keptAndHits();
        latestTwenty();
        droppedByFacts();
        notDropped();
        droppedByLast();
        droppedByRatio();
        droppedCalculated();
        droppedByAll();
        droppedWhereNothingIsMeant();
        droppedBySeen();
        Check.end("CellsTest");
    }

    /** Puts words of three numbers each. */
    private static void words(Cubecaller x, int... words) {
        for (int i = 0; i < words.length; i += 3) {
            x.word(words[i], words[i + 1], words[i + 2]);
        }
    }

    private static int calculated(Cubecaller x, int dimension, int order, int... words) {
        words(x, words);
        return x.calculate(dimension, order);
    }

    /** The members 1 and 2 of the dimension 1 have 7 and 2, the member 3 nothing, the member 4 0. */
    private static void shop(Cubecaller x) {
        x.measure(SUM, 0, 0);
        for (int i = 1; i < 5; i++) {
            x.member(1, 0, 1);
        }
        x.fact(0, 1, 0, 0, 7);
        x.fact(0, 2, 0, 0, 2);
        x.fact(0, 4, 0, 0, 0);
    }

    private static long formula(int what, int lower, int upper) {
        Cubecaller x = new Cubecaller();
        shop(x);
        int member = calculated(x, 1, 0, LOOK, lower, 0, LOOK, upper, 0, what, 0, 0);
        return x.cell(0, member, 0, 0);
    }

    private static void plusAndMinus() {
        Check.of("Terms: CALCULATED MEMBERS");
        Check.due("7 + 2", formula(PLUS, 1, 2), 9);
        Check.due("7 + missing", formula(PLUS, 1, 3), 7);
        Check.due("missing + 2", formula(PLUS, 3, 2), 2);
        Check.due("missing + missing", formula(PLUS, 3, 3), MISSING);
        Check.due("7 - 2", formula(MINUS, 1, 2), 5);
        Check.due("2 - 7", formula(MINUS, 2, 1), -5);
        Check.due("7 - missing", formula(MINUS, 1, 3), 7);
        Check.due("missing - 7", formula(MINUS, 3, 1), -7);
        Check.due("missing - missing", formula(MINUS, 3, 3), MISSING);
        Check.due("0 + missing", formula(PLUS, 4, 3), 0);
        Check.due("missing - 0", formula(MINUS, 3, 4), 0);
    }

    private static void timesAndPer() {
        Check.of("Terms: CALCULATED MEMBERS");
        Check.due("7 * 2", formula(TIMES, 1, 2), 14);
        Check.due("7 * 0", formula(TIMES, 1, 4), 0);
        Check.due("0 * 7", formula(TIMES, 4, 1), 0);
        Check.due("7 * missing", formula(TIMES, 1, 3), MISSING);
        Check.due("missing * 0", formula(TIMES, 3, 4), MISSING);
        Check.due("7 per 2", formula(PER, 1, 2), 3500);
        Check.due("2 per 7", formula(PER, 2, 1), 285);
        Check.due("0 per 7", formula(PER, 4, 1), 0);
        Check.due("7 per 0", formula(PER, 1, 4), MISSING);
        Check.due("7 per missing", formula(PER, 1, 3), MISSING);
        Check.due("missing per 7", formula(PER, 3, 1), MISSING);
        Cubecaller x = new Cubecaller();
        shop(x);
        int member = calculated(x, 1, 0, NUMBER, -2, 0, NUMBER, 7, 0, PER, 0, 0);
        Check.due("rounded toward 0", x.cell(0, member, 0, 0), -285);
    }

    private static void bounds() {
        Check.of("Terms: CALCULATED MEMBERS");
        Cubecaller x = new Cubecaller();
        shop(x);
        int million = 1000000;
        long bound = 1000000000000L;
        int square = calculated(x, 1, 0, NUMBER, million, 0, NUMBER, million, 0, TIMES, 0, 0);
        int more = calculated(x, 1, 0, LOOK, square, 0, NUMBER, 1, 0, PLUS, 0, 0);
        int twice = calculated(x, 1, 0, LOOK, square, 0, LOOK, square, 0, TIMES, 0, 0);
        int less = calculated(x, 1, 0, NUMBER, -1, 0, LOOK, square, 0, MINUS, 0, 0);
        int below = calculated(x, 1, 0, LOOK, less, 0, LOOK, square, 0, TIMES, 0, 0);
        int per = calculated(x, 1, 0, LOOK, square, 0, NUMBER, -999, 0, PER, 0, 0);
        int exact = calculated(x, 1, 0, LOOK, square, 0, NUMBER, -1000, 0, PER, 0, 0);
        Check.due("the bound itself", x.cell(0, square, 0, 0), bound);
        Check.due("1 more", x.cell(0, more, 0, 0), bound);
        Check.due("10 to the power of 24", x.cell(0, twice, 0, 0), bound);
        Check.due("1 less than below", x.cell(0, less, 0, 0), -bound);
        Check.due("10 to the power of 24 below 0", x.cell(0, below, 0, 0), -bound);
        Check.due("per 999", x.cell(0, per, 0, 0), -bound);
        Check.due("per 1000", x.cell(0, exact, 0, 0), -bound);
    }

    private static void boundsOfSums() {
        Check.of("Terms: CALCULATED MEMBERS");
        Cubecaller x = new Cubecaller();
        x.measure(SUM, 0, 0);
        int most = 1000000;
        int square = calculated(x, 1, 0, NUMBER, most, 0, NUMBER, most, 0, TIMES, 0, 0);
        int kept = calculated(x, 1, 0, LOOK, square, 0, LOOK, square, 0, PLUS, 0, 0, LOOK, square, 0, MINUS, 0, 0);
        int nearly = calculated(x, 1, 0, NUMBER, 999999, 0, NUMBER, 1000001 - 1, 0, TIMES, 0, 0);
        int product = calculated(x, 1, 0, LOOK, nearly, 0, NUMBER, -1, 0, TIMES, 0, 0);
        Check.due("each value is kept, then 0 is left", x.cell(0, kept, 0, 0), 0);
        Check.due("below the bound", x.cell(0, nearly, 0, 0), 999999000000L);
        Check.due("a product within the bound", x.cell(0, product, 0, 0), -999999000000L);
    }

    /** Time: 1 and 4 below 0; 2 and 3 below 1, 5 and 6 below 4; 7 below 6: the order 0 1 2 3 4 5 6 7. */
    private static void years(Cubecaller x) {
        x.measure(SUM, 0, 0);
        x.member(0, 0, 1);
        x.member(0, 1, 1);
        x.member(0, 1, 1);
        x.member(0, 0, 1);
        x.member(0, 4, 1);
        x.member(0, 4, 1);
        x.member(0, 6, 1);
        x.fact(2, 0, 0, 0, 1);
        x.fact(3, 0, 0, 0, 20);
        x.fact(5, 0, 0, 0, 300);
        x.fact(6, 0, 0, 0, 4000);
    }

    private static void lookBack() {
        Check.of("Terms: CALCULATED MEMBERS");
        Cubecaller x = new Cubecaller();
        years(x);
        int one = calculated(x, 1, 0, LOOK, 0, 1);
        int two = calculated(x, 1, 0, LOOK, 0, 2);
        int three = calculated(x, 2, 0, LOOK, 0, 3);
        Check.due("1 back", x.cell(3, one, 0, 0), 1);
        Check.due("1 back to another parent's child", x.cell(5, one, 0, 0), 20);
        Check.due("2 back", x.cell(6, two, 0, 0), 20);
        Check.due("3 back", x.cell(6, 0, three, 0), 1);
        Check.due("there is none", x.cell(2, one, 0, 0), MISSING);
        Check.due("there is none 2 back", x.cell(3, two, 0, 0), MISSING);
        Check.due("of the depth 1", x.cell(4, one, 0, 0), 21);
        Check.due("of the depth 0", x.cell(0, one, 0, 0), MISSING);
        Check.due("alone of its depth", x.cell(7, one, 0, 0), MISSING);
        int bridge = x.bridge(0, 2 + 16);
        int still = calculated(x, 1, 0, LOOK, 0, 0);
        Check.due("steps with a BRIDGE of time", x.cell(bridge, one, 0, 0), MISSING);
        Check.due("no steps with a BRIDGE of time", x.cell(bridge, still, 0, 0), 4321);
        int twice = calculated(x, 1, 0, LOOK, one, 1);
        Check.due("1 back and 1 back", x.cell(6, twice, 0, 0), 20);
        int piled = calculated(x, 1, 0, NUMBER, 50000, 0, LOOK, one, 1, PLUS, 0, 0);
        Check.due("what is on the pile stays", x.cell(6, piled, 0, 0), 50020);
    }

    private static void lookBackInTime() {
        Check.of("Terms: CALCULATED MEMBERS");
        Cubecaller x = new Cubecaller();
        years(x);
        int bridge = x.bridge(0, 4 + 8);
        int back = calculated(x, 0, 0, LOOK, 5, 1);
        int of = calculated(x, 0, 0, LOOK, bridge, 0);
        int ofBack = calculated(x, 0, 0, LOOK, bridge, 1);
        Check.due("1 ahead of 5", x.cell(back, 0, 0, 0), 20);
        Check.due("a BRIDGE without steps", x.cell(of, 0, 0, 0), 21);
        Check.due("a BRIDGE with steps", x.cell(ofBack, 0, 0, 0), MISSING);
        Cubecaller y = new Cubecaller();
        years(y);
        int far = calculated(y, 0, 0, LOOK, 6, 11);
        Check.due("11 ahead", y.cell(far, 0, 0, 0), MISSING);
        int other = calculated(x, 1, 5, LOOK, 0, 1);
        Check.due("steps with a calculated member of time", x.cell(back, other, 0, 0), MISSING);
    }

    private static void toDate() {
        Check.of("Terms: CALCULATED MEMBERS");
        Cubecaller x = new Cubecaller();
        years(x);
        int date = calculated(x, 1, 0, DATE, 0, 0);
        Check.due("the first child", x.cell(2, date, 0, 0), 1);
        Check.due("both children", x.cell(3, date, 0, 0), 21);
        Check.due("of their own parent", x.cell(6, date, 0, 0), 4300);
        Check.due("of the depth 1", x.cell(4, date, 0, 0), 4321);
        Check.due("of the member 0", x.cell(0, date, 0, 0), 4321);
        Check.due("nothing below 7", x.cell(7, date, 0, 0), MISSING);
        int inner = calculated(x, 1, 0, LOOK, 0, 0, NUMBER, 2, 0, TIMES, 0, 0);
        int piled = calculated(x, 1, 0, NUMBER, 7, 0, DATE, inner, 0, PLUS, 0, 0);
        Check.due("what is on the pile stays", x.cell(6, piled, 0, 0), 8607);
        x.forget(5, 0, 0, 0);
        Check.due("one is missing", x.cell(6, date, 0, 0), 4000);
        x.forget(6, 0, 0, 0);
        Check.due("all are missing", x.cell(6, date, 0, 0), MISSING);
        int bridge = x.bridge(0, 2 + 16);
        Check.due("with a BRIDGE of time", x.cell(bridge, date, 0, 0), MISSING);
        x.member(0, 1, 1);
        x.fact(9, 0, 0, 0, 70);
        Check.due("up to this one alone", x.cell(3, date, 0, 0), 21);
        Check.due("by numbers", x.cell(9, date, 0, 0), 91);
    }

    private static void toDateInTime() {
        Check.of("Terms: CALCULATED MEMBERS");
        Cubecaller x = new Cubecaller();
        years(x);
        int bridge = x.bridge(0, 4 + 8);
        int date = calculated(x, 0, 0, DATE, 6, 0);
        int whole = calculated(x, 0, 0, DATE, 0, 0);
        int none = calculated(x, 0, 0, DATE, bridge, 0);
        Check.due("to the member that is looked at", x.cell(date, 0, 0, 0), 4300);
        Check.due("to the member 0", x.cell(whole, 0, 0, 0), 4321);
        Check.due("to a BRIDGE", x.cell(none, 0, 0, 0), MISSING);
        int later = calculated(x, 1, 0, DATE, 0, 0);
        Check.due("with a calculated member of time", x.cell(date, later, 0, 0), MISSING);
    }

    private static void toDateIsBounded() {
        Check.of("Terms: CALCULATED MEMBERS");
        Cubecaller x = new Cubecaller();
        x.measure(SUM, 0, 0);
        for (int i = 0; i < 4; i++) {
            x.member(0, 0, 1);
        }
        x.fact(1, 0, 0, 0, 1000000);
        x.fact(2, 0, 0, 0, 1000000);
        x.fact(3, 0, 0, 0, -1000000);
        int many = calculated(x, 1, 0, LOOK, 0, 0, NUMBER, 1000000, 0, TIMES, 0, 0);
        int date = calculated(x, 1, 0, DATE, many, 0);
        Check.due("the bound", x.cell(1, date, 0, 0), 1000000000000L);
        Check.due("kept by it", x.cell(2, date, 0, 0), 1000000000000L);
        Check.due("added one by one", x.cell(3, date, 0, 0), 0);
    }

    private static void orders() {
        Check.of("Terms: CALCULATED MEMBERS");
        Cubecaller x = new Cubecaller();
        x.measure(SUM, 0, 0);
        int time = calculated(x, 0, 5, NUMBER, 1, 0);
        int timeLow = calculated(x, 0, 4, NUMBER, 2, 0);
        int one = calculated(x, 1, 5, NUMBER, 10, 0);
        int two = calculated(x, 2, 5, NUMBER, 100, 0);
        int twoLow = calculated(x, 2, 4, NUMBER, 200, 0);
        Check.due("of several the highest dimension", x.cell(time, one, two, 0), 100);
        Check.due("of two", x.cell(time, one, 0, 0), 10);
        Check.due("of two others", x.cell(time, 0, two, 0), 100);
        Check.due("the greatest order", x.cell(time, one, twoLow, 0), 10);
        Check.due("the greatest order of time", x.cell(time, 0, twoLow, 0), 1);
        Check.due("of several with a lesser one", x.cell(timeLow, 0, twoLow, 0), 200);
        Check.due("alone", x.cell(timeLow, 0, 0, 0), 2);
        int look = calculated(x, 1, 9, LOOK, one, 0, LOOK, 0, 0, MINUS, 0, 0);
        Check.due("the others come in the cell looked at", x.cell(timeLow, look, 0, 0), 10 - 2);
        Check.due("with all three", x.cell(timeLow, look, two, 0), 100 - 100);
        Check.due("by another order", x.cell(timeLow, look, twoLow, 0), 10 - 200);
    }

    /** As many looks in a row as there can be: 11 calculated members in each dimension. */
    private static void chain() {
        Check.of("Terms: CALCULATED MEMBERS");
        Cubecaller x = new Cubecaller();
        x.measure(SUM, 0, 0);
        x.fact(0, 0, 0, 0, 1);
        for (int d = 0; d < 3; d++) {
            for (int i = 1; i < 12; i++) {
                calculated(x, d, i, LOOK, i - 1, 0, NUMBER, 1, 0, PLUS, 0, 0);
            }
        }
        Check.due("33 looks", x.cell(11, 11, 11, 0), 34);
        Check.due("again anew", x.cellAnew(11, 11, 11, 0), 34);
        Cubecaller y = new Cubecaller();
        y.measure(SUM, 0, 0);
        y.fact(0, 0, 0, 0, 1);
        for (int d = 1; d < 3; d++) {
            for (int i = 1; i < 12; i++) {
                calculated(y, d, i, NUMBER, 1, 0, DATE, i - 1, 0, PLUS, 0, 0);
            }
        }
        Check.due("22 to date", y.cell(0, 11, 11, 0), 23);
    }

    /** Each member looks five times at the one below: without a memory that would never end. */
    private static void wideChain() {
        Check.of("Terms: CALCULATED MEMBERS");
        Cubecaller x = new Cubecaller();
        x.measure(SUM, 0, 0);
        x.fact(0, 0, 0, 0, 1);
        for (int d = 0; d < 3; d++) {
            for (int i = 1; i < 12; i++) {
                int at = i - 1;
                calculated(x, d, 0, LOOK, at, 0, LOOK, at, 0, PLUS, 0, 0, LOOK, at, 0, PLUS, 0, 0,
                        LOOK, at, 0, PLUS, 0, 0, LOOK, at, 0, PLUS, 0, 0);
            }
        }
        Check.due("5 to the power of 17", x.cell(5, 6, 6, 0), 762939453125L);
        Check.due("kept by the bound", x.cell(11, 11, 11, 0), 1000000000000L);
    }

    private static void ratioOfFormulas() {
        Check.of("Terms: CALCULATED MEMBERS");
        Cubecaller x = new Cubecaller();
        x.measure(SUM, 0, 0);
        x.measure(SUM, 0, 0);
        x.measure(Cubecaller.RATIO, 0, 1);
        x.member(1, 0, 1);
        x.member(1, 0, 1);
        x.fact(0, 1, 0, 0, 6);
        x.fact(0, 1, 0, 1, 2);
        x.fact(0, 2, 0, 0, 4);
        x.fact(0, 2, 0, 1, 8);
        int sum = calculated(x, 1, 0, LOOK, 1, 0, LOOK, 2, 0, PLUS, 0, 0);
        Check.due("the formula of two ratios", x.cell(0, sum, 0, 2), 3500);
        Check.due("the ratio above", x.cell(0, 0, 0, 2), 1000);
        Check.due("for the first measure", x.cell(0, sum, 0, 0), 10);
    }

    private static void refuses() {
        Check.of("Promise 15: cell");
        Check.Act build = x -> {
            shop(x);
            x.cell(0, 1, 0, 0);
        };
        int[][] wrong = {{1, 0, 0, 0}, {-1, 0, 0, 0}, {0, 5, 0, 0}, {0, -1, 0, 0}, {0, 0, 1, 0}, {0, 0, -1, 0},
            {0, 0, 0, 1}, {0, 0, 0, -1}};
        for (int[] c : wrong) {
            Check.refuses("cell that there is not", Check.INDEX, build, x -> x.cell(c[0], c[1], c[2], c[3]));
            Check.refuses("cell anew that there is not", Check.INDEX, build, x -> x.cellAnew(c[0], c[1], c[2], c[3]));
        }
    }

    private static void keptAndHits() {
        Check.of("Promise 18: hits");
        Cubecaller x = new Cubecaller();
        shop(x);
        Check.due("none at first", x.kept(), 0);
        x.cell(0, 1, 0, 0);
        Check.due("one is kept", x.kept(), 1);
        Check.due("it was no hit", x.hits(), 0);
        Check.due("a hit", x.cell(0, 1, 0, 0), 7);
        Check.due("hits", x.hits(), 1);
        Check.due("one is kept still", x.kept(), 1);
        Check.due("missing", x.cell(0, 3, 0, 0), MISSING);
        Check.due("missing is kept", x.kept(), 2);
        x.cell(0, 3, 0, 0);
        Check.due("missing is a hit", x.hits(), 2);
        Check.due("anew", x.cellAnew(0, 2, 0, 0), 2);
        Check.due("nothing is kept by it", x.kept(), 2);
        Check.due("anew of what is kept", x.cellAnew(0, 1, 0, 0), 7);
        Check.due("no hit", x.hits(), 2);
        x.measure(SUM, 0, 0);
        x.cell(0, 1, 0, 0);
        x.cell(0, 1, 0, 1);
        Check.due("another measure is another cell", x.kept(), 2);
        Check.due("no hit", x.hits(), 2);
    }

    private static void latestTwenty() {
        Check.of("Terms: KEPT RESULTS");
        Cubecaller x = new Cubecaller();
        x.measure(SUM, 0, 0);
        for (int i = 1; i < 12; i++) {
            x.member(1, 0, 1);
            x.member(2, 0, 1);
        }
        for (int i = 0; i < 20; i++) {
            x.cell(0, i / 2, i % 2, 0);
        }
        Check.due("20", x.kept(), 20);
        x.cell(0, 0, 0, 0);
        Check.due("the first one is a hit", x.hits(), 1);
        x.cell(0, 10, 0, 0);
        Check.due("20 still", x.kept(), 20);
        x.cell(0, 0, 1, 0);
        Check.due("the second one is a hit", x.hits(), 2);
        x.cell(0, 0, 0, 0);
        Check.due("the first one did not become later", x.hits(), 2);
        x.cell(0, 0, 1, 0);
        Check.due("the second one went then", x.hits(), 2);
        x.cell(0, 10, 0, 0);
        Check.due("the 21st is there", x.hits(), 3);
        x.cell(0, 1, 1, 0);
        Check.due("the fourth one too", x.hits(), 4);
        x.cell(0, 1, 0, 0);
        Check.due("the third one went", x.hits(), 4);
        Cubecaller y = new Cubecaller();
        y.measure(SUM, 0, 0);
        y.member(0, 0, 1);
        for (int i = 1; i < 12; i++) {
            y.member(1, 0, 1);
            y.fact(0, i, 0, 0, i);
            y.fact(1, i, 0, 0, i * 100);
        }
        for (int i = 0; i < 22; i++) {
            y.cell(i / 11, 1 + i % 11, 0, 0);
        }
        for (int i = 2; i < 22; i++) {
            long want = i < 11 ? (i + 1) * 101 : (i - 10) * 100;
            Check.due("each of the latest 20 has its own", y.cell(i / 11, 1 + i % 11, 0, 0), want);
        }
        Check.due("all were hits", y.hits(), 20);
        y.fact(1, 5, 0, 0, 7);
        Check.due("two are dropped among them", y.kept(), 18);
        for (int i = 2; i < 22; i++) {
            int one = 1 + i % 11;
            if (one != 5) {
                Check.due("the others still", y.cell(i / 11, one, 0, 0), i < 11 ? one * 101 : one * 100);
            }
        }
        Check.due("all were hits again", y.hits(), 38);
    }

    /** Asks the cell and tells whether it was kept. */
    private static boolean hit(Cubecaller x, int time, int one, int two, int measure) {
        int before = x.hits();
        x.cell(time, one, two, measure);
        return x.hits() > before;
    }

    private static void droppedByFacts() {
        Check.of("Terms: KEPT RESULTS");
        Cubecaller x = new Cubecaller();
        shop(x);
        x.cell(0, 0, 0, 0);
        x.cell(0, 1, 0, 0);
        x.cell(0, 2, 0, 0);
        x.fact(0, 1, 0, 0, 8);
        Check.due("two are dropped", x.kept(), 1);
        Check.due("the other one is there", hit(x, 0, 2, 0, 0), true);
        Check.due("a new value", x.cell(0, 0, 0, 0), 10);
        Check.due("a new value", x.cell(0, 1, 0, 0), 8);
        x.fact(0, 3, 0, 0, 1);
        Check.due("by one made", x.kept(), 2);
        Check.due("its cell", x.cell(0, 0, 0, 0), 11);
        x.forget(0, 3, 0, 0);
        Check.due("by one taken away", x.kept(), 2);
        Check.due("its cell", x.cell(0, 0, 0, 0), 10);
        x.write(0, 1, 0, 0, 5, 0);
        Check.due("by one written", x.kept(), 1);
        x.cell(0, 1, 0, 0);
        x.cell(0, 0, 0, 0);
        x.write(0, 3, 0, 0, 5, 0);
        Check.due("by one made by writing", x.kept(), 2);
        Check.due("its cell", x.cell(0, 0, 0, 0), 12);
    }

    private static void notDropped() {
        Check.of("Terms: KEPT RESULTS");
        Cubecaller x = new Cubecaller();
        shop(x);
        x.measure(SUM, 0, 0);
        x.member(1, 0, 0);
        x.cell(0, 0, 0, 0);
        x.cell(0, 1, 0, 0);
        x.fact(0, 1, 0, 0, 7);
        Check.due("by the same number nothing is", x.kept(), 2);
        x.write(0, 1, 0, 0, 7, 0);
        Check.due("nor by writing it", x.kept(), 2);
        x.fact(0, 1, 0, 1, 9);
        Check.due("nor by another measure", x.kept(), 2);
        x.fact(0, 5, 0, 0, 9);
        Check.due("nor with the weight 0", x.kept(), 2);
        x.begin();
        x.end(true);
        Check.due("nor by a session that is kept", x.kept(), 2);
        x.word(NUMBER, 1, 0);
        x.at(1, 1);
        x.pick(1, 0, 0, 0, 3);
        x.cross(0, 1, 0);
        x.memberAt(0, 0, 0);
        x.picked(1, 0);
        Check.due("nor by calls that change no member", x.kept(), 2);
        x.fact(0, 2, 0, 0, 9);
        Check.due("by what was written alone", x.kept(), 1);
        Check.due("what is left is a hit", hit(x, 0, 1, 0, 0), true);
    }

    private static void droppedByLast() {
        Check.of("Terms: KEPT RESULTS");
        Cubecaller x = new Cubecaller();
        x.measure(Cubecaller.LAST, 0, 0);
        x.member(0, 0, 1);
        x.member(0, 0, 1);
        x.fact(2, 0, 0, 0, 5);
        x.cell(0, 0, 0, 0);
        x.cell(2, 0, 0, 0);
        x.fact(1, 0, 0, 0, 7);
        Check.due("whatever time stands last", x.kept(), 1);
        Check.due("another time", hit(x, 2, 0, 0, 0), true);
        Check.due("the last one still", x.cell(0, 0, 0, 0), 5);
        x.forget(1, 0, 0, 0);
        Check.due("by what is taken away too", x.kept(), 1);
    }

    private static void droppedByRatio() {
        Check.of("Terms: KEPT RESULTS");
        Cubecaller x = new Cubecaller();
        x.measure(SUM, 0, 0);
        x.measure(SUM, 0, 0);
        x.measure(Cubecaller.RATIO, 1, 1);
        x.measure(Cubecaller.RATIO, 2, 1);
        x.member(1, 0, 1);
        for (int m = 0; m < 4; m++) {
            x.cell(0, 0, 0, m);
            x.cell(0, 1, 0, m);
        }
        x.fact(0, 0, 0, 0, 3);
        Check.due("one that no RATIO needs", x.kept(), 7);
        x.fact(0, 0, 0, 1, 3);
        Check.due("by a RATIO over another one", x.kept(), 4);
        Check.due("where it does not count", hit(x, 0, 1, 0, 3), true);
        Check.due("a new value", x.cell(0, 0, 0, 3), 333333);
        x.fact(0, 1, 0, 1, 4);
        Check.due("all that need it", x.kept(), 1);
    }

    private static void droppedCalculated() {
        Check.of("Terms: KEPT RESULTS");
        Cubecaller x = new Cubecaller();
        shop(x);
        x.measure(SUM, 0, 0);
        int time = calculated(x, 0, 0, NUMBER, 1, 0);
        int one = calculated(x, 1, 0, NUMBER, 1, 0);
        int two = calculated(x, 2, 0, NUMBER, 1, 0);
        x.cell(time, 1, 0, 0);
        x.cell(0, one, 0, 1);
        x.cell(0, 1, two, 1);
        x.cell(0, 1, 0, 1);
        x.fact(0, 2, 0, 0, 99);
        Check.due("all that have a calculated member", x.kept(), 1);
        Check.due("the other one is there", hit(x, 0, 1, 0, 1), true);
        x.cell(time, one, two, 1);
        x.fact(0, 2, 0, 0, 99);
        Check.due("not by the same number", x.kept(), 2);
        x.forget(0, 2, 0, 0);
        Check.due("by one taken away", x.kept(), 1);
    }

    private static void droppedByAll() {
        Check.of("Terms: KEPT RESULTS");
        Check.Act[] drops = {
            x -> x.member(2, 0, 1), x -> x.bridge(2, 1), x -> x.move(1, 2, 1, 0), x -> x.calculate(2, 0),
            x -> x.hide(1, 4, false), x -> x.asNow(false), x -> x.totals(false), x -> x.measure(SUM, 0, 0),
            x -> x.from(0, 0, 0), x -> x.end(false)
        };
        for (int i = 0; i < drops.length; i++) {
            Cubecaller x = new Cubecaller();
            shop(x);
            x.word(NUMBER, 1, 0);
            x.begin();
            x.cell(0, 1, 0, 0);
            x.cell(0, 2, 0, 0);
            drops[i].on(x);
            Check.due("all are dropped by " + i, x.kept(), 0);
            Check.due("no hit after " + i, hit(x, 0, 1, 0, 0), false);
        }
    }

    private static void droppedWhereNothingIsMeant() {
        Check.of("Terms: KEPT RESULTS");
        Cubecaller x = new Cubecaller();
        shop(x);
        x.from(0, 1, 1);
        x.cell(0, 0, 0, 0);
        x.cell(0, 1, 0, 0);
        x.fact(0, 2, 0, 0, 5);
        Check.due("whatever it means nothing above", x.kept(), 1);
        Check.due("the missing one was dropped", hit(x, 0, 0, 0, 0), false);
    }

    private static void droppedBySeen() {
        Check.of("Terms: KEPT RESULTS");
        Cubecaller x = new Cubecaller();
        shop(x);
        x.hide(1, 2, true);
        x.cell(0, 0, 0, 0);
        x.fact(0, 2, 0, 0, 5);
        Check.due("what is not seen counts", x.kept(), 0);
        x.totals(true);
        x.cell(0, 0, 0, 0);
        x.fact(0, 2, 0, 0, 6);
        Check.due("left out it does not", x.kept(), 1);
        x.cell(0, 2, 0, 0);
        Check.due("what is not seen is not kept", x.kept(), 1);
        Check.due("nor is it a hit", hit(x, 0, 2, 0, 0), false);
    }
}
