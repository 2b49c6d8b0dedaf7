/** The edges of the 'Terms' KEPT RESULTS, and of the promises 15 to 18. */
public final class KeptEdgesTest {
    private static final long MISSING = Cubecaller.MISSING;
    private static final int SUM = Cubecaller.SUM;
    private static final int LAST = Cubecaller.LAST;
    private static final int DIFFERENT = Cubecaller.DIFFERENT;
    private static final int RATIO = Cubecaller.RATIO;

    public static void main(String[] args) {
        whatIsKept();
        whatIsAHit();
        cellAnew();
        madeChangedTakenAway();
        withWhatItCounts();
        byEachDimension();
        asThenAndNow();
        lastWhateverStandsLast();
        differentWhateverTheNumber();
        byMeasures();
        whateverItMeansNothing();
        calculatedOfEach();
        byWhatIsWritten();
        sessions();
        byTheCallsThatDrop();
        notByThoseThatThrow();
        notByOthers();
        Check.end("KeptEdgesTest");
    }

    private static boolean hit(Cubecaller x, int time, int one, int two, int measure) {
        int before = x.hits();
        x.cell(time, one, two, measure);
        return x.hits() > before;
    }

    /** Two members below 0 in each dimension, a SUM, and a fact of 5 for the members 1. */
    private static Cubecaller small() {
        Cubecaller x = new Cubecaller();
        build(x);
        return x;
    }

    private static void build(Cubecaller x) {
        x.measure(SUM, 0, 0);
        for (int d = 0; d < 3; d++) {
            x.member(d, 0, 1);
            x.member(d, 0, 1);
        }
        x.fact(1, 1, 1, 0, 5);
    }

    private static void whatIsKept() {
        Check.of("Promise 17: kept");
        Cubecaller x = small();
        Check.due("none", x.kept(), 0);
        for (int i = 0; i < 19; i++) {
            x.cell(i % 3, i / 3 % 3, i / 9, 0);
            Check.due("each is kept", x.kept(), i + 1);
        }
        x.cell(0, 0, 0, 0);
        Check.due("one that is kept is not kept twice", x.kept(), 19);
        x.cell(1, 0, 2, 0);
        Check.due("a 20th", x.kept(), 20);
        x.cell(2, 0, 2, 0);
        Check.due("with a 21st there are 20", x.kept(), 20);
        x.measure(SUM, 0, 0);
        Check.due("none again", x.kept(), 0);
        x.cell(2, 2, 2, 0);
        Check.due("one that is missing", x.kept(), 1);
        x.cell(2, 2, 2, 1);
        Check.due("of each measure", x.kept(), 2);
    }

    private static void whatIsAHit() {
        Check.of("Promise 18: hits");
        Cubecaller x = small();
        Check.due("the first time", hit(x, 1, 1, 1, 0), false);
        Check.due("the second time", hit(x, 1, 1, 1, 0), true);
        Check.due("the third time", hit(x, 1, 1, 1, 0), true);
        Check.due("another time", hit(x, 2, 1, 1, 0), false);
        Check.due("another one", hit(x, 1, 2, 1, 0), false);
        Check.due("another two", hit(x, 1, 1, 2, 0), false);
        Check.due("missing", hit(x, 1, 1, 2, 0), true);
        Check.due("hits stay when all are dropped", x.hide(1, 1, false), false);
        Check.due("three of them", x.hits(), 3);
        Check.due("dropped, no hit", hit(x, 1, 1, 1, 0), false);
        x.begin();
        x.end(false);
        Check.due("they stay when a session is dropped", x.hits(), 3);
        Check.due("a value that is a hit", x.cell(1, 1, 1, 0), 5);
        Check.due("a hit's value", x.cell(1, 1, 1, 0), 5);
        Check.due("four", x.hits(), 4);
    }

    private static void cellAnew() {
        Check.of("Promise 16: cellAnew");
        Cubecaller x = small();
        Check.due("the value", x.cellAnew(0, 0, 0, 0), 5);
        Check.due("missing", x.cellAnew(2, 0, 0, 0), MISSING);
        Check.due("nothing is kept", x.kept(), 0);
        Check.due("so it is no hit", hit(x, 0, 0, 0, 0), false);
        x.cellAnew(0, 0, 0, 0);
        Check.due("nor is this one", x.hits(), 0);
        for (int i = 1; i < 20; i++) {
            x.cell(i % 3, i / 3 % 3, i / 9, 0);
        }
        Check.due("twenty", x.kept(), 20);
        x.cellAnew(2, 2, 2, 0);
        Check.due("twenty still", x.kept(), 20);
        Check.due("the first was not driven out", hit(x, 0, 0, 0, 0), true);
    }

    private static void madeChangedTakenAway() {
        Check.of("Terms: KEPT RESULTS");
        Cubecaller x = small();
        x.cell(0, 0, 0, 0);
        x.fact(2, 2, 2, 0, 0);
        Check.due("one of 0 is made", x.kept(), 0);
        x.cell(0, 0, 0, 0);
        x.fact(2, 2, 2, 0, 0);
        Check.due("it gets no other number", x.kept(), 1);
        x.fact(2, 2, 2, 0, 1);
        Check.due("it gets another number", x.kept(), 0);
        x.cell(0, 0, 0, 0);
        x.fact(2, 2, 2, 0, -1);
        Check.due("one below 0", x.kept(), 0);
        x.cell(0, 0, 0, 0);
        x.forget(2, 2, 2, 0);
        Check.due("it is taken away", x.kept(), 0);
        Check.due("the value then", x.cell(0, 0, 0, 0), 5);
        x.fact(2, 2, 2, 0, 0);
        x.cell(0, 0, 0, 0);
        x.forget(2, 2, 2, 0);
        Check.due("one of 0 is taken away", x.kept(), 0);
    }

    private static void withWhatItCounts() {
        Check.of("Terms: KEPT RESULTS");
        Cubecaller x = new Cubecaller();
        x.measure(SUM, 0, 0);
        x.member(1, 0, 1);
        x.member(1, 1, 0);
        x.member(1, 1, -1);
        x.bridge(1, 2 + 4);
        x.bridge(1, 4);
        x.bridge(1, 8 + 4);
        int[] cells = {0, 1, 2, 3, 4, 5, 6};
        boolean[] zero = {false, false, true, false, false, true, true};
        boolean[] minus = {true, true, false, true, true, false, true};
        for (int one : cells) {
            x.cell(0, one, 0, 0);
        }
        x.fact(0, 2, 0, 0, 9);
        for (int one : cells) {
            Check.due("by a fact of 2, sign 0: " + one, hit(x, 0, one, 0, 0), !zero[one]);
        }
        x.fact(0, 3, 0, 0, 9);
        for (int one : cells) {
            Check.due("by a fact of 3, sign -1: " + one, hit(x, 0, one, 0, 0), !minus[one]);
        }
        x.fact(0, 0, 0, 0, 9);
        for (int one : cells) {
            Check.due("by a fact of 0: " + one, hit(x, 0, one, 0, 0), one != 0);
        }
    }

    private static void byEachDimension() {
        Check.of("Terms: KEPT RESULTS");
        for (int i = 0; i < 27; i++) {
            Cubecaller x = small();
            for (int j = 0; j < 18; j++) {
                x.cell(j % 3, j / 3 % 3, j / 9, 0);
            }
            x.fact(i % 3, i / 3 % 3, i / 9, 0, 3);
            int left = 0;
            for (int j = 0; j < 18; j++) {
                boolean over = isIn(j % 3, i % 3) && isIn(j / 3 % 3, i / 3 % 3) && isIn(j / 9, i / 9);
                left += over ? 0 : 1;
            }
            Check.due("those over it are dropped", x.kept(), left);
            for (int j = 0; j < 18; j++) {
                boolean over = isIn(j % 3, i % 3) && isIn(j / 3 % 3, i / 3 % 3) && isIn(j / 9, i / 9);
                Check.due("the others are there", over || hit(x, j % 3, j / 3 % 3, j / 9, 0), true);
            }
        }
    }

    private static boolean isIn(int over, int member) {
        return over == 0 || over == member;
    }

    private static void asThenAndNow() {
        Check.of("Terms: KEPT RESULTS");
        for (int now = 0; now < 2; now++) {
            Cubecaller x = small();
            x.member(1, 1, 1);
            x.move(1, 3, 2, 2);
            x.asNow(now == 1);
            for (int one = 0; one < 4; one++) {
                x.cell(0, one, 0, 0);
            }
            x.fact(1, 3, 0, 0, 4);
            Check.due("ahead of the move 1 has it, as now 2", hit(x, 0, 1, 0, 0), now == 1);
            Check.due("2", hit(x, 0, 2, 0, 0), now == 0);
            x.fact(2, 3, 0, 0, 4);
            Check.due("from the move on 2 has it", hit(x, 0, 2, 0, 0), false);
            Check.due("and 1 has not", hit(x, 0, 1, 0, 0), true);
        }
    }

    private static void lastWhateverStandsLast() {
        Check.of("Terms: KEPT RESULTS");
        for (int last = 1; last < 4; last++) {
            for (int changed = 0; changed < 4; changed++) {
                Cubecaller x = new Cubecaller();
                x.measure(LAST, 0, 0);
                for (int i = 1; i < 4; i++) {
                    x.member(0, 0, 1);
                }
                x.fact(last, 0, 0, 0, 5);
                for (int time = 0; time < 4; time++) {
                    x.cell(time, 0, 0, 0);
                }
                x.fact(changed, 0, 0, 0, 6);
                for (int time = 0; time < 4; time++) {
                    Check.due("last " + last + ", changed " + changed + ", cell " + time, hit(x, time, 0, 0, 0),
                            time != 0 && time != changed);
                }
                Check.due("its value", x.cell(0, 0, 0, 0), changed >= last ? 6 : 5);
            }
        }
    }

    private static void differentWhateverTheNumber() {
        Check.of("Terms: KEPT RESULTS");
        Cubecaller x = new Cubecaller();
        x.measure(DIFFERENT, 0, 0);
        x.member(1, 0, 1);
        x.member(1, 0, 1);
        x.fact(0, 1, 0, 0, 5);
        x.cell(0, 0, 0, 0);
        x.cell(0, 1, 0, 0);
        x.fact(0, 2, 0, 0, 5);
        Check.due("one of the same number is made", x.kept(), 1);
        Check.due("the value is as it was", x.cell(0, 0, 0, 0), 1);
        x.fact(0, 2, 0, 0, 6);
        Check.due("it gets another number", x.kept(), 1);
        Check.due("two", x.cell(0, 0, 0, 0), 2);
        x.fact(0, 2, 0, 0, 7);
        Check.due("and one more", x.kept(), 1);
        Check.due("two still", x.cell(0, 0, 0, 0), 2);
    }

    private static void byMeasures() {
        Check.of("Terms: KEPT RESULTS");
        int[][] measures = {{SUM, SUM, RATIO, RATIO}, {SUM, DIFFERENT, RATIO, LAST}, {SUM, RATIO, LAST, RATIO}};
        int[][] firsts = {{0, 0, 0, 2}, {0, 0, 1, 0}, {0, 0, 0, 1}};
        int[][] seconds = {{0, 0, 0, 1}, {0, 0, 1, 0}, {0, 0, 0, 2}};
        // The bits of the measures that are dropped by a fact of each measure.
        int[][] dropped = {{1 + 4 + 8, 2 + 8, 0, 0}, {1, 2 + 4, 0, 8}, {1 + 2 + 8, 0, 4 + 8, 0}};
        for (int i = 0; i < measures.length; i++) {
            for (int written = 0; written < 4; written++) {
                if (measures[i][written] == RATIO) {
                    continue;
                }
                Cubecaller x = new Cubecaller();
                for (int m = 0; m < 4; m++) {
                    x.measure(measures[i][m], firsts[i][m], seconds[i][m]);
                }
                for (int m = 0; m < 4; m++) {
                    x.cell(0, 0, 0, m);
                }
                x.fact(0, 0, 0, written, 1);
                for (int m = 0; m < 4; m++) {
                    Check.due("measures " + i + ", " + m + " by " + written, hit(x, 0, 0, 0, m), (dropped[i][written] >> m & 1) == 0);
                }
            }
        }
    }

    private static void whateverItMeansNothing() {
        Check.of("Terms: KEPT RESULTS");
        Cubecaller x = small();
        x.measure(RATIO, 0, 0);
        x.from(0, 0, 1);
        x.from(1, 0, 1);
        for (int m = 0; m < 2; m++) {
            x.cell(0, 0, 0, m);
            x.cell(1, 0, 0, m);
            x.cell(2, 0, 0, m);
        }
        x.fact(1, 1, 1, 0, 6);
        for (int m = 0; m < 2; m++) {
            Check.due("missing, and dropped", hit(x, 0, 0, 0, m), false);
            Check.due("of 1 dropped", hit(x, 1, 0, 0, m), false);
            Check.due("of 2 there", hit(x, 2, 0, 0, m), true);
        }
        x.from(0, 0, 11);
        x.cell(1, 1, 1, 1);
        x.fact(1, 1, 1, 0, 7);
        Check.due("a RATIO, whatever the other one means nothing above", hit(x, 1, 1, 1, 1), false);
    }

    private static void calculatedOfEach() {
        Check.of("Terms: KEPT RESULTS");
        for (int d = 0; d < 3; d++) {
            Cubecaller x = small();
            x.measure(SUM, 0, 0);
            x.word(Cubecaller.NUMBER, 7, 0);
            x.calculate(d, 0);
            int[] c = {2, 2, 2};
            c[d] = 3;
            x.cell(c[0], c[1], c[2], 0);
            x.cell(2, 2, 2, 0);
            x.fact(1, 1, 1, 0, 6);
            Check.due("where the fact does not count", hit(x, c[0], c[1], c[2], 0), false);
            x.fact(1, 1, 1, 1, 6);
            Check.due("by another measure", hit(x, c[0], c[1], c[2], 0), false);
            x.forget(1, 1, 1, 1);
            Check.due("by one taken away", hit(x, c[0], c[1], c[2], 0), false);
            x.write(1, 1, 1, 0, 8, 0);
            Check.due("by one written", hit(x, c[0], c[1], c[2], 0), false);
            x.write(1, 1, 1, 0, 8, 0);
            Check.due("not by the same number", hit(x, c[0], c[1], c[2], 0), true);
            x.begin();
            x.end(true);
            Check.due("not by a session that is kept", hit(x, c[0], c[1], c[2], 0), true);
            Check.due("the other one is there always", hit(x, 2, 2, 2, 0), true);
        }
    }

    private static void byWhatIsWritten() {
        Check.of("Terms: KEPT RESULTS");
        Cubecaller x = new Cubecaller();
        x.measure(SUM, 0, 0);
        for (int i = 1; i < 5; i++) {
            x.member(1, 0, 1);
            x.fact(0, i, 0, 0, i);
        }
        for (int i = 0; i < 5; i++) {
            x.cell(0, i, 0, 0);
        }
        Check.due("of 1, 2, 3 and 4 all but 3 get another number", x.write(0, 0, 0, 0, 11, Cubecaller.EQUAL), 3);
        boolean[] there = {false, false, false, true, false};
        for (int i = 0; i < 5; i++) {
            Check.due("cell " + i, hit(x, 0, i, 0, 0), there[i]);
        }
        Check.due("the first alone", x.write(0, 0, 0, 0, 50, Cubecaller.REST), 1);
        for (int i = 0; i < 5; i++) {
            Check.due("cell " + i + " by REST", hit(x, 0, i, 0, 0), i > 1);
        }
        Check.due("none", x.write(0, 0, 0, 0, 50, Cubecaller.REST), 0);
        Check.due("nothing is dropped", x.kept(), 5);
        x.member(1, 0, 1);
        x.cell(0, 5, 0, 0);
        x.cell(0, 1, 0, 0);
        Check.due("one that is made", x.write(0, 5, 0, 0, 0, Cubecaller.EQUAL), 1);
        Check.due("its cell is dropped", x.kept(), 1);
    }

    private static void sessions() {
        Check.of("Terms: KEPT RESULTS");
        Cubecaller x = small();
        x.cell(0, 0, 0, 0);
        x.cell(2, 0, 0, 0);
        x.begin();
        Check.due("not by its begin", x.kept(), 2);
        x.fact(1, 1, 1, 0, 6);
        Check.due("by facts as ever", x.kept(), 1);
        Check.due("a new value", x.cell(0, 0, 0, 0), 6);
        x.end(true);
        Check.due("not when it is kept", x.kept(), 2);
        x.begin();
        x.end(false);
        Check.due("all when it is dropped, though nothing was written", x.kept(), 0);
        x.begin();
        x.fact(1, 1, 1, 0, 7);
        Check.due("within", x.cell(0, 0, 0, 0), 7);
        x.end(false);
        Check.due("as it was", x.cell(0, 0, 0, 0), 6);
    }

    /** Each of them drops all, even where nothing is another than it was. */
    private static void byTheCallsThatDrop() {
        Check.of("Terms: KEPT RESULTS");
        Check.Act[] drops = {
            x -> x.member(0, 0, 0), x -> x.member(1, 2, 1), x -> x.member(2, 2, -1), x -> x.bridge(0, 1), x -> x.bridge(1, 2),
            x -> x.bridge(2, 4), x -> x.move(1, 1, 0, 0), x -> x.move(2, 2, 1, 2), x -> x.calculate(0, 0),
            x -> x.calculate(1, 100), x -> x.calculate(2, 50), x -> x.hide(0, 1, true), x -> x.hide(1, 2, false),
            x -> x.hide(2, 1, false), x -> x.asNow(true), x -> x.asNow(false), x -> x.totals(true), x -> x.totals(false),
            x -> x.measure(SUM, 0, 0), x -> x.measure(RATIO, 0, 0), x -> x.from(0, 0, 0), x -> x.from(0, 2, 11)
        };
        for (int i = 0; i < drops.length; i++) {
            Cubecaller x = small();
            x.word(Cubecaller.NUMBER, 1, 0);
            x.cell(2, 2, 2, 0);
            x.cell(0, 0, 0, 0);
            drops[i].on(x);
            Check.due("all are dropped by " + i, x.kept(), 0);
            Check.due("no hit", hit(x, 2, 2, 2, 0), false);
            Check.due("kept anew", x.kept(), 1);
        }
    }

    private static void notByThoseThatThrow() {
        Check.of("Terms: KEPT RESULTS");
        Check.Act[] wrong = {
            x -> x.member(3, 0, 0), x -> x.member(0, 0, 2), x -> x.member(1, 3, 1), x -> x.bridge(0, 0), x -> x.bridge(1, 8),
            x -> x.bridge(1, 16), x -> x.move(1, 1, 1, 0), x -> x.move(0, 1, 0, 0), x -> x.calculate(0, 101),
            x -> x.calculate(0, 0), x -> x.hide(1, 0, true), x -> x.hide(1, 3, true), x -> x.measure(4, 0, 0),
            x -> x.measure(RATIO, 1, 0), x -> x.from(1, 0, 0), x -> x.from(0, 0, 12), x -> x.fact(1, 1, 1, 0, 1000001),
            x -> x.fact(1, 3, 1, 0, 1), x -> x.forget(2, 1, 1, 0), x -> x.write(1, 1, 1, 0, -1, 0), x -> x.end(false),
            x -> x.write(0, 3, 0, 0, 9, 3), x -> x.word(Cubecaller.PLUS, 0, 0), x -> x.cell(0, 0, 0, 1),
            x -> x.pick(1, 0, 3, 0, 0), x -> x.cross(1, 1, 0)
        };
        for (int i = 0; i < wrong.length; i++) {
            Cubecaller x = small();
            x.bridge(1, 2);
            x.cell(1, 1, 1, 0);
            x.cell(0, 0, 0, 0);
            boolean threw = false;
            try {
                wrong[i].on(x);
            } catch (RuntimeException e) {
                threw = true;
            }
            Check.due("it throws: " + i, threw, true);
            Check.due("nothing is dropped by " + i, x.kept(), 2);
            Check.due("both are hits", hit(x, 1, 1, 1, 0) && hit(x, 0, 0, 0, 0), true);
        }
    }

    private static void notByOthers() {
        Check.of("Terms: KEPT RESULTS");
        Check.Act[] others = {
            x -> x.memberAt(1, 1, 4), x -> x.word(Cubecaller.NUMBER, 1, 0), x -> x.fact(1, 1, 1, 0, 5),
            x -> x.fact(2, 2, 2, 0, 5), x -> x.cellAnew(1, 1, 1, 0), x -> x.kept(), x -> x.hits(), x -> x.at(1, 2),
            x -> x.pick(1, Cubecaller.LEAVES, 0, 0, 3), x -> x.picked(1, 0), x -> x.cross(0, 1, 0), Cubecaller::facts,
            x -> x.write(1, 1, 1, 0, 5, 2), Cubecaller::begin, x -> x.fact(1, 1, 1, 1, 9), x -> x.write(2, 1, 1, 0, 3, 0)
        };
        for (int i = 0; i < others.length; i++) {
            Cubecaller x = small();
            x.measure(SUM, 0, 0);
            x.cell(1, 1, 1, 0);
            x.cell(1, 1, 2, 0);
            others[i].on(x);
            Check.due("nothing is dropped by " + i, x.kept(), 2);
            Check.due("nor is it a hit", x.hits(), 0);
        }
    }
}
