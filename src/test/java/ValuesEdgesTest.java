/** The edges of the 'Terms' FACTS, MEASURES and CALCULATED MEMBERS. */
public final class ValuesEdgesTest {
    private static final long MISSING = Cubecaller.MISSING;
    private static final long BOUND = 1000000000000L;
    private static final int MOST = 1000000;
    private static final int SUM = Cubecaller.SUM;
    private static final int LAST = Cubecaller.LAST;
    private static final int DIFFERENT = Cubecaller.DIFFERENT;
    private static final int RATIO = Cubecaller.RATIO;
    private static final int NUMBER = Cubecaller.NUMBER;
    private static final int LOOK = Cubecaller.LOOK;
    private static final int DATE = Cubecaller.DATE;
    private static final int PLUS = Cubecaller.PLUS;
    private static final int MINUS = Cubecaller.MINUS;
    private static final int TIMES = Cubecaller.TIMES;
    private static final int PER = Cubecaller.PER;
    // The members of what bounded() makes: the bound, the bound below 0, 1 less than the bound, and nothing.
    private static final int ALL = 1;
    private static final int BELOW = 2;
    private static final int LESS = 3;
    private static final int NOTHING = 4;

    public static void main(String[] args) {
        numbersOfFacts();
        notMissing();
        lastOfThoseThatCount();
        lastOfBridges();
        unlikeNumbers();
        ratios();
        ratiosAtTheBound();
        ratioOfRatio();
        meansNothing();
        meansNothingForEach();
        numbersOfFormulas();
        whatDoesNotMatter();
        pile();
        sumsAtTheBound();
        productsAtTheBound();
        productsOfOne();
        perAtTheBound();
        missingInFormulas();
        steps();
        lookAtEachKind();
        dateOfEach();
        dateWhateverTheSigns();
        solving();
        solvingOrders();
        measureOfFormulas();
        Check.end("ValuesEdgesTest");
    }

    private static int calculated(Cubecaller x, int dimension, int order, int... words) {
        for (int i = 0; i < words.length; i += 3) {
            x.word(words[i], words[i + 1], words[i + 2]);
        }
        return x.calculate(dimension, order);
    }

    // ---- facts, measures

    private static void numbersOfFacts() {
        Check.of("Terms: FACTS, MEASURES");
        for (int kind = SUM; kind <= LAST; kind++) {
            for (int value : new int[] {-MOST, -1, 0, 1, MOST}) {
                Cubecaller x = new Cubecaller();
                x.measure(kind, 0, 0);
                Check.due("a number from -1000000 to 1000000", x.fact(0, 0, 0, 0, value), 1);
                Check.due("is there", x.cell(0, 0, 0, 0), value);
                Check.due("and was", x.forget(0, 0, 0, 0), value);
                Check.due("missing is not 0", x.cell(0, 0, 0, 0), MISSING);
            }
        }
        Check.refuses("one less", Check.ARGUMENT, x -> x.measure(SUM, 0, 0), x -> x.fact(0, 0, 0, 0, -MOST - 1));
        Check.refuses("one more", Check.ARGUMENT, x -> x.measure(SUM, 0, 0), x -> x.fact(0, 0, 0, 0, MOST + 1));
    }

    private static void notMissing() {
        Check.of("Terms: FACTS, MEASURES");
        for (int kind = SUM; kind <= LAST; kind++) {
            Cubecaller x = new Cubecaller();
            x.measure(kind, 0, 0);
            x.member(1, 0, 1);
            x.member(1, 0, -1);
            x.fact(0, 1, 0, 0, 5);
            x.fact(0, 2, 0, 0, 5);
            Check.due("5 and -5 are 0, not missing", x.cell(0, 0, 0, 0), 0);
            x.forget(0, 1, 0, 0);
            Check.due("-5", x.cell(0, 0, 0, 0), -5);
            x.forget(0, 2, 0, 0);
            Check.due("missing without any", x.cell(0, 0, 0, 0), MISSING);
        }
    }

    private static void lastOfThoseThatCount() {
        Check.of("Terms: FACTS, MEASURES");
        Cubecaller x = new Cubecaller();
        x.measure(LAST, 0, 0);
        x.member(0, 0, 1);
        x.member(0, 1, -1);
        x.member(0, 0, 0);
        x.member(1, 0, 1);
        x.fact(0, 0, 0, 0, 1);
        Check.due("of the member 0 of time", x.cell(0, 0, 0, 0), 1);
        x.fact(3, 0, 0, 0, 1000);
        Check.due("one with the weight 0 does not count", x.cell(0, 0, 0, 0), 1);
        Check.due("it does in its own cell", x.cell(3, 0, 0, 0), 1000);
        x.fact(1, 0, 0, 0, 20);
        Check.due("1 stands behind 0", x.cell(0, 0, 0, 0), 20);
        x.fact(2, 1, 0, 0, 300);
        Check.due("its child stands behind 1, and has the sign -1", x.cell(0, 0, 0, 0), -300);
        x.fact(2, 0, 0, 0, 4000);
        Check.due("both of that time", x.cell(0, 0, 0, 0), -4300);
        Check.due("of one member of the dimension 1", x.cell(0, 1, 0, 0), -300);
        x.forget(2, 0, 0, 0);
        x.forget(2, 1, 0, 0);
        Check.due("1 again", x.cell(0, 0, 0, 0), 20);
    }

    private static void lastOfBridges() {
        Check.of("Terms: FACTS, MEASURES");
        Cubecaller x = new Cubecaller();
        x.measure(LAST, 0, 0);
        for (int i = 1; i < 4; i++) {
            x.member(0, 0, 1);
        }
        x.member(0, 1, 1);
        int bridge = x.bridge(0, 4 + 16);
        x.fact(4, 0, 0, 0, 7);
        Check.due("4 alone", x.cell(bridge, 0, 0, 0), 7);
        x.fact(2, 0, 0, 0, 8);
        Check.due("2 stands behind 4, though the number is lower", x.cell(bridge, 0, 0, 0), 8);
        x.fact(3, 0, 0, 0, 9);
        Check.due("3 is not below it", x.cell(bridge, 0, 0, 0), 8);
        Check.due("of all it is the last", x.cell(0, 0, 0, 0), 9);
    }

    private static void unlikeNumbers() {
        Check.of("Terms: FACTS, MEASURES");
        Cubecaller x = new Cubecaller();
        x.measure(DIFFERENT, 0, 0);
        for (int i = 1; i < 5; i++) {
            x.member(1, 0, i % 2 == 0 ? -1 : 1);
        }
        Check.due("missing without any", x.cell(0, 0, 0, 0), MISSING);
        x.fact(0, 1, 0, 0, 0);
        Check.due("0 is one", x.cell(0, 0, 0, 0), 1);
        x.fact(0, 2, 0, 0, 5);
        x.fact(0, 3, 0, 0, -5);
        Check.due("5 and -5 are unlike, whatever the signs", x.cell(0, 0, 0, 0), 3);
        x.fact(0, 4, 0, 0, 5);
        Check.due("5 and 5 are not", x.cell(0, 0, 0, 0), 3);
        x.fact(0, 0, 0, 0, 0);
        Check.due("0 and 0 neither", x.cell(0, 0, 0, 0), 3);
        x.forget(0, 2, 0, 0);
        Check.due("one 5 is left", x.cell(0, 0, 0, 0), 3);
        x.forget(0, 4, 0, 0);
        Check.due("none is left", x.cell(0, 0, 0, 0), 2);
    }

    private static long ratio(int first, int second) {
        Cubecaller x = new Cubecaller();
        x.measure(SUM, 0, 0);
        x.measure(LAST, 0, 0);
        x.measure(RATIO, 0, 1);
        x.fact(0, 0, 0, 0, first);
        x.fact(0, 0, 0, 1, second);
        return x.cell(0, 0, 0, 2);
    }

    private static void ratios() {
        Check.of("Terms: FACTS, MEASURES");
        int[][] of = {{1, 3, 333}, {-1, 3, -333}, {1, -3, -333}, {-1, -3, 333}, {2, 3, 666}, {-2, 3, -666}, {0, 5, 0},
            {0, -5, 0}, {1, 1000, 1}, {1, 1001, 0}, {-1, 1001, 0}, {-1, 1000, -1}, {999, 1000, 999}, {1999, 1000000, 1},
            {1, 1000000, 0}, {1000, 1000000, 1}, {999, 1000000, 0}, {7, 7, 1000}, {7, -7, -1000}};
        for (int[] c : of) {
            Check.due(c[0] + " by " + c[1], ratio(c[0], c[1]), c[2]);
        }
        Check.due("the greatest by 1", ratio(MOST, 1), 1000000000L);
        Check.due("the least by 1", ratio(-MOST, 1), -1000000000L);
        Check.due("the greatest by -1", ratio(MOST, -1), -1000000000L);
        Check.due("by 0", ratio(5, 0), MISSING);
        Check.due("0 by 0", ratio(0, 0), MISSING);
    }

    private static void ratiosAtTheBound() {
        Check.of("Terms: FACTS, MEASURES");
        int[] seconds = {1, -1};
        for (int second : seconds) {
            Cubecaller x = new Cubecaller();
            x.measure(SUM, 0, 0);
            x.measure(SUM, 0, 0);
            x.measure(RATIO, 0, 1);
            x.measure(RATIO, 2, 1);
            x.member(1, 0, 1);
            x.fact(0, 0, 0, 1, second);
            x.fact(0, 0, 0, 0, 999999);
            Check.due("below the bound", x.cell(0, 0, 0, 3), 999999000000L);
            x.fact(0, 1, 0, 0, 1);
            Check.due("the bound", x.cell(0, 0, 0, 3), BOUND);
            x.fact(0, 1, 0, 0, 2);
            Check.due("above the bound", x.cell(0, 0, 0, 3), BOUND);
            Check.due("the one ahead is not", x.cell(0, 0, 0, 2), second * 1000001000L);
            x.fact(0, 0, 0, 0, -999999);
            x.forget(0, 1, 0, 0);
            Check.due("above the least", x.cell(0, 0, 0, 3), -999999000000L);
            x.fact(0, 1, 0, 0, -1);
            Check.due("the least", x.cell(0, 0, 0, 3), -BOUND);
            x.fact(0, 1, 0, 0, -2);
            Check.due("below the least", x.cell(0, 0, 0, 3), -BOUND);
        }
    }

    private static void ratioOfRatio() {
        Check.of("Terms: FACTS, MEASURES");
        Cubecaller x = new Cubecaller();
        x.measure(DIFFERENT, 0, 0);
        x.measure(SUM, 0, 0);
        x.measure(RATIO, 1, 0);
        x.measure(RATIO, 2, 2);
        Check.due("missing over missing", x.cell(0, 0, 0, 3), MISSING);
        x.fact(0, 0, 0, 1, MOST);
        Check.due("the inner one is missing", x.cell(0, 0, 0, 3), MISSING);
        x.fact(0, 0, 0, 0, 44);
        Check.due("1000 times a great one by itself", x.cell(0, 0, 0, 3), 1000);
        Check.due("the inner one", x.cell(0, 0, 0, 2), 1000000000L);
        x.fact(0, 0, 0, 1, 0);
        Check.due("the inner one is 0", x.cell(0, 0, 0, 2), 0);
        Check.due("0 by 0", x.cell(0, 0, 0, 3), MISSING);
    }

    private static void meansNothing() {
        Check.of("Promise 12: from");
        for (int d = 0; d < 3; d++) {
            Cubecaller x = new Cubecaller();
            x.measure(SUM, 0, 0);
            for (int i = 1; i < 12; i++) {
                x.member(d, i - 1, 1);
            }
            int[] c = {0, 0, 0};
            c[d] = 11;
            x.fact(c[0], c[1], c[2], 0, 6);
            for (int depth = 0; depth < 12; depth++) {
                Check.due("the depth before", x.from(0, d, depth), Math.max(0, depth - 1));
                for (int member = 0; member < 12; member++) {
                    c[d] = member;
                    Check.due("depth " + member + " of " + depth, x.cellAnew(c[0], c[1], c[2], 0), member < depth ? MISSING : 6);
                }
            }
            Check.due("11 before", x.from(0, d, 0), 11);
            Check.due("all again", x.cell(0, 0, 0, 0), 6);
        }
    }

    private static void meansNothingForEach() {
        Check.of("Terms: FACTS, MEASURES");
        Cubecaller x = new Cubecaller();
        x.measure(LAST, 0, 0);
        x.measure(DIFFERENT, 0, 0);
        x.measure(RATIO, 0, 1);
        x.measure(RATIO, 2, 1);
        x.fact(0, 0, 0, 0, 8);
        x.fact(0, 0, 0, 1, 8);
        for (int m = 0; m < 4; m++) {
            x.from(m, m % 3, 1);
            for (int other = 0; other < 4; other++) {
                long value = other == 0 ? 8 : other == 1 ? 1 : other == 2 ? 8000 : 8000000;
                Check.due("measure " + other + " with from of " + m, x.cell(0, 0, 0, other), other == m ? MISSING : value);
            }
            Check.due("it was 1", x.from(m, m % 3, 0), 1);
        }
        int plain = x.member(1, 0, 1);
        int bridge = x.bridge(1, 1);
        x.fact(0, plain, 0, 0, 3);
        x.from(0, 1, 1);
        Check.due("a BRIDGE for 0 has no depth", x.cell(0, bridge, 0, 0), 11);
        Check.due("deep enough in each dimension", x.cell(0, plain, 0, 0), 3);
        x.from(0, 2, 1);
        Check.due("not in the dimension 2", x.cell(0, plain, 0, 0), MISSING);
        Check.due("nor with the BRIDGE", x.cell(0, bridge, 0, 0), MISSING);
    }

    // ---- calculated members

    private static void numbersOfFormulas() {
        Check.of("Terms: CALCULATED MEMBERS");
        for (int d = 0; d < 3; d++) {
            int[] numbers = {-MOST, -1, 0, 1, MOST};
            Cubecaller x = new Cubecaller();
            x.measure(SUM, 0, 0);
            for (int number : numbers) {
                int[] c = {0, 0, 0};
                c[d] = calculated(x, d, 0, NUMBER, number, 99);
                Check.due("a number alone", x.cell(c[0], c[1], c[2], 0), number);
            }
        }
    }

    private static void whatDoesNotMatter() {
        Check.of("Promise 7: word");
        int[] far = {Integer.MIN_VALUE, -MOST - 1, -1, 12, MOST + 1, Integer.MAX_VALUE};
        for (int f : far) {
            Cubecaller x = new Cubecaller();
            x.measure(SUM, 0, 0);
            x.fact(0, 0, 0, 0, 5);
            Check.due("NUMBER, whatever two is", x.word(NUMBER, 2, f), 1);
            Check.due("DATE, whatever two is", x.word(DATE, 0, f), 2);
            Check.due("PLUS, whatever they are", x.word(PLUS, f, f), 3);
            x.word(NUMBER, 1, f);
            Check.due("MINUS, whatever they are", x.word(MINUS, f, -f), 5);
            x.word(NUMBER, 4, f);
            Check.due("TIMES, whatever they are", x.word(TIMES, f, 0), 7);
            x.word(NUMBER, 7, f);
            Check.due("PER, whatever they are", x.word(PER, 0, f), 9);
            Check.due("1000 times (2 + 5 - 1) times 4 by 7", x.cell(0, 0, x.calculate(2, 0), 0), 3428);
        }
    }

    private static void pile() {
        Check.of("Terms: CALCULATED MEMBERS");
        Cubecaller x = new Cubecaller();
        x.measure(SUM, 0, 0);
        int right = calculated(x, 1, 0, NUMBER, 1, 0, NUMBER, 2, 0, NUMBER, 4, 0, MINUS, 0, 0, MINUS, 0, 0);
        int left = calculated(x, 1, 0, NUMBER, 1, 0, NUMBER, 2, 0, MINUS, 0, 0, NUMBER, 4, 0, MINUS, 0, 0);
        int per = calculated(x, 1, 0, NUMBER, 8, 0, NUMBER, 2, 0, PER, 0, 0);
        int high = calculated(x, 1, 0, NUMBER, 1, 0, NUMBER, 20, 0, NUMBER, 300, 0, NUMBER, 4000, 0, NUMBER, 50000, 0,
                PLUS, 0, 0, PLUS, 0, 0, MINUS, 0, 0, MINUS, 0, 0);
        Check.due("1 - (2 - 4)", x.cell(0, right, 0, 0), 3);
        Check.due("1 - 2 - 4", x.cell(0, left, 0, 0), -5);
        Check.due("8 by 2, the lower by the upper one", x.cell(0, per, 0, 0), 4000);
        Check.due("five on the pile", x.cell(0, high, 0, 0), 1 - (20 - 54300));
        int over = calculated(x, 1, 0, NUMBER, 3, 0, NUMBER, 4, 0, NUMBER, 5, 0, NUMBER, 6, 0, LOOK, high, 0,
                PLUS, 0, 0, PLUS, 0, 0, PLUS, 0, 0, PLUS, 0, 0);
        Check.due("four on the pile, then a look at five", x.cell(0, over, 0, 0), 18 + 1 - (20 - 54300));
        int dated = calculated(x, 1, 0, NUMBER, 3, 0, NUMBER, 4, 0, NUMBER, 5, 0, NUMBER, 6, 0, DATE, over, 0,
                PLUS, 0, 0, PLUS, 0, 0, PLUS, 0, 0, PLUS, 0, 0);
        Check.due("four on the pile, then to date of that", x.cell(0, dated, 0, 0), 36 + 1 - (20 - 54300));
    }

    private static Cubecaller bounded() {
        Cubecaller x = new Cubecaller();
        x.measure(SUM, 0, 0);
        calculated(x, 1, 0, NUMBER, MOST, 0, NUMBER, MOST, 0, TIMES, 0, 0);
        calculated(x, 1, 0, NUMBER, MOST, 0, NUMBER, -MOST, 0, TIMES, 0, 0);
        calculated(x, 1, 0, LOOK, ALL, 0, NUMBER, 1, 0, MINUS, 0, 0);
        x.member(1, 0, 1);
        return x;
    }

    private static long of(int... words) {
        Cubecaller x = bounded();
        return x.cell(0, calculated(x, 1, 0, words), 0, 0);
    }

    private static long looked(int lower, int upper, int what) {
        return of(LOOK, lower, 0, LOOK, upper, 0, what, 0, 0);
    }

    private static void sumsAtTheBound() {
        Check.of("Terms: CALCULATED MEMBERS");
        Check.due("the bound", of(LOOK, ALL, 0), BOUND);
        Check.due("the bound below 0", of(LOOK, BELOW, 0), -BOUND);
        Check.due("1 less", of(LOOK, LESS, 0), BOUND - 1);
        Check.due("1 less and 1", of(LOOK, LESS, 0, NUMBER, 1, 0, PLUS, 0, 0), BOUND);
        Check.due("1 less and 2", of(LOOK, LESS, 0, NUMBER, 2, 0, PLUS, 0, 0), BOUND);
        Check.due("the bound and -1", of(LOOK, ALL, 0, NUMBER, -1, 0, PLUS, 0, 0), BOUND - 1);
        Check.due("the bound less -1", of(LOOK, ALL, 0, NUMBER, -1, 0, MINUS, 0, 0), BOUND);
        Check.due("the least less 1", of(LOOK, BELOW, 0, NUMBER, 1, 0, MINUS, 0, 0), -BOUND);
        Check.due("the least and 1", of(LOOK, BELOW, 0, NUMBER, 1, 0, PLUS, 0, 0), 1 - BOUND);
        Check.due("twice the bound", looked(ALL, ALL, PLUS), BOUND);
        Check.due("twice the least", looked(BELOW, BELOW, PLUS), -BOUND);
        Check.due("the bound and the least", looked(ALL, BELOW, PLUS), 0);
        Check.due("the bound less the least", looked(ALL, BELOW, MINUS), BOUND);
        Check.due("the least less the bound", looked(BELOW, ALL, MINUS), -BOUND);
        Check.due("the bound less itself", looked(ALL, ALL, MINUS), 0);
        Check.due("each value is kept on its way", of(LOOK, ALL, 0, NUMBER, 1, 0, PLUS, 0, 0, NUMBER, 1, 0, MINUS, 0, 0),
                BOUND - 1);
    }

    private static void productsAtTheBound() {
        Check.of("Terms: CALCULATED MEMBERS");
        Check.due("the bound by itself", looked(ALL, ALL, TIMES), BOUND);
        Check.due("the least by itself", looked(BELOW, BELOW, TIMES), BOUND);
        Check.due("the bound by the least", looked(ALL, BELOW, TIMES), -BOUND);
        Check.due("the least by the bound", looked(BELOW, ALL, TIMES), -BOUND);
        Check.due("2 times the bound", of(NUMBER, 2, 0, LOOK, ALL, 0, TIMES, 0, 0), BOUND);
        Check.due("2 times the least", of(NUMBER, 2, 0, LOOK, BELOW, 0, TIMES, 0, 0), -BOUND);
        Check.due("999999 times 1000000", of(NUMBER, 999999, 0, NUMBER, MOST, 0, TIMES, 0, 0), 999999000000L);
        Check.due("10 to the power of 6 twice below 0", of(NUMBER, -MOST, 0, NUMBER, -MOST, 0, TIMES, 0, 0), BOUND);
        Check.due("a third of the bound, 3 times",
                of(LOOK, ALL, 0, NUMBER, 3000, 0, PER, 0, 0, NUMBER, 3, 0, TIMES, 0, 0), BOUND - 1);
        Check.due("a third of the bound, -3 times",
                of(LOOK, ALL, 0, NUMBER, 3000, 0, PER, 0, 0, NUMBER, -3, 0, TIMES, 0, 0), 1 - BOUND);
        int[] seventyThird = {NUMBER, 13698, 0, NUMBER, MOST, 0, TIMES, 0, 0, NUMBER, 630136, 0, PLUS, 0, 0,
            NUMBER, 73, 0, TIMES, 0, 0};
        Check.due("73 times 13698630136", of(seventyThird), 999999999928L);
        seventyThird[10] = 630137;
        Check.due("73 times 13698630137, 1 more than the bound", of(seventyThird), BOUND);
        seventyThird[16] = -73;
        Check.due("-73 times that", of(seventyThird), -BOUND);
    }

    private static void productsOfOne() {
        Check.of("Terms: CALCULATED MEMBERS");
        for (int one = -1; one <= 1; one++) {
            Check.due(one + " times 7", of(NUMBER, one, 0, NUMBER, 7, 0, TIMES, 0, 0), one * 7);
            Check.due("7 times " + one, of(NUMBER, 7, 0, NUMBER, one, 0, TIMES, 0, 0), one * 7);
            Check.due(one + " times the bound", of(NUMBER, one, 0, LOOK, ALL, 0, TIMES, 0, 0), one * BOUND);
            Check.due("the least times " + one, of(LOOK, BELOW, 0, NUMBER, one, 0, TIMES, 0, 0), one * -BOUND);
        }
    }

    private static void perAtTheBound() {
        Check.of("Terms: CALCULATED MEMBERS");
        Check.due("the bound by itself", looked(ALL, ALL, PER), 1000);
        Check.due("the bound by the least", looked(ALL, BELOW, PER), -1000);
        Check.due("1 less by the bound", looked(LESS, ALL, PER), 999);
        Check.due("the bound by 1 less", looked(ALL, LESS, PER), 1000);
        Check.due("the bound by 1", of(LOOK, ALL, 0, NUMBER, 1, 0, PER, 0, 0), BOUND);
        Check.due("the bound by -1", of(LOOK, ALL, 0, NUMBER, -1, 0, PER, 0, 0), -BOUND);
        Check.due("the bound by 1000", of(LOOK, ALL, 0, NUMBER, 1000, 0, PER, 0, 0), BOUND);
        Check.due("the bound by 1001", of(LOOK, ALL, 0, NUMBER, 1001, 0, PER, 0, 0), 999000999000L);
        Check.due("1 less by 1000", of(LOOK, LESS, 0, NUMBER, 1000, 0, PER, 0, 0), BOUND - 1);
        Check.due("1 less by 999", of(LOOK, LESS, 0, NUMBER, 999, 0, PER, 0, 0), BOUND);
        Check.due("1 by the bound", of(NUMBER, 1, 0, LOOK, ALL, 0, PER, 0, 0), 0);
        Check.due("-1 by 1001", of(NUMBER, -1, 0, NUMBER, 1001, 0, PER, 0, 0), 0);
        Check.due("-2 by 3, toward 0", of(NUMBER, -2, 0, NUMBER, 3, 0, PER, 0, 0), -666);
        Check.due("2 by -3, toward 0", of(NUMBER, 2, 0, NUMBER, -3, 0, PER, 0, 0), -666);
        Check.due("-2 by -3", of(NUMBER, -2, 0, NUMBER, -3, 0, PER, 0, 0), 666);
        Check.due("0 by 3", of(NUMBER, 0, 0, NUMBER, 3, 0, PER, 0, 0), 0);
        Check.due("the bound by 0", of(LOOK, ALL, 0, NUMBER, 0, 0, PER, 0, 0), MISSING);
        Check.due("0 by 0", of(NUMBER, 0, 0, NUMBER, 0, 0, PER, 0, 0), MISSING);
    }

    private static void missingInFormulas() {
        Check.of("Terms: CALCULATED MEMBERS");
        Check.due("a look at nothing", of(LOOK, NOTHING, 0), MISSING);
        Check.due("nothing and the bound", looked(NOTHING, ALL, PLUS), BOUND);
        Check.due("the least and nothing", looked(BELOW, NOTHING, PLUS), -BOUND);
        Check.due("nothing less the bound", looked(NOTHING, ALL, MINUS), -BOUND);
        Check.due("nothing less the least", looked(NOTHING, BELOW, MINUS), BOUND);
        for (int what = PLUS; what <= PER; what++) {
            Check.due("nothing twice", looked(NOTHING, NOTHING, what), MISSING);
        }
        for (int what = TIMES; what <= PER; what++) {
            Check.due("nothing by 0", of(LOOK, NOTHING, 0, NUMBER, 0, 0, what, 0, 0), MISSING);
            Check.due("0 by nothing", of(NUMBER, 0, 0, LOOK, NOTHING, 0, what, 0, 0), MISSING);
            Check.due("the bound by nothing", looked(ALL, NOTHING, what), MISSING);
            Check.due("nothing by the bound", looked(NOTHING, ALL, what), MISSING);
        }
        Check.due("what is divided by 0 is taken for 0", of(NUMBER, 3, 0, NUMBER, 0, 0, PER, 0, 0, NUMBER, 7, 0, MINUS, 0, 0), -7);
        Check.due("0 and nothing are 0", of(NUMBER, 0, 0, LOOK, NOTHING, 0, PLUS, 0, 0), 0);
        Check.due("nothing less 0 is 0", of(LOOK, NOTHING, 0, NUMBER, 0, 0, MINUS, 0, 0), 0);
    }

    /** Times 1 to 4 below 0; 5 below 4, 6 below 1, 7 below 4: of the depth 2 there stand 6, 5 and 7. 8 is a BRIDGE. */
    private static void times(Cubecaller x) {
        x.measure(SUM, 0, 0);
        for (int i = 1; i < 5; i++) {
            x.member(0, 0, 1);
        }
        x.member(0, 4, 1);
        x.member(0, 1, 1);
        x.member(0, 4, 1);
        x.bridge(0, 2 + 4);
        for (int i = 0; i < 8; i++) {
            x.fact(i, 0, 0, 0, 1 << i);
        }
    }

    private static void steps() {
        Check.of("Terms: CALCULATED MEMBERS");
        Cubecaller x = new Cubecaller();
        times(x);
        int[] value = {255, 2 + 64, 4, 8, 16 + 32 + 128, 32, 64, 128};
        int[][] depths = {{0}, {1, 2, 3, 4}, {6, 5, 7}};
        for (int steps = 0; steps < 12; steps++) {
            int look = 1 + steps % 11;
            if (steps < 11) {
                look = calculated(x, 1, 0, LOOK, 0, steps);
            } else {
                look = calculated(x, 2, 0, LOOK, 0, steps);
            }
            for (int[] depth : depths) {
                for (int i = 0; i < depth.length; i++) {
                    long due = i < steps ? MISSING : value[depth[i - steps]];
                    long got = steps < 11 ? x.cell(depth[i], look, 0, 0) : x.cell(depth[i], 0, look, 0);
                    Check.due(steps + " ahead of " + depth[i], got, due);
                }
            }
            long bridge = steps < 11 ? x.cell(8, look, 0, 0) : x.cell(8, 0, look, 0);
            Check.due(steps + " ahead of a BRIDGE", bridge, steps == 0 ? 2 + 64 + 4 : MISSING);
        }
        Cubecaller y = new Cubecaller();
        times(y);
        int back = calculated(y, 0, 0, LOOK, 7, 1);
        int far = calculated(y, 0, 0, LOOK, 7, 2);
        int none = calculated(y, 0, 0, LOOK, 7, 3);
        Check.due("in time: 1 ahead of 7", y.cell(back, 0, 0, 0), 32);
        Check.due("2 ahead of 7", y.cell(far, 0, 0, 0), 64);
        Check.due("3 ahead of 7 there is none", y.cell(none, 0, 0, 0), MISSING);
    }

    private static void lookAtEachKind() {
        Check.of("Terms: CALCULATED MEMBERS");
        Cubecaller x = new Cubecaller();
        times(x);
        x.member(1, 0, 1);
        x.fact(2, 1, 0, 0, 1000);
        int bridge = x.bridge(1, 2);
        int number = calculated(x, 1, 0, NUMBER, 7, 0);
        int atBridge = calculated(x, 1, 0, LOOK, bridge, 1);
        int atNumber = calculated(x, 1, 0, LOOK, number, 3);
        int atLook = calculated(x, 1, 0, LOOK, atBridge, 1);
        Check.due("a BRIDGE, 1 back", x.cell(3, atBridge, 0, 0), 1000);
        Check.due("a number, 3 back", x.cell(4, atNumber, 0, 0), 7);
        Check.due("a number, as there is none 3 back", x.cell(3, atNumber, 0, 0), MISSING);
        Check.due("a look, 1 back of 1 back", x.cell(4, atLook, 0, 0), 1000);
        int time = calculated(x, 0, 9, LOOK, 3, 0);
        Check.due("in time, then what is looked at there", x.cell(time, atBridge, 0, 0), 1000);
        int low = calculated(x, 0, 0, LOOK, 3, 0);
        Check.due("the other way there is no PLAIN member of time", x.cell(low, calculated(x, 1, 1, LOOK, 1, 1), 0, 0), MISSING);
        Check.due("without steps there is", x.cell(low, calculated(x, 1, 1, LOOK, 1, 0), 0, 0), MISSING);
        x.fact(3, 1, 0, 0, 500);
        Check.due("with a fact there", x.cell(low, 8, 0, 0), 500);
    }

    private static void dateOfEach() {
        Check.of("Terms: CALCULATED MEMBERS");
        Cubecaller x = new Cubecaller();
        times(x);
        int date = calculated(x, 2, 0, DATE, 0, 0);
        int[] due = {255, 66, 66 + 4, 66 + 12, 66 + 12 + 176, 32, 64, 32 + 128};
        for (int i = 0; i < 8; i++) {
            Check.due("to date of " + i, x.cell(i, 0, date, 0), due[i]);
        }
        Check.due("of a BRIDGE", x.cell(8, 0, date, 0), MISSING);
        x.forget(2, 0, 0, 0);
        Check.due("one that is missing is left out", x.cell(3, 0, date, 0), 66 + 8);
        Check.due("up to one that is missing", x.cell(2, 0, date, 0), 66);
        x.forget(1, 0, 0, 0);
        x.forget(6, 0, 0, 0);
        Check.due("all are missing", x.cell(2, 0, date, 0), MISSING);
        Check.due("the first of them", x.cell(1, 0, date, 0), MISSING);
        Cubecaller y = new Cubecaller();
        times(y);
        for (int i = 0; i < 3; i++) {
            int[] of = {7, 0, 3};
            int[] want = {32 + 128, 255, 66 + 12};
            int time = calculated(y, 0, 0, DATE, of[i], 0);
            Check.due("in time, to date of " + of[i], y.cell(time, 0, 0, 0), want[i]);
        }
    }

    private static void dateWhateverTheSigns() {
        Check.of("Terms: CALCULATED MEMBERS");
        Cubecaller x = new Cubecaller();
        x.measure(SUM, 0, 0);
        x.member(0, 0, -1);
        x.member(0, 0, 0);
        x.member(0, 0, 1);
        x.fact(1, 0, 0, 0, 5);
        x.fact(2, 0, 0, 0, 70);
        x.fact(3, 0, 0, 0, 900);
        int date = calculated(x, 1, 0, DATE, 0, 0);
        Check.due("values of cells are added", x.cell(3, date, 0, 0), 975);
        Check.due("of the member 0 the weights count", x.cell(0, date, 0, 0), 895);
        int number = calculated(x, 1, 0, NUMBER, 1, 0);
        int count = calculated(x, 1, 0, DATE, number, 0);
        for (int i = 1; i < 4; i++) {
            Check.due("how many up to " + i, x.cell(i, count, 0, 0), i);
        }
        Check.due("of the member 0 this alone", x.cell(0, count, 0, 0), 1);
    }

    private static void solving() {
        Check.of("Terms: CALCULATED MEMBERS");
        int[] orders = {0, 1, 99, 100};
        for (int time : orders) {
            for (int one : orders) {
                for (int two : orders) {
                    Cubecaller x = new Cubecaller();
                    x.measure(SUM, 0, 0);
                    calculated(x, 0, time, NUMBER, 1, 0);
                    calculated(x, 1, one, NUMBER, 2, 0);
                    calculated(x, 2, two, NUMBER, 3, 0);
                    int greatest = Math.max(time, Math.max(one, two));
                    Check.due("orders " + time + ", " + one + ", " + two, x.cell(1, 1, 1, 0),
                            two == greatest ? 3 : one == greatest ? 2 : 1);
                    Check.due("of time and one", x.cell(1, 1, 0, 0), one >= time ? 2 : 1);
                    Check.due("of time and two", x.cell(1, 0, 1, 0), two >= time ? 3 : 1);
                    Check.due("of one and two", x.cell(0, 1, 1, 0), two >= one ? 3 : 2);
                }
            }
        }
    }

    /** A difference in time and a share in one: what is looked at in between goes by the other formula. */
    private static void solvingOrders() {
        Check.of("Terms: CALCULATED MEMBERS");
        for (int first = 0; first < 3; first++) {
            Cubecaller x = new Cubecaller();
            x.measure(SUM, 0, 0);
            x.member(0, 0, 1);
            x.member(0, 0, 1);
            x.member(1, 0, 1);
            x.member(1, 0, 1);
            x.fact(1, 1, 0, 0, 10);
            x.fact(1, 2, 0, 0, 4);
            x.fact(2, 1, 0, 0, 30);
            x.fact(2, 2, 0, 0, 5);
            int time = calculated(x, 0, first, LOOK, 2, 0, LOOK, 1, 0, MINUS, 0, 0);
            int one = calculated(x, 1, 1, LOOK, 1, 0, LOOK, 2, 0, PER, 0, 0);
            Check.due("time by the order " + first, x.cell(time, one, 0, 0), first > 1 ? 6000 - 2500 : 20000);
        }
    }

    private static void measureOfFormulas() {
        Check.of("Terms: CALCULATED MEMBERS");
        Cubecaller x = new Cubecaller();
        x.measure(SUM, 0, 0);
        x.measure(LAST, 0, 0);
        x.measure(DIFFERENT, 0, 0);
        x.measure(RATIO, 0, 2);
        x.member(0, 0, 1);
        x.member(0, 0, 1);
        for (int m = 0; m < 3; m++) {
            x.fact(1, 0, 0, m, 4);
            x.fact(2, 0, 0, m, 8);
        }
        int twice = calculated(x, 1, 0, LOOK, 0, 0, NUMBER, 2, 0, TIMES, 0, 0);
        long[] due = {24, 16, 4, 12000};
        for (int m = 0; m < 4; m++) {
            Check.due("the measure is that of the cell: " + m, x.cell(0, twice, 0, m), due[m]);
            x.from(m, 1, 1);
            Check.due("it means nothing for what is looked at", x.cell(0, twice, 0, m), MISSING);
            x.from(m, 1, 0);
        }
        x.from(0, 0, 1);
        Check.due("by the member of time that is looked at", x.cell(0, twice, 0, 0), MISSING);
        Check.due("deep enough there", x.cell(1, twice, 0, 0), 8);
        int date = calculated(x, 2, 0, DATE, 0, 0);
        Check.due("to date of what it means", x.cell(2, 0, date, 0), 12);
        Check.due("to date of what it does not", x.cell(0, 0, date, 0), MISSING);
    }
}
