/** The edges of the 'Terms' WRITING, SESSIONS, and of the promises 23 to 26. */
public final class WritingEdgesTest {
    private static final long MISSING = Cubecaller.MISSING;
    private static final int MOST = 1000000;
    private static final int SUM = Cubecaller.SUM;
    private static final int EQUAL = Cubecaller.EQUAL;
    private static final int WEIGHTS = Cubecaller.WEIGHTS;
    private static final int REST = Cubecaller.REST;

    public static void main(String[] args) {
        equalOfEach();
        weightsOfSmall();
        weightsOrEqual();
        remainders();
        greatNumbers();
        restOfEach();
        restOutOfRange();
        values();
        howMany();
        madeWithout();
        madeWhereNoneCounts();
        membersOfTheCell();
        weightsOfFacts();
        signsOfTwo();
        notSeen();
        kindsOfMeasures();
        orderOfMaking();
        begun();
        dropped();
        droppedMembers();
        kept();
        onceMore();
        facts();
        Check.end("WritingEdgesTest");
    }

    /** Facts of the members 1, 2, ... of the dimension 2, made in that order. */
    private static Cubecaller with(int... numbers) {
        Cubecaller x = new Cubecaller();
        fill(x, numbers);
        return x;
    }

    private static void fill(Cubecaller x, int... numbers) {
        x.measure(SUM, 0, 0);
        for (int i = 0; i < numbers.length; i++) {
            x.member(2, 0, 1);
            x.fact(0, 0, i + 1, 0, numbers[i]);
        }
    }

    private static void have(String what, Cubecaller x, int... numbers) {
        for (int i = 0; i < numbers.length; i++) {
            Check.due(what + ", member " + (i + 1), x.cellAnew(0, 0, i + 1, 0), numbers[i]);
        }
    }

    private static void write(int value, int how, int[] before, int... after) {
        Cubecaller x = with(before);
        int changed = 0;
        for (int i = 0; i < before.length; i++) {
            changed += before[i] == after[i] ? 0 : 1;
        }
        Check.due(value + " by " + how + " to " + before.length + ": another number", x.write(0, 0, 0, 0, value, how), changed);
        have(value + " by " + how, x, after);
        Check.due("none is made", x.facts(), before.length);
    }

    private static int[] row(int... numbers) {
        return numbers;
    }

    private static void equalOfEach() {
        Check.of("Terms: WRITING, SESSIONS");
        for (int count = 1; count < 6; count++) {
            for (int value = 0; value < 12; value++) {
                int[] before = new int[count];
                int[] after = new int[count];
                for (int i = 0; i < count; i++) {
                    before[i] = i - 2;
                    after[i] = value / count + (i < value % count ? 1 : 0);
                }
                write(value, EQUAL, before, after);
            }
        }
        write(MOST, EQUAL, row(0, 0, 0), 333334, 333333, 333333);
        write(999999, EQUAL, row(0, 0, 0), 333333, 333333, 333333);
        write(MOST, EQUAL, row(5), MOST);
    }

    private static void weightsOfSmall() {
        Check.of("Terms: WRITING, SESSIONS");
        write(0, WEIGHTS, row(3, 4), 0, 0);
        write(7, WEIGHTS, row(3, 4), 3, 4);
        write(70, WEIGHTS, row(3, 4), 30, 40);
        write(1, WEIGHTS, row(3, 4), 0, 1);
        write(1, WEIGHTS, row(4, 3), 1, 0);
        write(1, WEIGHTS, row(1, 1), 1, 0);
        write(9, WEIGHTS, row(0, 5, 0), 0, 9, 0);
        write(MOST, WEIGHTS, row(1), MOST);
        write(2, WEIGHTS, row(1, 2, 1), 1, 1, 0);
        write(3, WEIGHTS, row(1, 2, 1), 1, 1, 1);
    }

    private static void weightsOrEqual() {
        Check.of("Terms: WRITING, SESSIONS");
        write(5, WEIGHTS, row(0, 0), 3, 2);
        write(5, WEIGHTS, row(0, 1), 0, 5);
        write(5, WEIGHTS, row(1, 0), 5, 0);
        write(5, WEIGHTS, row(0, -1), 3, 2);
        write(5, WEIGHTS, row(1, -1), 3, 2);
        write(5, WEIGHTS, row(2, -1), 3, 2);
        write(5, WEIGHTS, row(-1, 2), 3, 2);
        write(5, WEIGHTS, row(-1, MOST, MOST), 2, 2, 1);
        write(5, WEIGHTS, row(0, MOST, MOST), 0, 3, 2);
        write(5, WEIGHTS, row(-7), 5);
        write(5, WEIGHTS, row(0), 5);
        write(5, WEIGHTS, row(7), 5);
    }

    private static void remainders() {
        Check.of("Terms: WRITING, SESSIONS");
        for (int value = 0; value <= 5; value++) {
            int[] after = new int[5];
            for (int i = 0; i < value; i++) {
                after[i] = 1;
            }
            write(value, WEIGHTS, row(1, 1, 1, 1, 1), after);
        }
        // 10 times 1, 2, 3, 4, 5 by 15: 0, 1, 2, 2, 3 with the remainders 10, 5, 0, 10, 5.
        write(10, WEIGHTS, row(1, 2, 3, 4, 5), 1, 1, 2, 3, 3);
        // 11 times them: 0, 1, 2, 2, 3 with 11, 7, 3, 14, 10.
        write(11, WEIGHTS, row(1, 2, 3, 4, 5), 1, 1, 2, 3, 4);
        // 4 times 5, 4, 3, 2, 1 by 15: 1, 1, 0, 0, 0 with 5, 1, 12, 8, 4.
        write(4, WEIGHTS, row(5, 4, 3, 2, 1), 1, 1, 1, 1, 0);
        // 8 times 2, 0, 2, 3 by 7: 2, 0, 2, 3 with 2, 0, 2, 3.
        write(8, WEIGHTS, row(2, 0, 2, 3), 2, 0, 2, 4);
        // 9 times them: 2, 0, 2, 3 with 4, 0, 4, 6.
        write(9, WEIGHTS, row(2, 0, 2, 3), 3, 0, 2, 4);
    }

    private static void greatNumbers() {
        Check.of("Terms: WRITING, SESSIONS");
        write(MOST, WEIGHTS, row(MOST, MOST, MOST), 333334, 333333, 333333);
        write(MOST, WEIGHTS, row(1, MOST), 1, 999999);
        write(MOST, WEIGHTS, row(1, 999999), 1, 999999);
        write(999999, WEIGHTS, row(MOST, 1), 999998, 1);
        write(0, WEIGHTS, row(MOST, 1), 0, 0);
    }

    private static void restOfEach() {
        Check.of("Terms: WRITING, SESSIONS");
        write(9, REST, row(4), 9);
        write(0, REST, row(4), 0);
        write(9, REST, row(4, 5), 4, 5);
        write(10, REST, row(4, 5), 5, 5);
        write(0, REST, row(4, 5), -5, 5);
        write(0, REST, row(4, -5, 2), 3, -5, 2);
        write(MOST, REST, row(4, 1), 999999, 1);
        write(MOST, REST, row(7, 0), MOST, 0);
        write(0, REST, row(7, MOST), -MOST, MOST);
        write(0, REST, row(7, -MOST), MOST, -MOST);
        write(1, REST, row(7, -999999), MOST, -999999);
        write(MOST, REST, row(0, MOST, MOST), -MOST, MOST, MOST);
    }

    private static void restOutOfRange() {
        Check.of("Promise 23: write");
        int[][] before = {{7, -1}, {7, -MOST}, {7, -MOST, -MOST}, {7, MOST, 1}, {7, MOST, MOST}};
        int[] values = {MOST, 1, 0, 0, 0};
        for (int i = 0; i < values.length; i++) {
            int[] numbers = before[i];
            int value = values[i];
            Check.refuses("a number out of range", Check.STATE, x -> fill(x, numbers), x -> x.write(0, 0, 0, 0, value, REST));
        }
    }

    private static void values() {
        Check.of("Promise 23: write");
        for (int i = EQUAL; i <= REST; i++) {
            int how = i;
            Check.Act one = x -> fill(x, 5);
            for (int value : row(0, 1, 999999, MOST)) {
                Cubecaller x = with(5);
                Check.due("to one that is there", x.write(0, 0, 0, 0, value, how), 1);
                Check.due("it has it", x.cell(0, 0, 0, 0), value);
                Cubecaller y = with();
                Check.due("to none", y.write(0, 0, 0, 0, value, how), 1);
                Check.due("it is made with it", y.cell(0, 0, 0, 0), value);
            }
            Check.refuses("-1", Check.ARGUMENT, one, x -> x.write(0, 0, 0, 0, -1, how));
            Check.refuses("1000001", Check.ARGUMENT, one, x -> x.write(0, 0, 0, 0, MOST + 1, how));
            Check.refuses("-1 to none", Check.ARGUMENT, x -> fill(x), x -> x.write(0, 0, 0, 0, -1, how));
            Check.refuses("1000001 to none", Check.ARGUMENT, x -> fill(x), x -> x.write(0, 0, 0, 0, MOST + 1, how));
        }
        Check.refuses("how -1", Check.ARGUMENT, x -> fill(x, 5), x -> x.write(0, 0, 0, 0, 1, -1));
        Check.refuses("how 3", Check.ARGUMENT, x -> fill(x, 5), x -> x.write(0, 0, 0, 0, 1, 3));
    }

    private static void howMany() {
        Check.of("Promise 23: write");
        Cubecaller x = with(2, 2, 2);
        Check.due("none gets another number", x.write(0, 0, 0, 0, 6, EQUAL), 0);
        Check.due("the first one does", x.write(0, 0, 0, 0, 7, EQUAL), 1);
        Check.due("the second one too", x.write(0, 0, 0, 0, 8, EQUAL), 1);
        Check.due("the third one too", x.write(0, 0, 0, 0, 9, EQUAL), 1);
        Check.due("all do", x.write(0, 0, 0, 0, 12, EQUAL), 3);
        Check.due("none by the same weights", x.write(0, 0, 0, 0, 12, WEIGHTS), 0);
        Check.due("none as the rest is as it was", x.write(0, 0, 0, 0, 12, REST), 0);
        Check.due("no fact more", x.facts(), 3);
    }

    private static void madeWithout() {
        Check.of("Terms: WRITING, SESSIONS");
        Cubecaller x = with(5, 6);
        x.member(0, 0, 1);
        x.member(1, 0, 1);
        x.member(2, 1, -1);
        for (int how = EQUAL; how <= REST; how++) {
            Check.due("one below a fact that is there", x.write(0, 0, 3, 0, 40 + how, how), 1);
            Check.due("just that number", x.forget(0, 0, 3, 0), 40 + how);
            Check.due("one beside them", x.write(1, 1, 1, 0, 50 + how, how), 1);
            Check.due("just that number", x.forget(1, 1, 1, 0), 50 + how);
        }
        Check.due("two are left", x.facts(), 2);
        x.write(1, 0, 2, 0, 9, EQUAL);
        Check.due("of another time", x.cell(1, 0, 2, 0), 9);
        Check.due("both of 2", x.write(0, 0, 2, 0, 20, EQUAL), 2);
        Check.due("the half for that of the time 1", x.cell(1, 0, 2, 0), 10);
    }

    private static void madeWhereNoneCounts() {
        Check.of("Terms: WRITING, SESSIONS");
        Cubecaller x = new Cubecaller();
        x.measure(SUM, 0, 0);
        x.measure(SUM, 0, 0);
        x.member(1, 0, 0);
        x.fact(0, 1, 0, 0, 5);
        Check.due("one with the weight 0 does not count", x.write(0, 0, 0, 0, 9, REST), 1);
        Check.due("so one is made", x.facts(), 2);
        Check.due("of 0", x.cell(0, 0, 0, 0), 9);
        Check.due("one of another measure does not count", x.write(0, 1, 0, 1, 4, EQUAL), 1);
        Check.due("so one is made", x.facts(), 3);
        Cubecaller y = with(5, 6);
        y.hide(2, 1, true);
        y.hide(2, 2, true);
        y.totals(true);
        Check.due("those left out do not count", y.write(0, 0, 0, 0, 30, EQUAL), 1);
        Check.due("so one is made", y.facts(), 3);
        Check.due("its number", y.cell(0, 0, 0, 0), 30);
        y.totals(false);
        Check.due("with them", y.cell(0, 0, 0, 0), 41);
        Check.due("all three", y.write(0, 0, 0, 0, 3, EQUAL), 3);
        y.hide(2, 1, false);
        Check.due("each has 1", y.cell(0, 0, 1, 0), 1);
    }

    private static void membersOfTheCell() {
        Check.of("Promise 23: write");
        for (int d = 0; d < 3; d++) {
            int time = d == 0 ? 1 : 0;
            int one = d == 1 ? 1 : 0;
            int two = d == 2 ? 1 : 0;
            int dimension = d;
            Check.Act build = x -> {
                x.measure(SUM, 0, 0);
                x.member(dimension, 0, 1);
                x.bridge(dimension, 2);
                x.word(Cubecaller.LOOK, 1, 0);
                x.calculate(dimension, 0);
            };
            Check.refuses("a BRIDGE without facts", Check.STATE, build, x -> x.write(2 * time, 2 * one, 2 * two, 0, 1, 0));
            Check.refuses("a CALCULATED one", Check.STATE, build, x -> x.write(3 * time, 3 * one, 3 * two, 0, 1, 0));
            Check.Act hidden = x -> {
                build.on(x);
                x.fact(time, one, two, 0, 5);
                x.hide(dimension, 1, true);
            };
            Check.refuses("one not seen", Check.STATE, hidden, x -> x.write(time, one, two, 0, 1, 0));
            Check.refuses("a BRIDGE not seen", Check.STATE, hidden, x -> x.write(2 * time, 2 * one, 2 * two, 0, 1, 0));
            Cubecaller x = new Cubecaller();
            build.on(x);
            x.fact(time, one, two, 0, 5);
            Check.due("a BRIDGE with one", x.write(2 * time, 2 * one, 2 * two, 0, 8, REST), 1);
            Check.due("it has it", x.cell(time, one, two, 0), 8);
            Check.due("a CALCULATED one with one", x, y -> y.write(3 * time, 3 * one, 3 * two, 0, 1, 0), Check.STATE);
        }
    }

    private static void weightsOfFacts() {
        Check.of("Promise 23: write");
        for (int d = 0; d < 3; d++) {
            int time = d == 0 ? 1 : 0;
            int one = d == 1 ? 1 : 0;
            int two = d == 2 ? 1 : 0;
            int dimension = d;
            for (int i = EQUAL; i <= REST; i++) {
                int how = i;
                Check.Act minus = x -> {
                    x.measure(SUM, 0, 0);
                    x.member(dimension, 0, -1);
                    x.fact(time, one, two, 0, 5);
                };
                Check.refuses("the only one has -1", Check.STATE, minus, x -> x.write(0, 0, 0, 0, 1, how));
                Check.refuses("the first one has -1", Check.STATE, x -> {
                    minus.on(x);
                    x.fact(0, 0, 0, 0, 6);
                }, x -> x.write(0, 0, 0, 0, 1, how));
                Check.refuses("the last one has -1", Check.STATE, x -> {
                    x.measure(SUM, 0, 0);
                    x.fact(0, 0, 0, 0, 6);
                    x.member(dimension, 0, -1);
                    x.fact(time, one, two, 0, 5);
                }, x -> x.write(0, 0, 0, 0, 1, how));
                Cubecaller x = new Cubecaller();
                minus.on(x);
                Check.due("of itself it has 1", x.write(time, one, two, 0, 9, how), 1);
                Check.due("it has it", x.cell(time, one, two, 0), 9);
            }
        }
    }

    private static void signsOfTwo() {
        Check.of("Promise 23: write");
        Cubecaller x = new Cubecaller();
        x.measure(SUM, 0, 0);
        x.member(0, 0, -1);
        x.member(1, 0, -1);
        x.member(2, 0, -1);
        x.fact(1, 1, 0, 0, 5);
        x.fact(1, 0, 1, 0, 5);
        x.fact(0, 1, 1, 0, 5);
        Check.due("the product of two is 1", x.write(0, 0, 0, 0, 30, EQUAL), 3);
        Check.due("each has it", x.cell(1, 1, 0, 0), 10);
        x.fact(1, 1, 1, 0, 7);
        Check.due("that of three is -1", x, y -> y.write(0, 0, 0, 0, 30, EQUAL), Check.STATE);
        Check.due("below one of them it is 1 for that and -1 for others", x, y -> y.write(1, 0, 0, 0, 30, EQUAL), Check.STATE);
        x.forget(1, 1, 0, 0);
        x.forget(1, 0, 1, 0);
        Check.due("that of two for that", x.write(1, 0, 0, 0, 30, EQUAL), 1);
        Check.due("30 times 1", x.cell(1, 0, 0, 0), 30);
    }

    private static void notSeen() {
        Check.of("Promise 23: write");
        Check.Act build = x -> {
            fill(x, 5, 6);
            x.member(2, 1, 1);
            x.bridge(2, 2 + 4);
            x.hide(2, 1, true);
        };
        Check.refuses("hidden", Check.STATE, build, x -> x.write(0, 0, 1, 0, 1, 0));
        Check.refuses("below a hidden one, without facts", Check.STATE, build, x -> x.write(0, 0, 3, 0, 1, 0));
        Check.refuses("a BRIDGE for a hidden one", Check.STATE, build, x -> x.write(0, 0, 4, 0, 1, 0));
        Cubecaller x = new Cubecaller();
        build.on(x);
        Check.due("above it, to those not seen too", x.write(0, 0, 0, 0, 20, EQUAL), 2);
        x.totals(true);
        Check.due("left out", x.write(0, 0, 0, 0, 20, EQUAL), 1);
        x.hide(2, 1, false);
        have("those", x, 10, 20);
    }

    private static void kindsOfMeasures() {
        Check.of("Promise 23: write");
        for (int i = 0; i < 2; i++) {
            boolean there = i == 1;
            Check.Act build = x -> {
                x.measure(SUM, 0, 0);
                x.measure(Cubecaller.LAST, 0, 0);
                x.measure(Cubecaller.DIFFERENT, 0, 0);
                x.measure(Cubecaller.RATIO, 0, 0);
                if (there) {
                    x.fact(0, 0, 0, 0, 4);
                    x.fact(0, 0, 0, 1, 4);
                    x.fact(0, 0, 0, 2, 4);
                }
            };
            for (int m = 1; m < 4; m++) {
                int measure = m;
                Check.refuses("no SUM", Check.STATE, build, x -> x.write(0, 0, 0, measure, 1, EQUAL));
            }
            Cubecaller x = new Cubecaller();
            build.on(x);
            Check.due("a SUM", x.write(0, 0, 0, 0, 1, EQUAL), 1);
        }
    }

    private static void orderOfMaking() {
        Check.of("Terms: WRITING, SESSIONS");
        Cubecaller x = with(1, 1, 1);
        x.fact(0, 0, 0, 0, 1);
        x.write(0, 0, 0, 0, 5, EQUAL);
        Check.due("0 was made last, and 1 first", x.forget(0, 0, 0, 0), 1);
        have("those", x, 2, 1, 1);
        x.write(0, 0, 0, 0, 3, EQUAL);
        x.forget(0, 0, 2, 0);
        x.write(0, 0, 2, 0, 7, EQUAL);
        x.write(0, 0, 0, 0, 5, EQUAL);
        have("2 was made last, by writing", x, 2, 1, 2);
        x.forget(0, 0, 1, 0);
        x.write(0, 0, 0, 0, 5, REST);
        Check.due("3 is the first one then", x.cell(0, 0, 3, 0), 4);
        x.fact(0, 0, 1, 0, 0);
        x.write(0, 0, 0, 0, 1, EQUAL);
        have("one that is there keeps its place", x, 0, 0, 1);
    }

    private static void begun() {
        Check.of("Promise 24: begin");
        Cubecaller x = with(5, 6);
        Check.due("the first", x, Cubecaller::begin, null);
        Check.due("another one within it", x, Cubecaller::begin, Check.STATE);
        Check.due("facts as they were", x.facts(), 2);
        have("numbers too", x, 5, 6);
        x.end(true);
        Check.due("after it", x, Cubecaller::begin, null);
        x.end(false);
        Check.due("after one that was dropped", x, Cubecaller::begin, null);
    }

    private static void dropped() {
        Check.of("Promise 25: end");
        Cubecaller x = with(5, 6, 7);
        x.begin();
        x.fact(0, 0, 1, 0, 50);
        x.fact(0, 0, 0, 0, 1);
        x.forget(0, 0, 2, 0);
        x.write(0, 0, 3, 0, 70, REST);
        Check.due("within", x.cell(0, 0, 0, 0), 121);
        Check.due("three, as when it was begun", x.end(false), 3);
        Check.due("facts", x.facts(), 3);
        have("each as it was", x, 5, 6, 7);
        Check.due("in all", x.cell(0, 0, 0, 0), 18);
        Check.due("the one that was made is gone", x, y -> y.forget(0, 0, 0, 0), Check.STATE);
        Check.due("no session is left", x, y -> y.end(false), Check.STATE);
        Check.due("nor one to keep", x, y -> y.end(true), Check.STATE);
        x.begin();
        for (int i = 1; i < 4; i++) {
            x.forget(0, 0, i, 0);
        }
        Check.due("none within", x.facts(), 0);
        Check.due("three again", x.end(false), 3);
        x.write(0, 0, 0, 0, 4, EQUAL);
        have("in their order", x, 2, 1, 1);
    }

    /** A session is one of facts alone. */
    private static void droppedMembers() {
        Check.of("Terms: WRITING, SESSIONS");
        Cubecaller x = with(5, 6);
        x.begin();
        Check.due("a member", x.member(2, 1, -1), 3);
        Check.due("a measure", x.measure(SUM, 0, 0), 1);
        x.fact(0, 0, 3, 1, 9);
        x.move(2, 2, 1, 0);
        x.hide(2, 3, true);
        x.at(2, 2);
        x.pick(2, Cubecaller.CHILDREN, 1, 0, 0);
        x.from(1, 0, 3);
        x.word(Cubecaller.NUMBER, 1, 0);
        x.totals(true);
        x.asNow(true);
        Check.due("facts as they were", x.end(false), 2);
        Check.due("the member stays", x.memberAt(2, 3, 1), 1);
        Check.due("hidden", x.memberAt(2, 3, 4), 0);
        Check.due("the move stays", x.cell(0, 0, 1, 0), 11);
        Check.due("what is set stays", x.at(2, 0), 2);
        Check.due("what is picked stays", x.picked(2, 0), 2);
        Check.due("without the hidden one", x.picked(2, 1), Cubecaller.NONE);
        Check.due("the measure stays", x.from(1, 0, 0), 3);
        Check.due("the draft stays", x.word(Cubecaller.NUMBER, 1, 0), 2);
        Check.due("totals stay", x.totals(false), true);
        Check.due("asNow stays", x.asNow(false), true);
        Check.due("the fact is gone", x.cell(0, 0, 0, 1), MISSING);
    }

    private static void kept() {
        Check.of("Promise 25: end");
        Cubecaller x = with(5, 6);
        x.begin();
        x.fact(0, 0, 1, 0, 50);
        x.fact(0, 0, 0, 0, 1);
        x.forget(0, 0, 2, 0);
        Check.due("as they are", x.end(true), 2);
        Check.due("50 and 1", x.cell(0, 0, 0, 0), 51);
        Check.due("of 2 there is none", x.cell(0, 0, 2, 0), MISSING);
        Check.due("it is ended", x, y -> y.end(false), Check.STATE);
        x.begin();
        x.forget(0, 0, 1, 0);
        Check.due("back to when the second one was begun", x.end(false), 2);
        Check.due("50 and 1 again", x.cell(0, 0, 0, 0), 51);
    }

    private static void onceMore() {
        Check.of("Terms: WRITING, SESSIONS");
        Cubecaller x = with(1, 1);
        for (int i = 0; i < 30; i++) {
            x.begin();
            x.write(0, 0, 0, 0, 100 + i, EQUAL);
            Check.due("two", x.end(i % 3 == 0), 2);
            Check.due("of the latest that was kept", x.cell(0, 0, 0, 0), 100 + i / 3 * 3);
        }
    }

    private static void facts() {
        Check.of("Promise 26: facts");
        Cubecaller x = with();
        for (int i = 1; i < 12; i++) {
            x.member(2, 0, 1);
            Check.due("a member is no fact", x.facts(), i - 1);
            x.fact(0, 0, i, 0, 0);
            Check.due("one more", x.facts(), i);
            x.fact(0, 0, i, 0, i);
            Check.due("changed, none more", x.facts(), i);
        }
        for (int i = 11; i > 0; i--) {
            Check.due("the number", x.forget(0, 0, i, 0), i);
            Check.due("one less", x.facts(), i - 1);
        }
        Check.due("no more", x, y -> y.forget(0, 0, 1, 0), Check.STATE);
        Check.due("none", x.facts(), 0);
        x.write(0, 0, 0, 0, 0, EQUAL);
        Check.due("one by writing", x.facts(), 1);
    }
}
