/** Promises 23 to 26: writing and sessions. */
public final class WritingTest {
    private static final long MISSING = Cubecaller.MISSING;
    private static final int SUM = Cubecaller.SUM;
    private static final int EQUAL = Cubecaller.EQUAL;
    private static final int WEIGHTS = Cubecaller.WEIGHTS;
    private static final int REST = Cubecaller.REST;

    public static void main(String[] args) {
        equal();
        weights();
        weightsAsEqual();
        rest();
        orderOfFacts();
        made();
        overBridges();
        byThen();
        leftOut();
        whereNothingIsMeant();
        writeRefuses();
        session();
        sessionAndOrder();
        sessionRefuses();
        facts();
        Check.end("WritingTest");
    }

    /** Facts of the members 1, 2, ... of the dimension 1, made in that order. */
    private static Cubecaller with(int... numbers) {
        Cubecaller x = new Cubecaller();
        fill(x, numbers);
        return x;
    }

    private static void fill(Cubecaller x, int... numbers) {
        x.measure(SUM, 0, 0);
        for (int i = 0; i < numbers.length; i++) {
            x.member(1, 0, 1);
            x.fact(0, i + 1, 0, 0, numbers[i]);
        }
    }

    private static void have(String what, Cubecaller x, int... numbers) {
        for (int i = 0; i < numbers.length; i++) {
            Check.due(what + ", member " + (i + 1), x.cellAnew(0, i + 1, 0, 0), numbers[i]);
        }
    }

    private static void equal() {
        Check.of("Terms: WRITING, SESSIONS");
        Cubecaller x = with(1, 1, 1);
        Check.due("how many", x.write(0, 0, 0, 0, 11, EQUAL), 3);
        have("the first ones 1 more", x, 4, 4, 3);
        Check.due("one has the same", x.write(0, 0, 0, 0, 12, EQUAL), 1);
        have("without a rest", x, 4, 4, 4);
        Check.due("none has another", x.write(0, 0, 0, 0, 12, EQUAL), 0);
        Check.due("less than there are", x.write(0, 0, 0, 0, 1, EQUAL), 3);
        have("1, 0, 0", x, 1, 0, 0);
        Check.due("0", x.write(0, 0, 0, 0, 0, EQUAL), 1);
        Check.due("a million", x.write(0, 0, 0, 0, 1000000, EQUAL), 3);
        have("a million", x, 333334, 333333, 333333);
        Check.due("to one of them", x.write(0, 2, 0, 0, 5, EQUAL), 1);
        have("the others stay", x, 333334, 5, 333333);
    }

    private static void weights() {
        Check.of("Terms: WRITING, SESSIONS");
        Cubecaller x = with(10, 30, 60);
        Check.due("how many", x.write(0, 0, 0, 0, 1000, WEIGHTS), 3);
        have("by weights", x, 100, 300, 600);
        Check.due("one more", x.write(0, 0, 0, 0, 1001, WEIGHTS), 1);
        have("to the greatest remainder", x, 100, 300, 601);
        Cubecaller y = with(1, 1, 1);
        y.write(0, 0, 0, 0, 2, WEIGHTS);
        have("of the same remainders the first", y, 1, 1, 0);
        Cubecaller z = with(3, 5, 4, 0);
        Check.due("two are left", z.write(0, 0, 0, 0, 7, WEIGHTS), 3);
        have("21, 35, 28 by 12: remainders 9, 11, 4", z, 2, 3, 2, 0);
        Cubecaller w = with(0, 1000000, 999999);
        w.write(0, 0, 0, 0, 1000000, WEIGHTS);
        have("great numbers", w, 0, 500000, 500000);
    }

    private static void weightsAsEqual() {
        Check.of("Terms: WRITING, SESSIONS");
        Cubecaller x = with(0, 0);
        x.write(0, 0, 0, 0, 5, WEIGHTS);
        have("they add up to 0", x, 3, 2);
        Cubecaller y = with(-1, 30, 1);
        y.write(0, 0, 0, 0, 31, WEIGHTS);
        have("one is below 0", y, 11, 10, 10);
        Cubecaller z = with(5, -5);
        z.write(0, 0, 0, 0, 3, WEIGHTS);
        have("both", z, 2, 1);
    }

    private static void rest() {
        Check.of("Terms: WRITING, SESSIONS");
        Cubecaller x = with(10, 30, 60);
        Check.due("the first one alone", x.write(0, 0, 0, 0, 50, REST), 1);
        have("the number less all others", x, -40, 30, 60);
        Check.due("it has it already", x.write(0, 0, 0, 0, 50, REST), 0);
        Check.due("alone", x.write(0, 2, 0, 0, 7, REST), 1);
        have("itself", x, -40, 7, 60);
        Cubecaller y = with(0, 1000000);
        Check.due("down to -1000000", y.write(0, 0, 0, 0, 0, REST), 1);
        have("the least", y, -1000000, 1000000);
        Cubecaller z = with(0, -1000000);
        Check.due("up to 1000000", z.write(0, 0, 0, 0, 0, REST), 1);
        have("the most", z, 1000000, -1000000);
        Check.refuses("1000001", Check.STATE, c -> fill(c, 0, -1000000), c -> c.write(0, 0, 0, 0, 1, REST));
        Check.refuses("-1000001", Check.STATE, c -> fill(c, 0, 1000000, 1), c -> c.write(0, 0, 0, 0, 0, REST));
    }

    private static void orderOfFacts() {
        Check.of("Terms: WRITING, SESSIONS");
        Cubecaller x = with(1, 1, 1);
        x.forget(0, 1, 0, 0);
        x.fact(0, 1, 0, 0, 1);
        x.write(0, 0, 0, 0, 10, EQUAL);
        have("1 was made last", x, 3, 4, 3);
        x.fact(0, 2, 0, 0, 9);
        x.write(0, 0, 0, 0, 10, EQUAL);
        have("one that was changed stays where it was", x, 3, 4, 3);
        x.write(0, 0, 0, 0, 100, REST);
        have("the first one is 2", x, 3, 94, 3);
    }

    private static void made() {
        Check.of("Terms: WRITING, SESSIONS");
        Cubecaller x = with(1);
        x.member(1, 1, 1);
        x.member(0, 0, 1);
        x.member(2, 0, 1);
        Check.due("one is made", x.write(1, 2, 1, 0, 40, WEIGHTS), 1);
        Check.due("it is a fact", x.facts(), 2);
        Check.due("its number", x.forget(1, 2, 1, 0), 40);
        Check.due("with REST", x.write(1, 1, 1, 0, 6, REST), 1);
        Check.due("its number", x.forget(1, 1, 1, 0), 6);
        Check.due("0 is made too", x.write(1, 0, 1, 0, 0, EQUAL), 1);
        Check.due("above all others", x.forget(1, 0, 1, 0), 0);
        Check.due("to those that are there", x.write(0, 0, 0, 0, 9, EQUAL), 1);
        Check.due("none is made", x.facts(), 1);
    }

    private static void overBridges() {
        Check.of("Terms: WRITING, SESSIONS");
        Cubecaller x = with(5, 6, 7);
        int bridge = x.bridge(1, 2 + 4);
        Check.due("over a BRIDGE", x.write(0, bridge, 0, 0, 21, EQUAL), 2);
        have("its members", x, 11, 10, 7);
        x.member(1, 0, -1);
        x.member(1, 5, -1);
        x.fact(0, 6, 0, 0, 3);
        Check.due("a product of 1", x.write(0, 0, 0, 0, 4, EQUAL), 4);
        have("with it", x, 1, 1, 1);
        Check.due("it", x.cell(0, 6, 0, 0), 1);
        x.member(1, 0, 0);
        x.fact(0, 7, 0, 0, 70);
        Check.due("with the weight 0 it does not count", x.write(0, 0, 0, 0, 8, EQUAL), 4);
        Check.due("it stays", x.cell(0, 7, 0, 0), 70);
    }

    private static void byThen() {
        Check.of("Terms: WRITING, SESSIONS");
        Cubecaller x = with(1, 2, 3);
        x.member(0, 0, 1);
        x.member(1, 1, 1);
        x.fact(0, 4, 0, 0, 10);
        x.fact(1, 4, 0, 0, 20);
        x.move(1, 4, 2, 1);
        Check.due("as then", x.write(0, 1, 0, 0, 100, EQUAL), 2);
        have("1 and its child at the time 0", x, 50 + 50, 2 + 20, 3);
        x.asNow(true);
        Check.due("as now", x.write(0, 1, 0, 0, 100, EQUAL), 1);
        Check.due("1 alone", x.cell(0, 1, 0, 0), 100);
    }

    private static void leftOut() {
        Check.of("Terms: WRITING, SESSIONS");
        Cubecaller x = with(1, 2, 3);
        x.hide(1, 2, true);
        Check.due("those not seen count", x.write(0, 0, 0, 0, 9, EQUAL), 2);
        x.totals(true);
        Check.due("left out they do not", x.write(0, 0, 0, 0, 10, EQUAL), 2);
        x.totals(false);
        Check.due("all", x.cell(0, 0, 0, 0), 13);
    }

    private static void whereNothingIsMeant() {
        Check.of("Terms: WRITING, SESSIONS");
        Cubecaller x = with(1, 2, 3);
        x.from(0, 1, 1);
        Check.due("above a depth", x.write(0, 0, 0, 0, 9, EQUAL), 2);
        Check.due("missing still", x.cell(0, 0, 0, 0), MISSING);
        have("written", x, 3, 3, 3);
    }

    private static void writeRefuses() {
        Check.of("Promise 23: write");
        Check.Act build = x -> {
            fill(x, 10, 20);
            x.measure(Cubecaller.LAST, 0, 0);
            x.measure(Cubecaller.DIFFERENT, 0, 0);
            x.measure(Cubecaller.RATIO, 0, 1);
            x.member(1, 0, -1);
            x.member(0, 0, 1);
            x.bridge(1, 2);
            x.word(Cubecaller.LOOK, 1, 0);
            x.calculate(1, 0);
            x.cell(0, 1, 0, 0);
        };
        int[][] none = {{2, 0, 0, 0}, {-1, 0, 0, 0}, {0, 6, 0, 0}, {0, -1, 0, 0}, {0, 0, 1, 0}, {0, 0, -1, 0},
            {0, 0, 0, 4}, {0, 0, 0, -1}};
        for (int[] c : none) {
            Check.refuses("a cell that there is not", Check.INDEX, build, x -> x.write(c[0], c[1], c[2], c[3], -1, 3));
        }
        Check.refuses("value -1", Check.ARGUMENT, build, x -> x.write(0, 1, 0, 0, -1, 0));
        Check.refuses("value 1000001", Check.ARGUMENT, build, x -> x.write(0, 1, 0, 0, 1000001, 0));
        Check.refuses("how 3", Check.ARGUMENT, build, x -> x.write(0, 1, 0, 0, 1, 3));
        Check.refuses("how -1", Check.ARGUMENT, build, x -> x.write(0, 1, 0, 0, 1, -1));
        Check.refuses("a bad value ahead of LAST", Check.ARGUMENT, build, x -> x.write(0, 1, 0, 1, -1, 0));
        for (int m = 1; m < 4; m++) {
            int measure = m;
            Check.refuses("no SUM", Check.STATE, build, x -> x.write(0, 1, 0, measure, 1, 0));
        }
        Check.refuses("a CALCULATED one", Check.STATE, build, x -> x.write(0, 5, 0, 0, 1, 0));
        Check.refuses("a BRIDGE without facts", Check.STATE, build, x -> x.write(1, 4, 0, 0, 1, 0));
        Check.Act hidden = x -> {
            build.on(x);
            x.hide(1, 1, true);
        };
        Check.refuses("not seen", Check.STATE, hidden, x -> x.write(0, 1, 0, 0, 1, 0));
        Check.refuses("a BRIDGE that is not seen", Check.STATE, hidden, x -> x.write(0, 4, 0, 0, 1, 0));
        Check.Act minus = x -> {
            build.on(x);
            x.fact(0, 3, 0, 0, 5);
        };
        Check.refuses("a weight of -1", Check.STATE, minus, x -> x.write(0, 0, 0, 0, 1, 0));
        Check.Act first = x -> {
            minus.on(x);
            x.forget(0, 1, 0, 0);
            x.forget(0, 2, 0, 0);
        };
        Check.refuses("one of -1 alone", Check.STATE, first, x -> x.write(0, 0, 0, 0, 1, 0));
        Check.refuses("the first of -1", Check.STATE, x -> {
            first.on(x);
            x.fact(0, 1, 0, 0, 1);
        }, x -> x.write(0, 0, 0, 0, 1, 0));
        Check.Act fifty = x -> {
            fill(x, 1, 1, 1, 1, 1);
            for (int i = 5; i < 50; i++) {
                if (i % 5 == 0) {
                    x.member(0, 0, 1);
                }
                x.fact(i / 5, 1 + i % 5, 0, 0, 1);
            }
            x.member(2, 0, 1);
        };
        Check.refuses("a 51st fact", Check.STATE, fifty, x -> x.write(0, 0, 1, 0, 1, 0));
        Cubecaller x = new Cubecaller();
        fifty.on(x);
        Check.due("to 50 facts", x.write(0, 0, 0, 0, 50 * 7, WEIGHTS), 50);
        Check.due("all of them", x.cell(0, 0, 0, 0), 350);
        Check.due("one is left", x.write(0, 0, 0, 0, 351, WEIGHTS), 1);
        Check.due("for the first one", x.cell(0, 1, 0, 0), 9 * 7 + 7 + 1);
        Check.due("the rest of 49", x.write(0, 0, 0, 0, 352, REST), 1);
        Check.due("to the first one", x.cell(0, 1, 0, 0), 9 * 7 + 7 + 2);
        Check.due("to each of 50", x.write(0, 0, 0, 0, 51, EQUAL), 50);
        Check.due("the first one has 1 more", x.cell(0, 1, 0, 0), 11);
        x.forget(9, 5, 0, 0);
        Check.due("a 50th", x.write(0, 0, 1, 0, 1, 0), 1);
        Check.due("50", x.facts(), 50);
    }

    private static void session() {
        Check.of("Promise 25: end");
        Cubecaller x = with(1, 2, 3);
        x.begin();
        x.fact(0, 1, 0, 0, 100);
        x.forget(0, 2, 0, 0);
        x.member(1, 0, 1);
        x.fact(0, 4, 0, 0, 4000);
        x.fact(0, 0, 0, 0, 50000);
        Check.due("within", x.cell(0, 0, 0, 0), 54103);
        x.cell(0, 3, 0, 0);
        Check.due("facts as they were", x.end(false), 3);
        Check.due("all kept cells are dropped", x.kept(), 0);
        have("as it was begun", x, 1, 2, 3);
        Check.due("members stay", x.memberAt(1, 4, 2), 1);
        Check.due("the new fact is gone", x.cellAnew(0, 4, 0, 0), MISSING);
        x.begin();
        x.write(0, 0, 0, 0, 10, EQUAL);
        x.forget(0, 3, 0, 0);
        x.cell(0, 0, 0, 0);
        Check.due("facts as they are", x.end(true), 2);
        Check.due("nothing is dropped", x.kept(), 1);
        have("they stay", x, 4, 3);
        x.begin();
        x.forget(0, 1, 0, 0);
        Check.due("a third session, from what stayed", x.end(false), 2);
        have("as that was begun", x, 4, 3);
    }

    private static void sessionAndOrder() {
        Check.of("Promise 25: end");
        Cubecaller x = with(1, 1, 1);
        x.begin();
        x.forget(0, 1, 0, 0);
        x.fact(0, 1, 0, 0, 1);
        x.end(false);
        x.write(0, 0, 0, 0, 10, EQUAL);
        have("the order as it was too", x, 4, 3, 3);
        x.begin();
        x.forget(0, 1, 0, 0);
        x.fact(0, 1, 0, 0, 1);
        x.end(true);
        x.write(0, 0, 0, 0, 10, EQUAL);
        have("kept in the new order", x, 3, 4, 3);
        Cubecaller y = with(1, 2, 3);
        y.measure(SUM, 0, 0);
        y.fact(0, 1, 0, 1, 40);
        y.begin();
        y.forget(0, 1, 0, 1);
        y.forget(0, 1, 0, 0);
        y.fact(0, 1, 0, 1, 70);
        y.fact(0, 2, 0, 1, 80);
        Check.due("four again", y.end(false), 4);
        have("of the first measure", y, 1, 2, 3);
        Check.due("of the second one", y.cell(0, 0, 0, 1), 40);
    }

    private static void sessionRefuses() {
        Check.of("Promise 24: begin");
        Check.Act begun = x -> {
            fill(x, 1, 2);
            x.begin();
            x.fact(0, 1, 0, 0, 9);
        };
        Check.refuses("a session in a session", Check.STATE, begun, Cubecaller::begin);
        Check.refuses("no session to keep", Check.STATE, x -> fill(x, 1, 2), x -> x.end(true));
        Check.refuses("no session to drop", Check.STATE, x -> fill(x, 1, 2), x -> x.end(false));
        Check.Act ended = x -> {
            begun.on(x);
            x.end(true);
        };
        Check.refuses("an ended session", Check.STATE, ended, x -> x.end(false));
        Cubecaller x = new Cubecaller();
        begun.on(x);
        try {
            x.begin();
        } catch (IllegalStateException e) {
            x.end(false);
        }
        have("the first begin counts", x, 1, 2);
    }

    private static void facts() {
        Check.of("Promise 26: facts");
        Cubecaller x = with(1, 2, 3);
        Check.due("three", x.facts(), 3);
        x.fact(0, 1, 0, 0, 9);
        Check.due("three still", x.facts(), 3);
        x.forget(0, 1, 0, 0);
        Check.due("two", x.facts(), 2);
        x.write(0, 1, 0, 0, 1, EQUAL);
        Check.due("three again", x.facts(), 3);
    }
}
