/** Promises 11 to 14: measures and facts. */
public final class FactsTest {
    private static final long MISSING = Cubecaller.MISSING;
    private static final int SUM = Cubecaller.SUM;
    private static final int LAST = Cubecaller.LAST;
    private static final int DIFFERENT = Cubecaller.DIFFERENT;
    private static final int RATIO = Cubecaller.RATIO;

    public static void main(String[] args) {
        measure();
        last();
        different();
        ratio();
        ratioBounds();
        measureRefuses();
        from();
        fromAndRatio();
        fromRefuses();
        fact();
        factRefuses();
        forget();
        Check.end("FactsTest");
    }

    private static void measure() {
        Check.of("Promise 11: measure");
        Cubecaller x = new Cubecaller();
        Check.due("number of a measure", x.measure(SUM, -5, 99), 0);
        Check.due("for LAST the others do not matter", x.measure(LAST, 99, -1), 1);
        Check.due("for DIFFERENT neither", x.measure(DIFFERENT, 99, -1), 2);
        Check.due("RATIO", x.measure(RATIO, 2, 0), 3);
        for (int m = 0; m < 4; m++) {
            Check.due("missing without any fact", x.cell(0, 0, 0, m), MISSING);
        }
        x.fact(0, 0, 0, 0, 0);
        Check.due("missing is not 0", x.cell(0, 0, 0, 0), 0);
        x.fact(0, 0, 0, 1, 0);
        Check.due("for LAST too", x.cell(0, 0, 0, 1), 0);
        x.fact(0, 0, 0, 2, 0);
        Check.due("0 is a number", x.cell(0, 0, 0, 2), 1);
        Check.due("divided by 0", x.cell(0, 0, 0, 3), MISSING);
    }

    /** Times 1 to 4 in the order 1, 3, 2, 4: 3 is below 1; 4 has the sign -1. */
    private static void times(Cubecaller x) {
        x.member(0, 0, 1);
        x.member(0, 0, 1);
        x.member(0, 1, 1);
        x.member(0, 0, -1);
        x.member(1, 0, 1);
        x.member(1, 0, -1);
    }

    private static void last() {
        Check.of("Terms: FACTS, MEASURES");
        Cubecaller x = new Cubecaller();
        times(x);
        x.measure(LAST, 0, 0);
        x.fact(0, 1, 0, 0, 1);
        Check.due("the member 0 stands first", x.cell(0, 0, 0, 0), 1);
        x.fact(3, 1, 0, 0, 10);
        Check.due("3", x.cell(0, 0, 0, 0), 10);
        x.fact(1, 1, 0, 0, 20);
        Check.due("1 stands ahead of its child 3", x.cell(0, 0, 0, 0), 10);
        x.fact(2, 1, 0, 0, 300);
        Check.due("2 stands behind 3", x.cell(0, 0, 0, 0), 300);
        x.fact(2, 2, 0, 0, 5000);
        Check.due("all of that time, times their weights", x.cell(0, 0, 0, 0), 300 - 5000);
        Check.due("below 1", x.cell(1, 0, 0, 0), 10);
        x.fact(4, 2, 0, 0, 7);
        Check.due("two signs", x.cell(0, 0, 0, 0), 7);
        Check.due("of those that count: for the member 1 of the dimension 1", x.cell(0, 1, 0, 0), 300);
        x.member(1, 0, 0);
        x.fact(4, 3, 0, 0, 9);
        Check.due("with the weight 0 it does not count", x.cell(0, 0, 0, 0), 7);
        x.forget(4, 2, 0, 0);
        Check.due("nor is its time the last then", x.cell(0, 0, 0, 0), 300 - 5000);
    }

    private static void different() {
        Check.of("Terms: FACTS, MEASURES");
        Cubecaller x = new Cubecaller();
        times(x);
        x.measure(DIFFERENT, 0, 0);
        x.fact(1, 1, 0, 0, 5);
        x.fact(2, 1, 0, 0, -5);
        x.fact(3, 2, 0, 0, 5);
        Check.due("unlike numbers, whatever they weigh", x.cell(0, 0, 0, 0), 2);
        x.fact(4, 2, 0, 0, 0);
        Check.due("a third one", x.cell(0, 0, 0, 0), 3);
        x.member(1, 0, 0);
        x.fact(4, 3, 0, 0, 77);
        Check.due("with the weight 0 it does not count", x.cell(0, 0, 0, 0), 3);
        x.fact(2, 1, 0, 0, 5);
        Check.due("two of one number", x.cell(0, 0, 0, 0), 2);
        Check.due("all of one number", x.cell(0, 1, 0, 0), 1);
    }

    private static void ratio() {
        Check.of("Terms: FACTS, MEASURES");
        Cubecaller x = new Cubecaller();
        x.measure(SUM, 0, 0);
        x.measure(LAST, 0, 0);
        x.measure(RATIO, 0, 1);
        x.measure(RATIO, 2, 0);
        x.fact(0, 0, 0, 0, 7);
        Check.due("the second one is missing", x.cell(0, 0, 0, 2), MISSING);
        x.fact(0, 0, 0, 1, 3);
        Check.due("rounded", x.cell(0, 0, 0, 2), 2333);
        Check.due("a RATIO of a RATIO", x.cell(0, 0, 0, 3), 333285);
        x.fact(0, 0, 0, 0, -7);
        Check.due("rounded toward 0", x.cell(0, 0, 0, 2), -2333);
        x.fact(0, 0, 0, 1, -3);
        Check.due("both below 0", x.cell(0, 0, 0, 2), 2333);
        Check.due("RATIO over a RATIO", x.cell(0, 0, 0, 3), -333285);
        x.fact(0, 0, 0, 0, 0);
        Check.due("0 over a number", x.cell(0, 0, 0, 2), 0);
        Check.due("by 0", x.cell(0, 0, 0, 3), MISSING);
        x.forget(0, 0, 0, 0);
        Check.due("the first one is missing", x.cell(0, 0, 0, 2), MISSING);
        Cubecaller y = new Cubecaller();
        y.measure(SUM, 0, 0);
        y.measure(RATIO, 0, 0);
        y.fact(0, 0, 0, 0, 5);
        Check.due("over itself", y.cell(0, 0, 0, 1), 1000);
    }

    private static void ratioBounds() {
        Check.of("Terms: FACTS, MEASURES");
        Cubecaller x = new Cubecaller();
        x.measure(SUM, 0, 0);
        x.measure(SUM, 0, 0);
        x.measure(RATIO, 0, 1);
        x.measure(RATIO, 2, 1);
        x.fact(0, 0, 0, 0, 1000000);
        x.fact(0, 0, 0, 1, 1);
        Check.due("10 to the power of 9", x.cell(0, 0, 0, 2), 1000000000L);
        Check.due("kept to 10 to the power of 12", x.cell(0, 0, 0, 3), 1000000000000L);
        x.fact(0, 0, 0, 1, -1);
        Check.due("twice below 0", x.cell(0, 0, 0, 3), 1000000000000L);
        x.fact(0, 0, 0, 0, -1000000);
        Check.due("kept from -10 to the power of 12", x.cell(0, 0, 0, 3), -1000000000000L);
        x.fact(0, 0, 0, 0, 1000);
        x.fact(0, 0, 0, 1, 1);
        Check.due("within the bound", x.cell(0, 0, 0, 3), 1000000000L);
    }

    private static void measureRefuses() {
        Check.of("Promise 11: measure");
        Check.Act none = x -> { };
        Check.Act two = x -> {
            x.measure(SUM, 0, 0);
            x.measure(LAST, 0, 0);
        };
        Check.Act four = x -> {
            for (int i = 0; i < 4; i++) {
                x.measure(i, 0, 0);
            }
        };
        Check.refuses("RATIO of none", Check.INDEX, none, x -> x.measure(RATIO, 0, 0));
        Check.refuses("RATIO of itself first", Check.INDEX, two, x -> x.measure(RATIO, 2, 0));
        Check.refuses("RATIO of itself second", Check.INDEX, two, x -> x.measure(RATIO, 0, 2));
        Check.refuses("RATIO of -1", Check.INDEX, two, x -> x.measure(RATIO, -1, 0));
        Check.refuses("RATIO over -1", Check.INDEX, two, x -> x.measure(RATIO, 0, -1));
        Check.refuses("kind 4", Check.ARGUMENT, two, x -> x.measure(4, 0, 0));
        Check.refuses("kind -1", Check.ARGUMENT, two, x -> x.measure(-1, 0, 0));
        Check.refuses("a fifth one", Check.STATE, four, x -> x.measure(SUM, 0, 0));
        Check.refuses("a bad kind ahead of a fifth one", Check.ARGUMENT, four, x -> x.measure(4, 9, 9));
        Check.refuses("a bad measure ahead of a fifth one", Check.INDEX, four, x -> x.measure(RATIO, 0, 4));
    }

    private static void from() {
        Check.of("Promise 12: from");
        Cubecaller x = new Cubecaller();
        times(x);
        x.measure(SUM, 0, 0);
        x.measure(SUM, 0, 0);
        x.fact(3, 1, 0, 0, 5);
        x.fact(3, 1, 0, 1, 6);
        Check.due("0 at first", x.from(0, 0, 1), 0);
        Check.due("a lesser depth", x.cell(0, 0, 0, 0), MISSING);
        Check.due("the depth", x.cell(1, 0, 0, 0), 5);
        Check.due("a greater depth", x.cell(3, 0, 0, 0), 5);
        Check.due("another measure", x.cell(0, 0, 0, 1), 6);
        Check.due("the depth before", x.from(0, 0, 2), 1);
        Check.due("deeper", x.cell(1, 0, 0, 0), MISSING);
        Check.due("of another dimension", x.from(0, 1, 1), 0);
        Check.due("both", x.cell(3, 0, 0, 0), MISSING);
        Check.due("both deep enough", x.cell(3, 1, 0, 0), 5);
        Check.due("the dimension 2", x.from(0, 2, 11), 0);
        Check.due("nothing is as deep", x.cell(3, 1, 0, 0), MISSING);
        Check.due("each for itself", x.from(0, 2, 0), 11);
        Check.due("no more", x.from(0, 0, 0), 2);
        x.bridge(1, 1);
        Check.due("a BRIDGE has no depth", x.cell(0, 3, 0, 0), 5);
        x.word(Cubecaller.LOOK, 0, 0);
        x.calculate(2, 0);
        Check.due("a cell that is looked at has it by its members", x.cell(0, 0, 1, 0), MISSING);
        Check.due("another one", x.cell(0, 1, 1, 0), 5);
        x.word(Cubecaller.LOOK, 1, 0);
        x.calculate(1, 0);
        Check.due("a calculated member has no depth", x.cell(0, 4, 0, 0), 5);
        x.word(Cubecaller.NUMBER, 3, 0);
        x.calculate(2, 0);
        Check.due("nor does a cell with one mean nothing", x.cell(0, 0, 2, 0), 3);
    }

    private static void fromAndRatio() {
        Check.of("Promise 12: from");
        Cubecaller x = new Cubecaller();
        times(x);
        x.measure(SUM, 0, 0);
        x.measure(SUM, 0, 0);
        x.measure(RATIO, 0, 1);
        x.measure(RATIO, 2, 1);
        x.fact(1, 0, 0, 0, 6);
        x.fact(1, 0, 0, 1, 3);
        x.from(0, 0, 1);
        x.from(1, 0, 5);
        Check.due("not by its two measures", x.cell(0, 0, 0, 2), 2000);
        x.from(2, 0, 1);
        Check.due("by itself", x.cell(0, 0, 0, 2), MISSING);
        Check.due("deep enough for itself", x.cell(1, 0, 0, 2), 2000);
        Check.due("not by a RATIO that it needs", x.cell(0, 0, 0, 3), 666666);
    }

    private static void fromRefuses() {
        Check.of("Promise 12: from");
        Check.Act one = x -> x.measure(SUM, 0, 0);
        Check.refuses("measure 1", Check.INDEX, one, x -> x.from(1, 0, 1));
        Check.refuses("measure -1", Check.INDEX, one, x -> x.from(-1, 0, 1));
        Check.refuses("dimension 3", Check.INDEX, one, x -> x.from(0, 3, 12));
        Check.refuses("dimension -1", Check.INDEX, one, x -> x.from(0, -1, 1));
        Check.refuses("depth 12", Check.ARGUMENT, one, x -> x.from(0, 0, 12));
        Check.refuses("depth -1", Check.ARGUMENT, one, x -> x.from(0, 0, -1));
    }

    private static void fact() {
        Check.of("Promise 13: fact");
        Cubecaller x = new Cubecaller();
        times(x);
        x.measure(SUM, 0, 0);
        x.measure(LAST, 0, 0);
        Check.due("the first fact", x.fact(1, 1, 0, 0, 1000000), 1);
        Check.due("another time", x.fact(2, 1, 0, 0, -1000000), 2);
        Check.due("another measure", x.fact(1, 1, 0, 1, 3), 3);
        Check.due("the first one changed", x.fact(1, 1, 0, 0, 4), 3);
        Check.due("its cell", x.cell(1, 1, 0, 0), 4);
        Check.due("at a level above", x.fact(0, 0, 0, 0, 50), 4);
        Check.due("above that is those below and its own", x.cell(0, 0, 0, 0), 54 - 1000000);
        Cubecaller y = new Cubecaller();
        fifty(y);
        Check.due("all of them", y.facts(), 50);
        Check.due("one of 50 changed", y.fact(3, 3, 0, 0, 9), 50);
        Check.due("all added", y.cell(0, 0, 0, 0), 49 + 9);
        y.forget(5, 5, 0, 0);
        Check.due("room for another one", y.fact(0, 0, 0, 0, 2), 50);
    }

    /** Facts of 1 at the times 0 to 9 and the members 1 to 5. */
    private static void fifty(Cubecaller x) {
        x.measure(SUM, 0, 0);
        for (int i = 0; i < 9; i++) {
            x.member(0, 0, 1);
        }
        for (int i = 0; i < 5; i++) {
            x.member(1, 0, 1);
        }
        for (int i = 0; i < 50; i++) {
            x.fact(i / 5, 1 + i % 5, 0, 0, 1);
        }
    }

    private static void factRefuses() {
        Check.of("Promise 13: fact");
        Check.Act build = x -> {
            times(x);
            x.measure(SUM, 0, 0);
            x.measure(RATIO, 0, 0);
            x.fact(1, 1, 0, 0, 5);
            x.bridge(0, 2);
            x.bridge(1, 2);
            x.bridge(2, 1);
            x.word(Cubecaller.NUMBER, 1, 0);
            x.calculate(1, 0);
        };
        Check.refuses("time 6", Check.INDEX, build, x -> x.fact(6, 1, 0, 0, 1));
        Check.refuses("time -1", Check.INDEX, build, x -> x.fact(-1, 1, 0, 0, 1));
        Check.refuses("one 5", Check.INDEX, build, x -> x.fact(1, 5, 0, 0, 1));
        Check.refuses("one -1", Check.INDEX, build, x -> x.fact(1, -1, 0, 0, 1));
        Check.refuses("two 2", Check.INDEX, build, x -> x.fact(1, 1, 2, 0, 1));
        Check.refuses("two -1", Check.INDEX, build, x -> x.fact(1, 1, -1, 0, 1));
        Check.refuses("measure 2", Check.INDEX, build, x -> x.fact(1, 1, 0, 2, 1000001));
        Check.refuses("measure -1", Check.INDEX, build, x -> x.fact(1, 1, 0, -1, 1));
        Check.refuses("1000001", Check.ARGUMENT, build, x -> x.fact(1, 1, 0, 0, 1000001));
        Check.refuses("-1000001", Check.ARGUMENT, build, x -> x.fact(1, 1, 0, 0, -1000001));
        Check.refuses("a bad value ahead of a RATIO", Check.ARGUMENT, build, x -> x.fact(1, 1, 0, 1, 1000001));
        Check.refuses("a BRIDGE of time", Check.STATE, build, x -> x.fact(5, 1, 0, 0, 1));
        Check.refuses("a BRIDGE of one", Check.STATE, build, x -> x.fact(1, 3, 0, 0, 1));
        Check.refuses("a BRIDGE of two", Check.STATE, build, x -> x.fact(1, 1, 1, 0, 1));
        Check.refuses("a CALCULATED one", Check.STATE, build, x -> x.fact(1, 4, 0, 0, 1));
        Check.refuses("a RATIO", Check.STATE, build, x -> x.fact(1, 1, 0, 1, 1));
        Check.refuses("a 51st fact", Check.STATE, FactsTest::fifty, x -> x.fact(0, 0, 0, 0, 1));
        Check.refuses("a bad value ahead of a 51st", Check.ARGUMENT, FactsTest::fifty, x -> x.fact(0, 0, 0, 0, 1000001));
    }

    private static void forget() {
        Check.of("Promise 14: forget");
        Cubecaller x = new Cubecaller();
        times(x);
        x.measure(SUM, 0, 0);
        x.measure(LAST, 0, 0);
        x.fact(1, 1, 0, 0, -4);
        x.fact(2, 1, 0, 0, 5);
        x.fact(1, 1, 0, 1, 6);
        Check.due("the number that it was", x.forget(1, 1, 0, 0), -4);
        Check.due("one less", x.facts(), 2);
        Check.due("it counts no more", x.cell(0, 0, 0, 0), 5);
        Check.due("the other measure's is there", x.cell(1, 1, 0, 1), 6);
        Check.due("the second one", x.forget(2, 1, 0, 0), 5);
        Check.due("missing", x.cell(0, 0, 0, 0), MISSING);
        Check.Act build = c -> {
            times(c);
            c.measure(SUM, 0, 0);
            c.measure(RATIO, 0, 0);
            c.fact(1, 1, 0, 0, 5);
            c.bridge(1, 2);
        };
        Check.refuses("time 5", Check.INDEX, build, c -> c.forget(5, 1, 0, 0));
        Check.refuses("time -1", Check.INDEX, build, c -> c.forget(-1, 1, 0, 0));
        Check.refuses("one 4", Check.INDEX, build, c -> c.forget(1, 4, 0, 0));
        Check.refuses("one -1", Check.INDEX, build, c -> c.forget(1, -1, 0, 0));
        Check.refuses("two 1", Check.INDEX, build, c -> c.forget(1, 1, 1, 0));
        Check.refuses("two -1", Check.INDEX, build, c -> c.forget(1, 1, -1, 0));
        Check.refuses("measure 2", Check.INDEX, build, c -> c.forget(1, 1, 0, 2));
        Check.refuses("measure -1", Check.INDEX, build, c -> c.forget(1, 1, 0, -1));
        Check.refuses("no such fact", Check.STATE, build, c -> c.forget(1, 2, 0, 0));
        Check.refuses("above a fact", Check.STATE, build, c -> c.forget(0, 1, 0, 0));
        Check.refuses("a BRIDGE has none", Check.STATE, build, c -> c.forget(1, 3, 0, 0));
        Check.refuses("a RATIO has none", Check.STATE, build, c -> c.forget(1, 1, 0, 1));
    }
}
