/** Promises 1 to 26 on a new object: no member but 0, no measure, no fact, an empty draft, nothing picked or kept. */
public final class NothingYetTest {
    private static final long MISSING = Cubecaller.MISSING;
    private static final int NONE = Cubecaller.NONE;
    private static final int SUM = Cubecaller.SUM;
    private static final Check.Act NOTHING = x -> { };
    private static final Check.Act MEASURE = x -> x.measure(SUM, 0, 0);

    public static void main(String[] args) {
        newObject();
        members();
        moves();
        formulas();
        seeing();
        measures();
        facts();
        cells();
        sets();
        topOfNothing();
        writing();
        sessions();
        Check.end("NothingYetTest");
    }

    private static Cubecaller measured() {
        Cubecaller x = new Cubecaller();
        MEASURE.on(x);
        return x;
    }

    private static void newObject() {
        Check.of("Promise 1: A new object");
        Cubecaller one = new Cubecaller();
        Cubecaller other = new Cubecaller();
        one.member(0, 0, 1);
        MEASURE.on(one);
        one.fact(0, 0, 0, 0, 1);
        one.begin();
        Check.due("another object has no member by that", other, x -> x.memberAt(0, 1, 0), Check.INDEX);
        Check.due("nor a measure", other, x -> x.cell(0, 0, 0, 0), Check.INDEX);
        Check.due("nor a fact", other.facts(), 0);
        Check.due("nor a session", other, x -> x.end(true), Check.STATE);
    }

    private static void members() {
        for (int d = 0; d < 3; d++) {
            int dimension = d;
            Check.of("Promise 2: member");
            for (int sign = -1; sign <= 1; sign++) {
                Check.due("the first one, with the sign " + sign, new Cubecaller().member(d, 0, sign), 1);
            }
            Check.refuses("below one that there is not yet", Check.INDEX, NOTHING, x -> x.member(dimension, 1, 1));
            Check.of("Promise 3: bridge");
            Check.due("of the member 0", new Cubecaller().bridge(d, 1), 1);
            Check.refuses("of the member 1", Check.INDEX, NOTHING, x -> x.bridge(dimension, 2));
            Check.refuses("of the members 0 and 1", Check.INDEX, NOTHING, x -> x.bridge(dimension, 3));
            Check.refuses("of all", Check.INDEX, NOTHING, x -> x.bridge(dimension, 4095));
            Check.of("Promise 6: memberAt");
            Check.refuses("the member 1", Check.INDEX, NOTHING, x -> x.memberAt(dimension, 1, 0));
        }
    }

    private static void moves() {
        Check.of("Promise 4: move");
        Check.refuses("nobody but 0", Check.INDEX, NOTHING, x -> x.move(1, 1, 0, 0));
        Check.refuses("nobody but 0 in the dimension 2", Check.INDEX, NOTHING, x -> x.move(2, 1, 0, 0));
        Check.refuses("0 itself", Check.INDEX, NOTHING, x -> x.move(1, 0, 0, 0));
        Cubecaller x = new Cubecaller();
        x.member(1, 0, 1);
        Check.due("to where it is", x.move(1, 1, 0, 0), 0);
        Check.refuses("from a time that there is not", Check.INDEX, c -> c.member(1, 0, 1), c -> c.move(1, 1, 0, 1));
        Check.of("Promise 5: asNow");
        Cubecaller y = new Cubecaller();
        Check.due("at first as then", y.asNow(true), false);
        Check.due("then as now", y.asNow(false), true);
        Check.due("as then again", y.asNow(false), false);
    }

    private static void formulas() {
        Check.of("Promise 7: word");
        Check.due("the first word", new Cubecaller().word(Cubecaller.NUMBER, 0, 0), 1);
        Check.due("a look at one that there is not yet", new Cubecaller().word(Cubecaller.LOOK, 11, 11), 1);
        Check.due("to date of one that there is not yet", new Cubecaller().word(Cubecaller.DATE, 11, 0), 1);
        for (int i = Cubecaller.PLUS; i <= Cubecaller.PER; i++) {
            int what = i;
            Check.refuses("nothing on the pile", Check.STATE, NOTHING, x -> x.word(what, 0, 0));
        }
        Check.of("Promise 8: calculate");
        for (int d = 0; d < 3; d++) {
            int dimension = d;
            Check.refuses("an empty draft", Check.STATE, NOTHING, x -> x.calculate(dimension, 0));
            Check.refuses("a look at itself", Check.STATE, x -> x.word(Cubecaller.LOOK, 1, 0), x -> x.calculate(dimension, 0));
            Check.refuses("to date of itself", Check.STATE, x -> x.word(Cubecaller.DATE, 1, 0), x -> x.calculate(dimension, 0));
            Cubecaller x = new Cubecaller();
            x.word(Cubecaller.LOOK, 0, 0);
            Check.due("a look at the member 0", x.calculate(d, 0), 1);
            Check.due("an empty draft again", x, c -> c.calculate(dimension, 0), Check.STATE);
        }
    }

    private static void seeing() {
        Check.of("Promise 9: hide");
        for (int d = 0; d < 3; d++) {
            int dimension = d;
            Check.refuses("nobody but 0", Check.INDEX, NOTHING, x -> x.hide(dimension, 1, true));
            Check.refuses("0", Check.INDEX, NOTHING, x -> x.hide(dimension, 0, true));
            Check.refuses("0 no more", Check.INDEX, NOTHING, x -> x.hide(dimension, 0, false));
        }
        Check.of("Promise 10: totals");
        Cubecaller x = new Cubecaller();
        Check.due("at first with all", x.totals(true), false);
        Check.due("then without", x.totals(true), true);
        Check.due("then without still", x.totals(false), true);
        Check.due("then with all again", x.totals(false), false);
    }

    private static void measures() {
        Check.of("Promise 11: measure");
        for (int kind = SUM; kind < Cubecaller.RATIO; kind++) {
            Check.due("the first one", new Cubecaller().measure(kind, -1, Integer.MIN_VALUE), 0);
        }
        Check.refuses("a RATIO of none", Check.INDEX, NOTHING, x -> x.measure(Cubecaller.RATIO, 0, 0));
        Check.refuses("a RATIO of NONE", Check.INDEX, NOTHING, x -> x.measure(Cubecaller.RATIO, NONE, NONE));
        Check.of("Promise 12: from");
        Check.refuses("no measure", Check.INDEX, NOTHING, x -> x.from(0, 0, 0));
        for (int d = 0; d < 3; d++) {
            Check.due("0 at first", measured().from(0, d, 11), 0);
        }
    }

    private static void facts() {
        Check.of("Promise 13: fact");
        Check.refuses("no measure", Check.INDEX, NOTHING, x -> x.fact(0, 0, 0, 0, 1));
        Check.due("the first one", measured().fact(0, 0, 0, 0, 0), 1);
        Check.of("Promise 14: forget");
        Check.refuses("no measure", Check.INDEX, NOTHING, x -> x.forget(0, 0, 0, 0));
        Check.refuses("no fact", Check.STATE, MEASURE, x -> x.forget(0, 0, 0, 0));
        Cubecaller x = measured();
        x.fact(0, 0, 0, 0, 0);
        Check.due("a fact of 0 is one", x.forget(0, 0, 0, 0), 0);
        Check.due("none is left", x, c -> c.forget(0, 0, 0, 0), Check.STATE);
        Check.of("Promise 26: facts");
        Check.due("none", new Cubecaller().facts(), 0);
        Check.due("none left", x.facts(), 0);
    }

    private static void cells() {
        Check.of("Promise 15: cell");
        Check.refuses("no measure", Check.INDEX, NOTHING, x -> x.cell(0, 0, 0, 0));
        for (int kind = SUM; kind < Cubecaller.RATIO; kind++) {
            Cubecaller x = new Cubecaller();
            x.measure(kind, 0, 0);
            x.measure(Cubecaller.RATIO, 0, 0);
            Check.due("missing", x.cell(0, 0, 0, 0), MISSING);
            Check.due("a RATIO of what is missing", x.cell(0, 0, 0, 1), MISSING);
        }
        Check.of("Promise 16: cellAnew");
        Check.refuses("no measure", Check.INDEX, NOTHING, x -> x.cellAnew(0, 0, 0, 0));
        Check.due("missing", measured().cellAnew(0, 0, 0, 0), MISSING);
        Check.of("Promise 17: kept");
        Check.due("nothing is kept", new Cubecaller().kept(), 0);
        Check.of("Promise 18: hits");
        Check.due("no hit", new Cubecaller().hits(), 0);
        Cubecaller x = measured();
        x.cell(0, 0, 0, 0);
        Check.due("the first time is none", x.hits(), 0);
        x.cell(0, 0, 0, 0);
        Check.due("the second time is one", x.hits(), 1);
    }

    private static void sets() {
        for (int d = 0; d < 3; d++) {
            int dimension = d;
            Check.of("Promise 19: at");
            Check.due("0 at first", new Cubecaller().at(d, 0), 0);
            Check.refuses("nobody but 0", Check.INDEX, NOTHING, x -> x.at(dimension, 1));
            Check.of("Promise 20: pick");
            Cubecaller x = new Cubecaller();
            Check.due("0 has no children", x.pick(d, Cubecaller.CHILDREN, 0, -1, 0), 0);
            Check.due("0 is a leaf", x.pick(d, Cubecaller.LEAVES, 0, -1, 0), 1);
            Check.due("0 has the depth 0", x.pick(d, Cubecaller.DEPTH, 0, -1, 0), 1);
            Check.due("nobody has the depth 1", x.pick(d, Cubecaller.DEPTH, 1, -1, 0), 0);
            Check.due("nobody has the depth 11", x.pick(d, Cubecaller.DEPTH, 11, -1, 0), 0);
            Check.refuses("children of nobody", Check.INDEX, NOTHING, c -> c.pick(dimension, Cubecaller.CHILDREN, 1, 0, 0));
            Check.refuses("a top without a measure", Check.INDEX, NOTHING, c -> c.pick(dimension, Cubecaller.LEAVES, 0, 0, 1));
            Check.of("Promise 21: picked");
            Check.due("nothing was picked", new Cubecaller().picked(d, 0), NONE);
            Check.due("nothing is left of it", x.picked(d, 0), NONE);
            Check.refuses("a place below 0", Check.INDEX, NOTHING, c -> c.picked(dimension, -1));
            Check.of("Promise 22: cross");
            int other = (d + 1) % 3;
            Check.due("nothing was picked", measured().cross(d, other, 0), 0);
            Check.refuses("no measure", Check.INDEX, NOTHING, c -> c.cross(dimension, other, 0));
        }
    }

    private static void topOfNothing() {
        Check.of("Promise 20: pick");
        Cubecaller x = measured();
        Check.due("all are missing", x.pick(1, Cubecaller.LEAVES, 0, 0, 12), 0);
        x.fact(0, 0, 0, 0, 0);
        Check.due("0 is not missing", x.pick(1, Cubecaller.LEAVES, 0, 0, 12), 1);
        Check.of("Promise 22: cross");
        Check.due("picked in one dimension alone", x.cross(1, 2, 0), 0);
        x.pick(2, Cubecaller.LEAVES, 0, 0, 0);
        Check.due("picked in both", x.cross(1, 2, 0), 1);
    }

    private static void writing() {
        Check.of("Promise 23: write");
        Check.refuses("no measure", Check.INDEX, NOTHING, x -> x.write(0, 0, 0, 0, 0, 0));
        for (int how = Cubecaller.EQUAL; how <= Cubecaller.REST; how++) {
            Cubecaller x = measured();
            Check.due("the first one is made", x.write(0, 0, 0, 0, 0, how), 1);
            Check.due("it is there", x.facts(), 1);
            Check.due("it has the number", x.cell(0, 0, 0, 0), 0);
        }
        Check.refuses("with a BRIDGE, without any fact", Check.STATE, x -> {
            MEASURE.on(x);
            x.bridge(1, 1);
        }, x -> x.write(0, 1, 0, 0, 1, 0));
    }

    private static void sessions() {
        Check.of("Promise 24: begin");
        Cubecaller x = new Cubecaller();
        Check.due("the first one", x, Cubecaller::begin, null);
        Check.refuses("a second one within it", Check.STATE, Cubecaller::begin, Cubecaller::begin);
        Check.of("Promise 25: end");
        Check.due("without facts", x.end(false), 0);
        x.begin();
        Check.due("without facts, kept", x.end(true), 0);
        Check.refuses("none was begun", Check.STATE, NOTHING, c -> c.end(false));
        Check.refuses("none was begun to be kept", Check.STATE, NOTHING, c -> c.end(true));
        Cubecaller y = measured();
        y.begin();
        y.fact(0, 0, 0, 0, 1);
        Check.due("back to none", y.end(false), 0);
        Check.due("missing again", y.cell(0, 0, 0, 0), MISSING);
    }
}
