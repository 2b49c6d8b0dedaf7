/** Promises 19 to 22: sets. */
public final class SetsTest {
    private static final int NONE = Cubecaller.NONE;
    private static final int SUM = Cubecaller.SUM;
    private static final int CHILDREN = Cubecaller.CHILDREN;
    private static final int LEAVES = Cubecaller.LEAVES;
    private static final int DEPTH = Cubecaller.DEPTH;

    public static void main(String[] args) {
        at();
        atRefuses();
        children();
        leaves();
        depth();
        asNowAlone();
        seenAlone();
        tops();
        topsOfOthers();
        pickKeepsNothing();
        pickRefuses();
        picked();
        cross();
        crossOfSeen();
        crossRefuses();
        Check.end("SetsTest");
    }

    /**
     * The dimension 1: 1 and 2 below 0; 3, 4, 5 below 1; 6 a BRIDGE for 1; 7 below 2; 8 calculated.
     * Time has 1 and 2, the dimension 2 has 1. There are facts of 3, 4, 5 and 7.
     */
    private static void tree(Cubecaller x) {
        x.measure(SUM, 0, 0);
        x.measure(SUM, 0, 0);
        x.member(0, 0, 1);
        x.member(0, 0, 1);
        x.member(2, 0, 1);
        x.member(1, 0, 1);
        x.member(1, 0, 1);
        x.member(1, 1, 1);
        x.member(1, 1, 1);
        x.member(1, 1, 1);
        x.bridge(1, 2);
        x.member(1, 2, 1);
        x.word(Cubecaller.NUMBER, 1000, 0);
        x.calculate(1, 0);
        x.fact(1, 3, 0, 0, 10);
        x.fact(1, 4, 0, 0, 30);
        x.fact(1, 5, 0, 0, 10);
        x.fact(2, 7, 1, 0, -5);
    }

    /** All that was picked last in a dimension, two digits each, 12 for the member 0. */
    private static long row(Cubecaller x, int dimension) {
        long row = 0;
        for (int i = 0; i < 12 && x.picked(dimension, i) != NONE; i++) {
            row = row * 100 + (x.picked(dimension, i) == 0 ? 12 : x.picked(dimension, i));
        }
        return row;
    }

    private static void at() {
        Check.of("Promise 19: at");
        Cubecaller x = new Cubecaller();
        tree(x);
        Check.due("0 at first", x.at(1, 8), 0);
        Check.due("the one before", x.at(1, 3), 8);
        Check.due("each dimension for itself", x.at(0, 2), 0);
        Check.due("and again", x.at(0, 2), 2);
        Check.due("still", x.at(1, 0), 3);
        Check.due("the dimension 2", x.at(2, 1), 0);
        Check.due("the dimension 2 again", x.at(2, 0), 1);
    }

    private static void atRefuses() {
        Check.of("Promise 19: at");
        Check.Act build = x -> {
            tree(x);
            x.at(1, 2);
        };
        Check.refuses("dimension 3", Check.INDEX, build, x -> x.at(3, 0));
        Check.refuses("dimension -1", Check.INDEX, build, x -> x.at(-1, 0));
        Check.refuses("member 9", Check.INDEX, build, x -> x.at(1, 9));
        Check.refuses("member -1", Check.INDEX, build, x -> x.at(1, -1));
    }

    private static void children() {
        Check.of("Promise 20: pick");
        Cubecaller x = new Cubecaller();
        tree(x);
        Check.due("how many", x.pick(1, CHILDREN, 1, 0, 0), 3);
        Check.due("by rising numbers", row(x, 1), 30405);
        Check.due("of the member 0", x.pick(1, CHILDREN, 0, 0, 0), 2);
        Check.due("no BRIDGE, no CALCULATED", row(x, 1), 102);
        Check.due("of one without", x.pick(1, CHILDREN, 3, 0, 0), 0);
        Check.due("none", row(x, 1), 0);
        Check.due("of time", x.pick(0, CHILDREN, 0, -9, 0), 2);
        Check.due("those of time", row(x, 0), 102);
    }

    private static void leaves() {
        Check.of("Promise 20: pick");
        Cubecaller x = new Cubecaller();
        tree(x);
        Check.due("all leaves", x.pick(1, LEAVES, 0, 0, 0), 4);
        Check.due("by rising numbers", row(x, 1), 3040507);
        Check.due("below 2", x.pick(1, LEAVES, 2, 0, 0), 1);
        Check.due("7 alone", row(x, 1), 7);
        Check.due("below itself", x.pick(1, LEAVES, 4, 0, 0), 1);
        Check.due("4 alone", row(x, 1), 4);
        Cubecaller y = new Cubecaller();
        Check.due("the member 0 alone", y.pick(1, LEAVES, 0, 0, 0), 1);
        Check.due("it is 0", y.picked(1, 0), 0);
        y.member(1, 0, 0);
        y.pick(1, LEAVES, 0, 0, 0);
        Check.due("below with the sign 0", row(y, 1), 1);
        y.pick(1, DEPTH, 0, 0, 0);
        Check.due("the member 0 is picked by its depth", row(y, 1), 12);
    }

    private static void depth() {
        Check.of("Promise 20: pick");
        Cubecaller x = new Cubecaller();
        tree(x);
        Check.due("depth 2", x.pick(1, DEPTH, 2, 0, 0), 4);
        Check.due("those", row(x, 1), 3040507);
        Check.due("depth 0", x.pick(1, DEPTH, 0, 0, 0), 1);
        Check.due("the member 0", x.picked(1, 0), 0);
        Check.due("depth 11, a number that no member has", x.pick(1, DEPTH, 11, 0, 0), 0);
        Check.due("depth 1", x.pick(1, DEPTH, 1, 0, 0), 2);
        Check.due("those", row(x, 1), 102);
    }

    private static void asNowAlone() {
        Check.of("Promise 20: pick");
        Cubecaller x = new Cubecaller();
        tree(x);
        x.move(1, 7, 5, 2);
        x.pick(1, CHILDREN, 2, 0, 0);
        Check.due("children as now", row(x, 1), 0);
        x.pick(1, CHILDREN, 5, 0, 0);
        Check.due("of the other one", row(x, 1), 7);
        x.pick(1, LEAVES, 0, 0, 0);
        Check.due("leaves as now", row(x, 1), 2030407);
        x.pick(1, LEAVES, 1, 0, 0);
        Check.due("below 1 as now", row(x, 1), 30407);
        x.pick(1, DEPTH, 3, 0, 0);
        Check.due("depth as now", row(x, 1), 7);
    }

    private static void seenAlone() {
        Check.of("Promise 20: pick");
        Cubecaller x = new Cubecaller();
        tree(x);
        x.hide(1, 4, true);
        x.pick(1, CHILDREN, 1, 0, 0);
        Check.due("children that are seen", row(x, 1), 305);
        x.hide(1, 1, true);
        x.pick(1, LEAVES, 0, 0, 0);
        Check.due("leaves that are seen", row(x, 1), 7);
        x.pick(1, DEPTH, 1, 0, 0);
        Check.due("of a depth that are seen", row(x, 1), 2);
        x.hide(1, 7, true);
        x.pick(1, LEAVES, 0, 0, 0);
        Check.due("2 is a parent still", row(x, 1), 0);
    }

    private static void tops() {
        Check.of("Promise 20: pick");
        Cubecaller x = new Cubecaller();
        tree(x);
        Check.due("top 2 of 3", x.pick(1, CHILDREN, 1, 0, 2), 2);
        Check.due("greater first, lower numbers first", row(x, 1), 403);
        Check.due("top 12", x.pick(1, CHILDREN, 1, 0, 12), 3);
        Check.due("all three", row(x, 1), 40305);
        Check.due("top 1", x.pick(1, LEAVES, 0, 0, 1), 1);
        Check.due("the greatest", row(x, 1), 4);
        Check.due("all leaves", x.pick(1, LEAVES, 0, 0, 4), 4);
        Check.due("one below 0 last", row(x, 1), 4030507);
        x.forget(1, 4, 0, 0);
        Check.due("one is missing", x.pick(1, LEAVES, 0, 0, 4), 3);
        Check.due("it is left out", row(x, 1), 30507);
        Check.due("another measure", x.pick(1, LEAVES, 0, 1, 4), 0);
        Check.due("without a top it does not matter", x.pick(1, LEAVES, 0, 1, 0), 4);
        x.fact(2, 5, 0, 0, 990);
        x.pick(1, CHILDREN, 1, 0, 3);
        Check.due("the greater one moves ahead", row(x, 1), 503);
    }

    private static void topsOfOthers() {
        Check.of("Promise 20: pick");
        Cubecaller x = new Cubecaller();
        tree(x);
        x.at(0, 2);
        x.pick(1, LEAVES, 0, 0, 4);
        Check.due("at a time", row(x, 1), 7);
        x.at(1, 8);
        x.pick(1, LEAVES, 0, 0, 4);
        Check.due("the dimension's own does not matter", row(x, 1), 7);
        x.at(0, 1);
        x.at(2, 1);
        Check.due("at a member of the dimension 2", x.pick(1, LEAVES, 0, 0, 4), 0);
        x.at(2, 0);
        x.at(1, 1);
        x.pick(0, CHILDREN, 0, 0, 9);
        Check.due("members of time", row(x, 0), 1);
        x.hide(1, 1, true);
        Check.due("missing as for who asks", x.pick(0, CHILDREN, 0, 0, 9), 0);
        x.at(1, 0);
        x.pick(0, CHILDREN, 0, 0, 9);
        Check.due("50 and -5", row(x, 0), 102);
        x.totals(true);
        x.pick(0, CHILDREN, 0, 0, 9);
        Check.due("nothing but -5 is left", row(x, 0), 2);
        x.at(1, 8);
        x.pick(0, DEPTH, 1, 0, 9);
        Check.due("with a calculated member", row(x, 0), 102);
        x.pick(2, CHILDREN, 0, 0, 9);
        Check.due("in the dimension 2", row(x, 2), 1);
    }

    private static void pickKeepsNothing() {
        Check.of("Promise 20: pick");
        Cubecaller x = new Cubecaller();
        tree(x);
        x.cell(0, 4, 0, 0);
        x.pick(1, LEAVES, 0, 0, 4);
        x.pick(2, DEPTH, 1, 0, 4);
        x.cross(1, 2, 0);
        Check.due("nothing more is kept", x.kept(), 1);
        Check.due("nothing is a hit", x.hits(), 0);
    }

    private static void pickRefuses() {
        Check.of("Promise 20: pick");
        Check.Act build = x -> {
            tree(x);
            x.pick(1, LEAVES, 0, 0, 0);
        };
        Check.refuses("dimension 3", Check.INDEX, build, x -> x.pick(3, CHILDREN, 0, 0, 0));
        Check.refuses("dimension -1", Check.INDEX, build, x -> x.pick(-1, CHILDREN, 0, 0, 0));
        Check.refuses("dimension 3 for DEPTH", Check.INDEX, build, x -> x.pick(3, DEPTH, 0, 0, 0));
        Check.refuses("member 9", Check.INDEX, build, x -> x.pick(1, CHILDREN, 9, 0, 0));
        Check.refuses("member -1", Check.INDEX, build, x -> x.pick(1, LEAVES, -1, 0, 0));
        Check.refuses("a bad member ahead of a bad kind", Check.INDEX, build, x -> x.pick(1, 3, 9, 0, 0));
        Check.refuses("measure 2", Check.INDEX, build, x -> x.pick(1, CHILDREN, 1, 2, 1));
        Check.refuses("measure -1 for DEPTH", Check.INDEX, build, x -> x.pick(1, DEPTH, 1, -1, 1));
        Check.refuses("a bad measure ahead of a bad top", Check.INDEX, build, x -> x.pick(1, CHILDREN, 1, 2, 13));
        Check.refuses("kind 3", Check.ARGUMENT, build, x -> x.pick(1, 3, 1, 0, 0));
        Check.refuses("kind -1", Check.ARGUMENT, build, x -> x.pick(1, -1, 1, 0, 0));
        Check.refuses("top 13", Check.ARGUMENT, build, x -> x.pick(1, CHILDREN, 1, 0, 13));
        Check.refuses("top -1", Check.ARGUMENT, build, x -> x.pick(1, CHILDREN, 1, 0, -1));
        Check.refuses("depth 12", Check.ARGUMENT, build, x -> x.pick(1, DEPTH, 12, 0, 0));
        Check.refuses("depth -1", Check.ARGUMENT, build, x -> x.pick(1, DEPTH, -1, 0, 0));
        Check.refuses("a bad top ahead of a BRIDGE", Check.ARGUMENT, build, x -> x.pick(1, CHILDREN, 6, 0, 13));
        Check.refuses("of a BRIDGE", Check.STATE, build, x -> x.pick(1, CHILDREN, 6, 0, 0));
        Check.refuses("of a CALCULATED one", Check.STATE, build, x -> x.pick(1, LEAVES, 8, 0, 0));
        Cubecaller x = new Cubecaller();
        tree(x);
        Check.due("a depth is no member", x.pick(1, DEPTH, 6, 0, 0), 0);
    }

    private static void picked() {
        Check.of("Promise 21: picked");
        Cubecaller x = new Cubecaller();
        tree(x);
        Check.due("none at first", x.picked(1, 0), NONE);
        x.pick(1, CHILDREN, 1, 0, 0);
        x.pick(2, CHILDREN, 0, 0, 0);
        Check.due("the first", x.picked(1, 0), 3);
        Check.due("the last", x.picked(1, 2), 5);
        Check.due("behind that", x.picked(1, 3), NONE);
        Check.due("far behind that", x.picked(1, Integer.MAX_VALUE), NONE);
        Check.due("of the dimension 2", x.picked(2, 0), 1);
        Check.due("of time none", x.picked(0, 0), NONE);
        x.hide(1, 3, true);
        x.member(1, 1, 1);
        Check.due("it stays as it was picked", row(x, 1), 30405);
        Check.Act build = c -> {
            tree(c);
            c.pick(1, CHILDREN, 1, 0, 0);
        };
        Check.refuses("dimension 3", Check.INDEX, build, c -> c.picked(3, 0));
        Check.refuses("dimension -1", Check.INDEX, build, c -> c.picked(-1, 0));
        Check.refuses("place -1", Check.INDEX, build, c -> c.picked(1, -1));
    }

    private static void cross() {
        Check.of("Promise 22: cross");
        Cubecaller x = new Cubecaller();
        tree(x);
        Check.due("nothing was picked", x.cross(0, 1, 0), 0);
        x.pick(0, CHILDREN, 0, 0, 0);
        Check.due("in one alone", x.cross(0, 1, 0), 0);
        x.pick(1, LEAVES, 0, 0, 0);
        Check.due("four facts", x.cross(0, 1, 0), 4);
        Check.due("the other way", x.cross(1, 0, 0), 4);
        Check.due("another measure", x.cross(1, 0, 1), 0);
        x.at(2, 1);
        Check.due("at a member of the third", x.cross(0, 1, 0), 1);
        x.at(0, 1);
        x.at(1, 3);
        Check.due("those of the two do not matter", x.cross(0, 1, 0), 1);
        x.pick(2, DEPTH, 0, 0, 0);
        Check.due("one and two, at the time 1", x.cross(1, 2, 0), 3);
        x.at(0, 2);
        Check.due("one and two, at the time 2", x.cross(2, 1, 0), 1);
        x.at(1, 8);
        Check.due("with a calculated member", x.cross(0, 2, 0), 2);
        x.fact(1, 3, 0, 0, 0);
        x.at(1, 3);
        x.at(2, 0);
        Check.due("0 is not missing", x.cross(2, 0, 0), 1);
    }

    private static void crossOfSeen() {
        Check.of("Promise 22: cross");
        Cubecaller x = new Cubecaller();
        tree(x);
        x.pick(0, CHILDREN, 0, 0, 0);
        x.pick(1, LEAVES, 0, 0, 0);
        x.hide(1, 4, true);
        Check.due("one is not seen any more", x.cross(0, 1, 0), 3);
        x.hide(2, 1, true);
        x.at(2, 1);
        Check.due("the third one is not seen", x.cross(0, 1, 0), 0);
    }

    private static void crossRefuses() {
        Check.of("Promise 22: cross");
        Check.Act build = SetsTest::tree;
        Check.refuses("dimension 3", Check.INDEX, build, x -> x.cross(3, 3, 0));
        Check.refuses("dimension -1", Check.INDEX, build, x -> x.cross(-1, 0, 0));
        Check.refuses("other 3", Check.INDEX, build, x -> x.cross(0, 3, 0));
        Check.refuses("other -1", Check.INDEX, build, x -> x.cross(0, -1, 0));
        Check.refuses("measure 2", Check.INDEX, build, x -> x.cross(0, 0, 2));
        Check.refuses("measure -1", Check.INDEX, build, x -> x.cross(0, 1, -1));
        Check.refuses("both the same", Check.ARGUMENT, build, x -> x.cross(1, 1, 0));
    }
}
