/** The edges of the promises 19 to 22. */
public final class SetsEdgesTest {
    private static final int NONE = Cubecaller.NONE;
    private static final int SUM = Cubecaller.SUM;
    private static final int CHILDREN = Cubecaller.CHILDREN;
    private static final int LEAVES = Cubecaller.LEAVES;
    private static final int DEPTH = Cubecaller.DEPTH;

    public static void main(String[] args) {
        at();
        childrenOfEach();
        leavesOfEach();
        depthsOfEach();
        kindsOfMembers();
        whenMoved();
        whenHidden();
        tops();
        sameOnes();
        missingOnes();
        valuesByAt();
        valuesOfMeasures();
        measureDoesNotMatter();
        pickedLast();
        places();
        crossed();
        crossedByAt();
        crossedAsForWhoAsks();
        Check.end("SetsEdgesTest");
    }

    private static long row(Cubecaller x, int dimension) {
        long row = 0;
        for (int i = 0; i < 12 && x.picked(dimension, i) != NONE; i++) {
            row = row * 100 + (x.picked(dimension, i) == 0 ? 12 : x.picked(dimension, i));
        }
        return row;
    }

    /** 1 and 2 below 0; 3 and 4 below 1; 5 below 4; 6 a BRIDGE for 1; 7 calculated; 8 below 2 with the sign 0. */
    private static Cubecaller tree(int d) {
        Cubecaller x = new Cubecaller();
        x.measure(SUM, 0, 0);
        x.member(d, 0, 1);
        x.member(d, 0, 1);
        x.member(d, 1, 1);
        x.member(d, 1, 1);
        x.member(d, 4, 1);
        x.bridge(d, 2);
        x.word(Cubecaller.NUMBER, 1, 0);
        x.calculate(d, 0);
        x.member(d, 2, 0);
        return x;
    }

    private static void at() {
        Check.of("Promise 19: at");
        for (int d = 0; d < 3; d++) {
            Cubecaller x = tree(d);
            int before = 0;
            for (int member = 8; member >= 0; member--) {
                Check.due("the one before", x.at(d, member), before);
                Check.due("the same again", x.at(d, member), member);
                before = member;
            }
            for (int other = 0; other < 3; other++) {
                Check.due("in the others 0", x.at(other, 0), 0);
            }
        }
        Cubecaller x = tree(1);
        x.hide(1, 3, true);
        Check.due("one that is not seen", x.at(1, 3), 0);
        Check.due("was set", x.at(1, 0), 3);
    }

    private static void childrenOfEach() {
        Check.of("Promise 20: pick");
        long[] children = {102, 304, 8, 0, 5, 0, 0, 0, 0};
        for (int d = 0; d < 3; d++) {
            Cubecaller x = tree(d);
            for (int member : new int[] {0, 1, 2, 3, 4, 5, 8}) {
                int count = x.pick(d, CHILDREN, member, 9, 0);
                Check.due("children of " + member, row(x, d), children[member]);
                Check.due("how many", count, children[member] == 0 ? 0 : children[member] < 100 ? 1 : 2);
            }
        }
    }

    private static void leavesOfEach() {
        Check.of("Promise 20: pick");
        long[] leaves = {30508, 305, 8, 3, 5, 5, 0, 0, 8};
        for (int d = 0; d < 3; d++) {
            Cubecaller x = tree(d);
            for (int member : new int[] {0, 1, 2, 3, 4, 5, 8}) {
                x.pick(d, LEAVES, member, 9, 0);
                Check.due("leaves below " + member, row(x, d), leaves[member]);
            }
        }
    }

    private static void depthsOfEach() {
        Check.of("Promise 20: pick");
        long[] depths = {12, 102, 30408, 5, 0, 0, 0, 0, 0, 0, 0, 0};
        for (int d = 0; d < 3; d++) {
            Cubecaller x = tree(d);
            for (int depth = 0; depth < 12; depth++) {
                x.pick(d, DEPTH, depth, 9, 0);
                Check.due("of the depth " + depth, row(x, d), depths[depth]);
            }
            Cubecaller y = new Cubecaller();
            for (int i = 1; i < 12; i++) {
                y.member(d, i - 1, 1);
            }
            Check.due("of the depth 11", y.pick(d, DEPTH, 11, 0, 0), 1);
            Check.due("it is 11", y.picked(d, 0), 11);
        }
    }

    private static void kindsOfMembers() {
        Check.of("Promise 20: pick");
        for (int d = 0; d < 3; d++) {
            int dimension = d;
            Cubecaller x = tree(d);
            Check.due("children of a BRIDGE", x, y -> y.pick(dimension, CHILDREN, 6, 0, 0), Check.STATE);
            Check.due("leaves of a BRIDGE", x, y -> y.pick(dimension, LEAVES, 6, 0, 0), Check.STATE);
            Check.due("children of a CALCULATED one", x, y -> y.pick(dimension, CHILDREN, 7, 0, 0), Check.STATE);
            Check.due("leaves of a CALCULATED one", x, y -> y.pick(dimension, LEAVES, 7, 0, 0), Check.STATE);
            Check.due("the depth 6 is none", x.pick(d, DEPTH, 6, 0, 0), 0);
            Check.due("the depth 7 neither", x.pick(d, DEPTH, 7, 0, 0), 0);
            Check.due("the depth 11, though there is no member 11", x.pick(d, DEPTH, 11, 0, 0), 0);
        }
    }

    private static void whenMoved() {
        Check.of("Promise 20: pick");
        for (int now = 0; now < 2; now++) {
            Cubecaller x = tree(2);
            x.member(0, 0, 1);
            x.asNow(now == 1);
            x.move(2, 5, 2, 1);
            x.pick(2, CHILDREN, 2, 0, 0);
            Check.due("children as now", row(x, 2), 508);
            x.pick(2, CHILDREN, 4, 0, 0);
            Check.due("4 has none", row(x, 2), 0);
            x.pick(2, LEAVES, 1, 0, 0);
            Check.due("4 is a leaf", row(x, 2), 304);
            x.pick(2, LEAVES, 2, 0, 0);
            Check.due("leaves as now", row(x, 2), 508);
            x.pick(2, DEPTH, 2, 0, 0);
            Check.due("depth as now", row(x, 2), 3040508);
            x.pick(2, DEPTH, 3, 0, 0);
            Check.due("nobody is as deep any more", row(x, 2), 0);
            x.move(2, 5, 3, 0);
            x.pick(2, CHILDREN, 2, 0, 0);
            Check.due("a move from an earlier time changes nothing as now", row(x, 2), 508);
        }
    }

    private static void whenHidden() {
        Check.of("Promise 20: pick");
        for (int d = 0; d < 3; d++) {
            Cubecaller x = tree(d);
            x.hide(d, 4, true);
            x.pick(d, CHILDREN, 1, 0, 0);
            Check.due("children that are seen", row(x, d), 3);
            x.pick(d, LEAVES, 0, 0, 0);
            Check.due("leaves that are seen", row(x, d), 308);
            x.pick(d, LEAVES, 4, 0, 0);
            Check.due("below a hidden one none is seen", row(x, d), 0);
            x.pick(d, CHILDREN, 4, 0, 0);
            Check.due("nor a child of it", row(x, d), 0);
            x.pick(d, DEPTH, 2, 0, 0);
            Check.due("of a depth those that are seen", row(x, d), 308);
            x.hide(d, 3, true);
            x.pick(d, LEAVES, 1, 0, 0);
            Check.due("1 is no leaf, though its children are hidden", row(x, d), 0);
            x.pick(d, DEPTH, 0, 0, 0);
            Check.due("0 is seen always", row(x, d), 12);
        }
    }

    private static int[] cell(int d, int member) {
        int[] cell = {0, 0, 0};
        cell[d] = member;
        return cell;
    }

    private static void fact(Cubecaller x, int d, int member, int value) {
        int[] c = cell(d, member);
        x.fact(c[0], c[1], c[2], 0, value);
    }

    private static void tops() {
        Check.of("Promise 20: pick");
        for (int d = 0; d < 3; d++) {
            Cubecaller x = new Cubecaller();
            x.measure(SUM, 0, 0);
            int[] values = {7, -1000000, 0, 1000000, -3};
            for (int i = 1; i < 6; i++) {
                x.member(d, 0, 1);
                fact(x, d, i, values[i - 1]);
            }
            long[] rows = {102030405, 4, 401, 40103, 4010305, 401030502L, 401030502L, 401030502L};
            for (int top = 0; top < 8; top++) {
                Check.due("how many of top " + top, x.pick(d, CHILDREN, 0, 0, top), top == 0 ? 5 : Math.min(top, 5));
                Check.due("top " + top, row(x, d), rows[top]);
            }
            Check.due("top 12", x.pick(d, LEAVES, 0, 0, 12), 5);
            Check.due("all of them", row(x, d), 401030502L);
            Check.due("top 1 of one", x.pick(d, DEPTH, 0, 0, 1), 1);
            Check.due("it is 0", row(x, d), 12);
        }
    }

    private static void sameOnes() {
        Check.of("Promise 20: pick");
        Cubecaller x = new Cubecaller();
        x.measure(SUM, 0, 0);
        int[] values = {5, 8, 5, 8, 5, 8, 0};
        for (int i = 1; i < 8; i++) {
            x.member(1, 0, 1);
            x.fact(0, i, 0, 0, values[i - 1]);
        }
        long[] rows = {0, 2, 204, 20406, 2040601, 204060103L, 20406010305L, 2040601030507L};
        for (int top = 1; top < 8; top++) {
            x.pick(1, CHILDREN, 0, 0, top);
            Check.due("lower numbers first, top " + top, row(x, 1), rows[top]);
        }
    }

    private static void missingOnes() {
        Check.of("Promise 20: pick");
        Cubecaller x = new Cubecaller();
        x.measure(SUM, 0, 0);
        for (int i = 1; i < 6; i++) {
            x.member(1, 0, i == 4 ? 0 : 1);
        }
        x.fact(0, 2, 0, 0, 0);
        x.fact(0, 4, 0, 0, -5);
        Check.due("two are not missing", x.pick(1, CHILDREN, 0, 0, 3), 2);
        Check.due("0, then one below 0", row(x, 1), 204);
        Check.due("all without a top", x.pick(1, CHILDREN, 0, 0, 0), 5);
        x.from(0, 1, 2);
        Check.due("it means nothing there", x.pick(1, CHILDREN, 0, 0, 5), 0);
        Check.due("none is picked then", x.picked(1, 0), NONE);
        x.from(0, 1, 1);
        Check.due("it means something there", x.pick(1, CHILDREN, 0, 0, 1), 1);
        Check.due("the greater one", x.picked(1, 0), 2);
    }

    private static void valuesByAt() {
        Check.of("Promise 20: pick");
        Cubecaller x = new Cubecaller();
        x.measure(SUM, 0, 0);
        for (int d = 0; d < 3; d++) {
            x.member(d, 0, 1);
            x.member(d, 0, 1);
        }
        x.fact(1, 1, 1, 0, 10);
        x.fact(1, 2, 1, 0, 20);
        x.fact(2, 1, 1, 0, 30);
        x.fact(1, 1, 2, 0, 40);
        for (int d = 0; d < 3; d++) {
            x.pick(d, CHILDREN, 0, 0, 2);
        }
        Check.due("time: 70 and 30", row(x, 0), 102);
        Check.due("one: 80 and 20", row(x, 1), 102);
        Check.due("two: 60 and 40", row(x, 2), 102);
        x.at(0, 1);
        x.at(1, 1);
        x.at(2, 1);
        for (int d = 0; d < 3; d++) {
            x.pick(d, CHILDREN, 0, 0, 2);
        }
        Check.due("time: 10 and 30", row(x, 0), 201);
        Check.due("one: 10 and 20", row(x, 1), 201);
        Check.due("two: 10 and 40", row(x, 2), 201);
        x.at(1, 2);
        for (int d = 0; d < 3; d += 2) {
            x.pick(d, CHILDREN, 0, 0, 2);
        }
        Check.due("time with 2: 20 alone", row(x, 0), 1);
        Check.due("two with 2: 20 alone", row(x, 2), 1);
        x.hide(1, 2, true);
        Check.due("what is set is not seen", x.pick(0, CHILDREN, 0, 0, 2), 0);
        Check.due("in its own dimension that does not matter", x.pick(1, CHILDREN, 0, 0, 2), 1);
        x.at(1, x.bridge(1, 2));
        Check.due("a BRIDGE is set", x.pick(0, CHILDREN, 0, 0, 2), 2);
        Check.due("10 and 30", row(x, 0), 201);
        x.word(Cubecaller.LOOK, 2, 0);
        x.word(Cubecaller.NUMBER, -1, 0);
        x.word(Cubecaller.TIMES, 0, 0);
        x.at(1, x.calculate(1, 0));
        Check.due("a formula of one that is not seen is set", x.pick(0, CHILDREN, 0, 0, 2), 1);
        Check.due("-20", row(x, 0), 1);
    }

    private static void valuesOfMeasures() {
        Check.of("Promise 20: pick");
        Cubecaller x = new Cubecaller();
        x.measure(SUM, 0, 0);
        x.measure(Cubecaller.LAST, 0, 0);
        x.measure(Cubecaller.DIFFERENT, 0, 0);
        x.measure(Cubecaller.RATIO, 0, 1);
        x.member(0, 0, 1);
        x.member(1, 0, 1);
        x.member(1, 0, 1);
        x.fact(0, 1, 0, 0, 6);
        x.fact(0, 2, 0, 0, 7);
        x.fact(0, 1, 0, 1, 2);
        x.fact(0, 2, 0, 1, 1);
        x.fact(1, 2, 0, 1, 5);
        x.fact(0, 1, 0, 2, 6);
        x.fact(1, 1, 0, 2, 7);
        x.fact(0, 2, 0, 2, 9);
        long[] rows = {201, 201, 102, 102};
        for (int m = 0; m < 4; m++) {
            Check.due("both", x.pick(1, CHILDREN, 0, m, 2), 2);
            Check.due("by the measure " + m, row(x, 1), rows[m]);
        }
    }

    private static void measureDoesNotMatter() {
        Check.of("Promise 20: pick");
        for (int measure : new int[] {Integer.MIN_VALUE, -1, 1, 4, Integer.MAX_VALUE}) {
            Cubecaller x = tree(1);
            Check.due("without a top", x.pick(1, LEAVES, 0, measure, 0), 3);
            Check.due("with one it does", x, y -> y.pick(1, LEAVES, 0, measure, 1), Check.INDEX);
            Check.due("ahead of a top out of range too", x, y -> y.pick(1, LEAVES, 0, measure, 13), Check.INDEX);
            Check.due("what was picked stays", row(x, 1), 30508);
        }
    }

    private static void pickedLast() {
        Check.of("Promise 21: picked");
        Cubecaller x = tree(1);
        x.pick(1, LEAVES, 0, 0, 0);
        x.pick(2, DEPTH, 0, 0, 0);
        Check.due("of one", row(x, 1), 30508);
        Check.due("of two", row(x, 2), 12);
        Check.due("of time none", row(x, 0), 0);
        x.pick(1, CHILDREN, 0, 0, 0);
        Check.due("fewer, the last ones", row(x, 1), 102);
        Check.due("two as it was", row(x, 2), 12);
        x.pick(1, CHILDREN, 3, 0, 0);
        Check.due("none", row(x, 1), 0);
        Check.due("nobody at the first place", x.picked(1, 0), NONE);
    }

    private static void places() {
        Check.of("Promise 21: picked");
        Cubecaller x = tree(1);
        x.pick(1, LEAVES, 0, 0, 0);
        int[] want = {3, 5, 8, NONE, NONE};
        for (int place = 0; place < want.length; place++) {
            Check.due("place " + place, x.picked(1, place), want[place]);
        }
        for (int place : new int[] {11, 12, 13, 100, Integer.MAX_VALUE}) {
            Check.due("place " + place, x.picked(1, place), NONE);
        }
        for (int place : new int[] {-1, -2, Integer.MIN_VALUE}) {
            Check.due("below 0", x, y -> y.picked(1, place), Check.INDEX);
        }
    }

    private static void crossed() {
        Check.of("Promise 22: cross");
        for (int a = 0; a < 3; a++) {
            for (int b = 0; b < 3; b++) {
                if (a == b) {
                    continue;
                }
                Cubecaller x = new Cubecaller();
                x.measure(SUM, 0, 0);
                for (int i = 1; i < 4; i++) {
                    x.member(a, 0, 1);
                    x.member(b, 0, 1);
                }
                int due = 0;
                for (int i = 1; i < 4; i++) {
                    x.pick(a, CHILDREN, 0, 0, 0);
                    x.pick(b, CHILDREN, 0, 0, 0);
                    Check.due("so many pairs", x.cross(a, b, 0), due);
                    Check.due("the other way round", x.cross(b, a, 0), due);
                    int[] c = {0, 0, 0};
                    c[a] = i;
                    c[b] = 4 - i;
                    x.fact(c[0], c[1], c[2], 0, 0);
                    due++;
                }
                Check.due("three of nine", x.cross(a, b, 0), 3);
                x.pick(a, DEPTH, 0, 0, 0);
                Check.due("0 with each", x.cross(a, b, 0), 3);
                x.pick(b, DEPTH, 0, 0, 0);
                Check.due("0 with 0", x.cross(a, b, 0), 1);
                x.pick(b, DEPTH, 5, 0, 0);
                Check.due("with nobody", x.cross(a, b, 0), 0);
            }
        }
    }

    private static void crossedByAt() {
        Check.of("Promise 22: cross");
        for (int third = 0; third < 3; third++) {
            int a = (third + 1) % 3;
            int b = (third + 2) % 3;
            Cubecaller x = new Cubecaller();
            x.measure(SUM, 0, 0);
            x.measure(SUM, 0, 0);
            for (int d = 0; d < 3; d++) {
                x.member(d, 0, 1);
                x.member(d, 0, 1);
            }
            x.fact(1, 1, 1, 0, 5);
            x.fact(2, 2, 2, 0, 5);
            x.fact(1, 1, 1, 1, 5);
            x.pick(a, CHILDREN, 0, 0, 0);
            x.pick(b, CHILDREN, 0, 0, 0);
            Check.due("at 0", x.cross(a, b, 0), 2);
            x.at(third, 1);
            Check.due("at 1", x.cross(a, b, 0), 1);
            x.at(a, 2);
            x.at(b, 2);
            Check.due("what is set in the two does not matter", x.cross(a, b, 0), 1);
            x.at(third, 2);
            Check.due("at 2", x.cross(b, a, 0), 1);
            Check.due("of the other measure", x.cross(b, a, 1), 0);
            x.word(Cubecaller.NUMBER, 1, 0);
            x.at(third, x.calculate(third, 0));
            Check.due("at a number", x.cross(a, b, 1), 4);
            Check.due("nothing is kept", x.kept(), 0);
        }
    }

    private static void crossedAsForWhoAsks() {
        Check.of("Promise 22: cross");
        Cubecaller x = new Cubecaller();
        x.measure(SUM, 0, 0);
        for (int d = 0; d < 3; d++) {
            x.member(d, 0, 1);
            x.member(d, 0, 1);
        }
        x.fact(1, 1, 1, 0, 5);
        x.fact(2, 2, 1, 0, 5);
        x.pick(0, CHILDREN, 0, 0, 0);
        x.pick(1, CHILDREN, 0, 0, 0);
        x.hide(0, 1, true);
        Check.due("one of time is not seen any more", x.cross(0, 1, 0), 1);
        x.hide(1, 2, true);
        Check.due("one of one is not either", x.cross(0, 1, 0), 0);
        x.hide(0, 1, false);
        x.at(2, 1);
        Check.due("the pair of the others", x.cross(0, 1, 0), 1);
        x.hide(2, 1, true);
        Check.due("the third member is not seen", x.cross(0, 1, 0), 0);
        x.hide(2, 1, false);
        x.from(0, 0, 2);
        Check.due("it means nothing there", x.cross(0, 1, 0), 0);
    }
}
