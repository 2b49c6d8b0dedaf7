/** Terms, at their end: of several exceptions the one documented first is thrown, and a call that throws changes nothing. */
public final class FirstExceptionTest {
    private static final int SUM = Cubecaller.SUM;
    private static final int RATIO = Cubecaller.RATIO;
    private static final int[] FAR = {Integer.MIN_VALUE, Integer.MAX_VALUE};

    public static void main(String[] args) {
        members();
        moves();
        formulas();
        measures();
        facts();
        sets();
        writing();
        farNumbers();
        farNumbersOfCells();
        Check.end("FirstExceptionTest");
    }

    /**
     * Nothing has room: 12 members in each dimension, 11 a CALCULATED one and 10 a BRIDGE, 4 measures, 10 moves, 50 facts
     * and a draft of ten words; the member 9 of each dimension is hidden; a session is begun; something is picked and set.
     */
    private static void full(Cubecaller x) {
        x.measure(SUM, 0, 0);
        x.measure(Cubecaller.LAST, 0, 0);
        x.measure(RATIO, 0, 1);
        x.measure(SUM, 0, 0);
        for (int d = 0; d < 3; d++) {
            for (int i = 1; i < 10; i++) {
                x.member(d, i / 2, 1);
            }
            x.bridge(d, 2 + 4);
            x.word(Cubecaller.LOOK, 1, 1);
            x.calculate(d, d);
            x.hide(d, 9, true);
        }
        for (int i = 0; i < 10; i++) {
            x.move(1 + i % 2, 5, 1 + i % 4, i / 2);
        }
        x.begin();
        for (int i = 0; i < 50; i++) {
            x.fact(i / 10, i % 10, 0, i % 2, i);
        }
        x.from(3, 1, 2);
        x.totals(true);
        x.asNow(true);
        x.at(1, 2);
        x.pick(1, Cubecaller.LEAVES, 1, 0, 3);
        x.word(Cubecaller.LOOK, 11, 0);
        for (int i = 0; i < 9; i++) {
            x.word(Cubecaller.NUMBER, i, 0);
        }
    }

    private static void index(String what, Check.Act call) {
        Check.refuses(what, Check.INDEX, FirstExceptionTest::full, call);
    }

    private static void argument(String what, Check.Act call) {
        Check.refuses(what, Check.ARGUMENT, FirstExceptionTest::full, call);
    }

    private static void state(String what, Check.Act call) {
        Check.refuses(what, Check.STATE, FirstExceptionTest::full, call);
    }

    private static void members() {
        Check.of("Promise 2: member");
        index("dimension ahead of sign and 12", x -> x.member(3, 0, 2));
        index("parent ahead of sign and 12", x -> x.member(1, 12, 2));
        index("parent ahead of 12", x -> x.member(1, -1, 1));
        argument("sign ahead of BRIDGE and 12", x -> x.member(1, 10, -2));
        argument("sign ahead of 12", x -> x.member(1, 0, 2));
        state("12", x -> x.member(1, 0, 1));
        state("BRIDGE", x -> x.member(1, 10, 1));
        state("CALCULATED", x -> x.member(1, 11, 1));
        Check.of("Promise 3: bridge");
        index("dimension ahead of members", x -> x.bridge(3, 0));
        index("dimension ahead of BRIDGE", x -> x.bridge(-1, 1024));
        argument("members ahead of 12", x -> x.bridge(1, 4096));
        argument("members below 1 ahead of 12", x -> x.bridge(1, 0));
        state("all 12 of them", x -> x.bridge(1, 4095));
        state("12", x -> x.bridge(1, 2));
        Check.refuses("a member ahead of a BRIDGE and six", Check.INDEX, x -> {
            for (int i = 1; i < 7; i++) {
                x.member(2, 0, 1);
            }
            x.bridge(2, 2);
        }, x -> x.bridge(2, 256 + 255));
        Check.of("Promise 6: memberAt");
        index("dimension ahead of what", x -> x.memberAt(3, 0, 5));
        index("member ahead of what", x -> x.memberAt(1, 12, -1));
        argument("what", x -> x.memberAt(1, 11, 5));
        Check.of("Promise 9: hide");
        index("dimension, though BRIDGE", x -> x.hide(3, 10, true));
        index("member", x -> x.hide(1, 12, true));
        index("0", x -> x.hide(1, 0, true));
        state("BRIDGE", x -> x.hide(1, 10, false));
        state("CALCULATED", x -> x.hide(1, 11, true));
    }

    private static void moves() {
        Check.of("Promise 4: move");
        index("dimension 0 ahead of ten moves", x -> x.move(0, 5, 1, 0));
        index("dimension ahead of BRIDGE", x -> x.move(3, 10, 1, 0));
        index("member ahead of a BRIDGE of time", x -> x.move(1, 12, 1, 10));
        index("member 0 ahead of its parent", x -> x.move(1, 0, 1, 0));
        index("parent ahead of BRIDGE", x -> x.move(1, 10, 12, 0));
        index("parent ahead of ten moves", x -> x.move(1, 5, -1, 0));
        index("time ahead of BRIDGE", x -> x.move(1, 10, 1, 12));
        index("time ahead of no lower number", x -> x.move(1, 5, 6, -1));
        state("BRIDGE", x -> x.move(1, 10, 1, 0));
        state("CALCULATED", x -> x.move(2, 11, 1, 0));
        state("ten moves", x -> x.move(1, 5, 4, 0));
        Check.Act room = x -> {
            for (int d = 0; d < 3; d++) {
                x.member(d, 0, 1);
                x.word(Cubecaller.NUMBER, 1, 0);
                x.calculate(d, 0);
                x.member(d, 0, 1);
            }
        };
        Check.refuses("a CALCULATED one", Check.STATE, room, x -> x.move(1, 2, 1, 0));
        Check.refuses("to a CALCULATED one", Check.STATE, room, x -> x.move(2, 3, 2, 0));
        Check.refuses("from a CALCULATED time", Check.STATE, room, x -> x.move(1, 3, 1, 2));
        Check.refuses("1 to itself", Check.STATE, room, x -> x.move(1, 1, 1, 0));
        Check.refuses("1 to 3", Check.STATE, room, x -> x.move(1, 1, 3, 0));
        Check.due("3 to 1", movedTo(room, 3, 1), 1);
        Check.due("1 to 0", movedTo(room, 1, 0), 0);
    }

    private static int movedTo(Check.Act build, int member, int parent) {
        Cubecaller x = new Cubecaller();
        build.on(x);
        x.move(1, member, parent, 0);
        return x.memberAt(1, member, 1);
    }

    private static void formulas() {
        Check.of("Promise 7: word");
        argument("what ahead of ten words", x -> x.word(7, 0, 0));
        argument("NUMBER ahead of ten words", x -> x.word(Cubecaller.NUMBER, -1000001, 0));
        argument("LOOK's member ahead of ten words", x -> x.word(Cubecaller.LOOK, 12, 0));
        argument("LOOK's steps ahead of ten words", x -> x.word(Cubecaller.LOOK, 0, 12));
        argument("DATE's member ahead of ten words", x -> x.word(Cubecaller.DATE, 12, 0));
        state("ten words", x -> x.word(Cubecaller.NUMBER, 0, 0));
        state("ten words, with enough on the pile", x -> x.word(Cubecaller.PLUS, 0, 0));
        Check.of("Promise 8: calculate");
        index("dimension ahead of order", x -> x.calculate(3, 101));
        index("dimension ahead of the draft", x -> x.calculate(-1, 0));
        argument("order ahead of the draft and 12", x -> x.calculate(1, 101));
        argument("order below 0", x -> x.calculate(1, -1));
        state("the draft", x -> x.calculate(1, 0));
    }

    private static void measures() {
        Check.of("Promise 11: measure");
        index("the first of a RATIO ahead of four", x -> x.measure(RATIO, 4, 0));
        index("the second of a RATIO ahead of four", x -> x.measure(RATIO, 0, -1));
        argument("kind ahead of four", x -> x.measure(4, 0, 0));
        argument("kind below 0 ahead of four", x -> x.measure(-1, 9, 9));
        for (int i = SUM; i <= RATIO; i++) {
            int kind = i;
            state("four", x -> x.measure(kind, 0, 1));
        }
        Check.of("Promise 12: from");
        index("measure ahead of depth", x -> x.from(4, 0, 12));
        index("measure below 0 ahead of depth", x -> x.from(-1, 0, -1));
        index("dimension ahead of depth", x -> x.from(0, 3, 12));
        index("dimension below 0 ahead of depth", x -> x.from(0, -1, 12));
        argument("depth", x -> x.from(3, 1, 12));
        argument("depth below 0", x -> x.from(3, 1, -1));
    }

    private static void facts() {
        Check.of("Promise 13: fact");
        int[][] none = {{12, 0, 0, 0}, {-1, 0, 0, 0}, {0, 12, 0, 0}, {0, -1, 0, 0}, {0, 0, 12, 0}, {0, 0, -1, 0},
            {0, 0, 0, 4}, {0, 0, 0, -1}, {10, 12, 0, 2}};
        for (int[] c : none) {
            index("a member or measure ahead of the value", x -> x.fact(c[0], c[1], c[2], c[3], 1000001));
            index("a member or measure ahead of 50", x -> x.fact(c[0], c[1], c[2], c[3], 1));
        }
        argument("value ahead of a BRIDGE", x -> x.fact(10, 0, 0, 0, 1000001));
        argument("value ahead of a CALCULATED one", x -> x.fact(0, 11, 0, 0, -1000001));
        argument("value ahead of a RATIO", x -> x.fact(0, 0, 0, 2, 1000001));
        argument("value ahead of 50", x -> x.fact(5, 1, 1, 0, -1000001));
        state("a BRIDGE of time", x -> x.fact(10, 0, 0, 0, 1));
        state("a BRIDGE of one", x -> x.fact(0, 10, 0, 0, 1));
        state("a BRIDGE of two", x -> x.fact(0, 0, 10, 0, 1));
        state("a CALCULATED one of time", x -> x.fact(11, 0, 0, 0, 1));
        state("a CALCULATED one of one", x -> x.fact(0, 11, 0, 0, 1));
        state("a CALCULATED one of two", x -> x.fact(0, 0, 11, 0, 1));
        state("a RATIO", x -> x.fact(0, 0, 0, 2, 1));
        state("50", x -> x.fact(5, 1, 1, 0, 1));
        state("50, though one of another measure is there", x -> x.fact(0, 0, 0, 1, 1));
        for (int[] c : none) {
            Check.of("Promise 14: forget");
            index("a member or measure", x -> x.forget(c[0], c[1], c[2], c[3]));
            Check.of("Promise 15: cell");
            index("a member or measure", x -> x.cell(c[0], c[1], c[2], c[3]));
            Check.of("Promise 16: cellAnew");
            index("a member or measure", x -> x.cellAnew(c[0], c[1], c[2], c[3]));
        }
        Check.of("Promise 14: forget");
        state("no such fact", x -> x.forget(5, 0, 0, 0));
        state("of another measure", x -> x.forget(0, 0, 0, 1));
        state("of a RATIO", x -> x.forget(0, 0, 0, 2));
        state("of a BRIDGE", x -> x.forget(0, 10, 0, 0));
        state("of a CALCULATED one", x -> x.forget(0, 0, 11, 0));
    }

    private static void sets() {
        Check.of("Promise 19: at");
        index("dimension", x -> x.at(3, 0));
        index("dimension below 0", x -> x.at(-1, 0));
        index("member", x -> x.at(1, 12));
        index("member below 0", x -> x.at(1, -1));
        Check.of("Promise 20: pick");
        index("dimension ahead of kind and top", x -> x.pick(3, 3, 0, 0, 13));
        index("dimension ahead of a depth", x -> x.pick(-1, Cubecaller.DEPTH, 12, 0, 0));
        index("member ahead of top", x -> x.pick(1, Cubecaller.CHILDREN, 12, 0, 13));
        index("member ahead of kind", x -> x.pick(1, -1, 12, 0, 0));
        index("measure ahead of kind", x -> x.pick(1, 3, 0, 4, 1));
        index("measure ahead of top", x -> x.pick(1, Cubecaller.LEAVES, 0, -1, -1));
        index("measure ahead of a depth", x -> x.pick(1, Cubecaller.DEPTH, 12, 4, 1));
        index("measure ahead of BRIDGE", x -> x.pick(1, Cubecaller.CHILDREN, 10, 4, 1));
        argument("kind ahead of BRIDGE", x -> x.pick(1, 3, 10, 0, 0));
        argument("kind below 0 ahead of CALCULATED", x -> x.pick(1, -1, 11, 0, 0));
        argument("top ahead of BRIDGE", x -> x.pick(1, Cubecaller.LEAVES, 10, 0, 13));
        argument("top below 0 ahead of BRIDGE", x -> x.pick(1, Cubecaller.CHILDREN, 10, 0, -1));
        argument("a depth", x -> x.pick(1, Cubecaller.DEPTH, 12, 9, 0));
        argument("a depth below 0", x -> x.pick(1, Cubecaller.DEPTH, -1, 9, 0));
        state("BRIDGE", x -> x.pick(1, Cubecaller.CHILDREN, 10, 0, 12));
        state("CALCULATED", x -> x.pick(1, Cubecaller.LEAVES, 11, 9, 0));
        Check.of("Promise 21: picked");
        index("dimension", x -> x.picked(3, 0));
        index("dimension below 0", x -> x.picked(-1, 0));
        index("place", x -> x.picked(1, -1));
        Check.of("Promise 22: cross");
        index("dimension ahead of both the same", x -> x.cross(3, 3, 0));
        index("other ahead of all", x -> x.cross(0, -1, 0));
        index("measure ahead of both the same", x -> x.cross(1, 1, 4));
        index("measure below 0 ahead of both the same", x -> x.cross(1, 1, -1));
        for (int d = 0; d < 3; d++) {
            int dimension = d;
            argument("both the same", x -> x.cross(dimension, dimension, 0));
        }
    }

    private static void writing() {
        Check.of("Promise 23: write");
        int[][] none = {{12, 0, 0, 0}, {-1, 0, 0, 0}, {0, 12, 0, 0}, {0, -1, 0, 0}, {0, 0, 12, 0}, {0, 0, -1, 0},
            {0, 0, 0, 4}, {0, 0, 0, -1}};
        for (int[] c : none) {
            index("a member or measure ahead of value", x -> x.write(c[0], c[1], c[2], c[3], -1, 0));
            index("a member or measure ahead of how", x -> x.write(c[0], c[1], c[2], c[3], 1, 3));
        }
        index("a member ahead of no SUM", x -> x.write(0, 12, 0, 2, 1, 0));
        index("a measure ahead of CALCULATED", x -> x.write(0, 11, 0, 4, 1, 0));
        argument("value ahead of no SUM", x -> x.write(0, 0, 0, 2, -1, 0));
        argument("how ahead of no SUM", x -> x.write(0, 0, 0, 1, 1, 3));
        argument("value ahead of not seen", x -> x.write(0, 9, 0, 0, 1000001, 0));
        argument("how ahead of CALCULATED", x -> x.write(0, 11, 0, 0, 1, -1));
        argument("value ahead of 50", x -> x.write(5, 1, 1, 0, 1000001, 0));
        state("LAST", x -> x.write(0, 0, 0, 1, 1, 0));
        state("RATIO", x -> x.write(0, 0, 0, 2, 1, 0));
        for (int d = 0; d < 3; d++) {
            int time = d == 0 ? 1 : 0;
            int one = d == 1 ? 1 : 0;
            int two = d == 2 ? 1 : 0;
            state("not seen", x -> x.write(time * 9, one * 9, two * 9, 0, 1, 0));
            state("CALCULATED", x -> x.write(time * 11, one * 11, two * 11, 0, 1, 0));
        }
        state("50", x -> x.write(5, 1, 1, 0, 1, 0));
        state("none of another SUM, and 50", x -> x.write(0, 2, 0, 3, 1, 0));
        Check.of("Promise 24: begin");
        state("there is one", Cubecaller::begin);
        Check.of("Promise 25: end");
        Check.Act ended = x -> {
            full(x);
            x.end(true);
        };
        Check.refuses("there is none", Check.STATE, ended, x -> x.end(false));
        Check.refuses("there is none to keep", Check.STATE, ended, x -> x.end(true));
    }

    private static void farNumbers() {
        for (int far : FAR) {
            Check.of("Promise 2: member");
            index("dimension " + far, x -> x.member(far, 0, 1));
            index("parent " + far, x -> x.member(1, far, 1));
            argument("sign " + far, x -> x.member(1, 0, far));
            Check.of("Promise 3: bridge");
            index("dimension " + far, x -> x.bridge(far, 1));
            argument("members " + far, x -> x.bridge(1, far));
            Check.of("Promise 4: move");
            index("dimension " + far, x -> x.move(far, 5, 1, 0));
            index("member " + far, x -> x.move(1, far, 1, 0));
            index("parent " + far, x -> x.move(1, 5, far, 0));
            index("time " + far, x -> x.move(1, 5, 1, far));
            Check.of("Promise 6: memberAt");
            index("dimension " + far, x -> x.memberAt(far, 0, 0));
            index("member " + far, x -> x.memberAt(1, far, 0));
            argument("what " + far, x -> x.memberAt(1, 1, far));
            Check.of("Promise 7: word");
            argument("what " + far, x -> x.word(far, 0, 0));
            argument("number " + far, x -> x.word(Cubecaller.NUMBER, far, 0));
            argument("member " + far, x -> x.word(Cubecaller.LOOK, far, 0));
            argument("steps " + far, x -> x.word(Cubecaller.LOOK, 0, far));
            argument("member to date " + far, x -> x.word(Cubecaller.DATE, far, 0));
            Check.of("Promise 8: calculate");
            index("dimension " + far, x -> x.calculate(far, 0));
            argument("order " + far, x -> x.calculate(1, far));
            Check.of("Promise 9: hide");
            index("dimension " + far, x -> x.hide(far, 1, true));
            index("member " + far, x -> x.hide(1, far, true));
            Check.of("Promise 11: measure");
            argument("kind " + far, x -> x.measure(far, 0, 0));
            index("first " + far, x -> x.measure(RATIO, far, 0));
            index("second " + far, x -> x.measure(RATIO, 0, far));
            Check.of("Promise 12: from");
            index("measure " + far, x -> x.from(far, 0, 0));
            index("dimension " + far, x -> x.from(0, far, 0));
            argument("depth " + far, x -> x.from(0, 0, far));
        }
    }

    private static void farNumbersOfCells() {
        for (int far : FAR) {
            int[][] none = {{far, 0, 0, 0}, {0, far, 0, 0}, {0, 0, far, 0}, {0, 0, 0, far}, {far, far, far, far}};
            for (int[] c : none) {
                Check.of("Promise 13: fact");
                index("none", x -> x.fact(c[0], c[1], c[2], c[3], 1));
                Check.of("Promise 14: forget");
                index("none", x -> x.forget(c[0], c[1], c[2], c[3]));
                Check.of("Promise 15: cell");
                index("none", x -> x.cell(c[0], c[1], c[2], c[3]));
                Check.of("Promise 16: cellAnew");
                index("none", x -> x.cellAnew(c[0], c[1], c[2], c[3]));
                Check.of("Promise 23: write");
                index("none", x -> x.write(c[0], c[1], c[2], c[3], 1, 0));
            }
            Check.of("Promise 13: fact");
            argument("value " + far, x -> x.fact(0, 0, 0, 0, far));
            Check.of("Promise 23: write");
            argument("value " + far, x -> x.write(0, 0, 0, 0, far, 0));
            argument("how " + far, x -> x.write(0, 0, 0, 0, 1, far));
            Check.of("Promise 19: at");
            index("dimension " + far, x -> x.at(far, 0));
            index("member " + far, x -> x.at(1, far));
            Check.of("Promise 20: pick");
            index("dimension " + far, x -> x.pick(far, Cubecaller.DEPTH, 0, 0, 0));
            index("member " + far, x -> x.pick(1, Cubecaller.LEAVES, far, 0, 0));
            index("measure " + far, x -> x.pick(1, Cubecaller.LEAVES, 0, far, 1));
            argument("kind " + far, x -> x.pick(1, far, 0, 0, 0));
            argument("depth " + far, x -> x.pick(1, Cubecaller.DEPTH, far, 0, 0));
            argument("top " + far, x -> x.pick(1, Cubecaller.LEAVES, 0, 0, far));
            Check.of("Promise 21: picked");
            index("dimension " + far, x -> x.picked(far, 0));
            Check.of("Promise 22: cross");
            index("dimension " + far, x -> x.cross(far, 0, 0));
            index("other " + far, x -> x.cross(0, far, 0));
            index("measure " + far, x -> x.cross(0, 1, far));
        }
        Check.of("Promise 21: picked");
        index("place " + FAR[0], x -> x.picked(1, FAR[0]));
        Cubecaller x = new Cubecaller();
        full(x);
        Check.due("place " + FAR[1], x.picked(1, FAR[1]), Cubecaller.NONE);
    }
}
