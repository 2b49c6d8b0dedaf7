/** Promises 1 to 10: members. */
public final class MembersTest {
    private static final long MISSING = Cubecaller.MISSING;
    private static final int NONE = Cubecaller.NONE;
    private static final int SUM = Cubecaller.SUM;

    public static void main(String[] args) {
        constants();
        newObject();
        member();
        memberRefuses();
        orderOfTime();
        signs();
        bridge();
        bridgeRefuses();
        move();
        movesOfATime();
        moveRefuses();
        asNow();
        memberAt();
        word();
        wordRefuses();
        calculate();
        calculateRefuses();
        hide();
        totals();
        Check.end("MembersTest");
    }

    private static void constants() {
        Check.of("Terms: the constants");
        int[] got = {Cubecaller.NONE, Cubecaller.PLAIN, Cubecaller.BRIDGE, Cubecaller.CALCULATED, Cubecaller.SUM,
            Cubecaller.LAST, Cubecaller.DIFFERENT, Cubecaller.RATIO, Cubecaller.NUMBER, Cubecaller.LOOK,
            Cubecaller.DATE, Cubecaller.PLUS, Cubecaller.MINUS, Cubecaller.TIMES, Cubecaller.PER, Cubecaller.EQUAL,
            Cubecaller.WEIGHTS, Cubecaller.REST, Cubecaller.CHILDREN, Cubecaller.LEAVES, Cubecaller.DEPTH};
        int[] want = {-1, 0, 1, 2, 0, 1, 2, 3, 0, 1, 2, 3, 4, 5, 6, 0, 1, 2, 0, 1, 2};
        for (int i = 0; i < want.length; i++) {
            Check.due("constant " + i, got[i], want[i]);
        }
        Check.due("MISSING", MISSING, Long.MIN_VALUE);
    }

    private static void newObject() {
        Check.of("Promise 1: A new object");
        Cubecaller x = new Cubecaller();
        for (int d = 0; d < 3; d++) {
            Check.due("kind of the member 0", x.memberAt(d, 0, 0), Cubecaller.PLAIN);
            Check.due("its parent", x.memberAt(d, 0, 1), NONE);
            Check.due("its depth", x.memberAt(d, 0, 2), 0);
            Check.due("its place", x.memberAt(d, 0, 3), d == 0 ? 0 : NONE);
            Check.due("it is seen", x.memberAt(d, 0, 4), 1);
            Check.due("at first", x.at(d, 0), 0);
            Check.due("picked at first", x.picked(d, 0), NONE);
        }
        Check.due("facts", x.facts(), 0);
        Check.due("kept", x.kept(), 0);
        Check.due("hits", x.hits(), 0);
        Check.due("asNow", x.asNow(false), false);
        Check.due("totals", x.totals(false), false);
        Check.refuses("no measure at first", Check.INDEX, c -> { }, c -> c.cell(0, 0, 0, 0));
        Check.refuses("one member at first", Check.INDEX, c -> { }, c -> c.memberAt(1, 1, 0));
        Check.refuses("an empty draft at first", Check.STATE, c -> { }, c -> c.calculate(0, 0));
        Check.refuses("no session at first", Check.STATE, c -> { }, c -> c.end(true));
    }

    private static void member() {
        Check.of("Promise 2: member");
        Cubecaller x = new Cubecaller();
        for (int d = 0; d < 3; d++) {
            for (int i = 1; i < 12; i++) {
                Check.due("number of a member", x.member(d, i - 1, 1), i);
            }
            Check.due("depth of the last", x.memberAt(d, 11, 2), 11);
            Check.due("parent of the last", x.memberAt(d, 11, 1), 10);
        }
    }

    private static void memberRefuses() {
        Check.of("Promise 2: member");
        Check.Act one = x -> {
            x.member(1, 0, 1);
            x.bridge(1, 2);
        };
        Check.Act full = x -> {
            for (int i = 1; i < 12; i++) {
                x.member(1, 0, 1);
            }
        };
        Check.refuses("member of the dimension 3", Check.INDEX, one, x -> x.member(3, 0, 1));
        Check.refuses("member of the dimension -1", Check.INDEX, one, x -> x.member(-1, 0, 1));
        Check.refuses("parent 3 of 3", Check.INDEX, one, x -> x.member(1, 3, 1));
        Check.refuses("parent -1", Check.INDEX, one, x -> x.member(1, -1, 1));
        Check.refuses("a bad parent ahead of a bad sign", Check.INDEX, one, x -> x.member(1, 3, 2));
        Check.refuses("sign 2", Check.ARGUMENT, one, x -> x.member(1, 0, 2));
        Check.refuses("sign -2", Check.ARGUMENT, one, x -> x.member(1, 0, -2));
        Check.refuses("a bad sign ahead of a BRIDGE", Check.ARGUMENT, one, x -> x.member(1, 2, 2));
        Check.refuses("parent BRIDGE", Check.STATE, one, x -> x.member(1, 2, 1));
        Check.refuses("a 13th member", Check.STATE, full, x -> x.member(1, 0, 1));
        Check.refuses("a bad sign ahead of a 13th member", Check.ARGUMENT, full, x -> x.member(1, 0, 2));
    }

    private static void orderOfTime() {
        Check.of("Terms: MEMBERS");
        Cubecaller x = new Cubecaller();
        x.member(0, 0, 1);
        x.member(0, 0, 1);
        x.member(0, 1, 1);
        x.member(0, 3, 1);
        x.member(0, 2, 1);
        x.member(0, 1, 1);
        x.bridge(0, 2);
        x.member(0, 0, 1);
        int[] places = {0, 1, 5, 2, 3, 6, 4, NONE, 7};
        for (int i = 0; i < places.length; i++) {
            Check.due("place of " + i, x.memberAt(0, i, 3), places[i]);
        }
        x.member(1, 0, 1);
        Check.due("place in the dimension 1", x.memberAt(1, 1, 3), NONE);
    }

    private static void signs() {
        Check.of("Terms: MEMBERS");
        Cubecaller x = new Cubecaller();
        x.measure(SUM, 0, 0);
        x.member(1, 0, -1);
        x.member(1, 1, -1);
        x.member(1, 2, 1);
        x.member(1, 0, 0);
        x.member(1, 4, 1);
        x.fact(0, 3, 0, 0, 5);
        x.fact(0, 5, 0, 0, 7);
        Check.due("of this itself no sign", x.cell(0, 3, 0, 0), 5);
        Check.due("sign 1", x.cell(0, 2, 0, 0), 5);
        Check.due("sign -1", x.cell(0, 1, 0, 0), -5);
        Check.due("two signs -1, and a sign 0", x.cell(0, 0, 0, 0), 5);
        Check.due("below the sign 0", x.cell(0, 4, 0, 0), 7);
        x.forget(0, 3, 0, 0);
        Check.due("weight 0 does not count", x.cell(0, 0, 0, 0), MISSING);
        x.member(0, 0, -1);
        x.member(2, 0, -1);
        x.fact(1, 2, 1, 0, 9);
        Check.due("the product of three", x.cell(0, 1, 0, 0), -9);
        Check.due("the product of two", x.cell(0, 1, 1, 0), 9);
    }

    private static void bridge() {
        Check.of("Promise 3: bridge");
        Cubecaller x = new Cubecaller();
        x.measure(SUM, 0, 0);
        x.measure(Cubecaller.DIFFERENT, 0, 0);
        x.member(1, 0, 1);
        x.member(1, 1, -1);
        x.member(1, 0, 1);
        x.member(1, 0, 0);
        x.member(1, 4, 1);
        x.fact(0, 2, 0, 0, 5);
        x.fact(0, 3, 0, 0, 70);
        x.fact(0, 5, 0, 0, 100);
        x.fact(0, 2, 0, 1, 5);
        Check.due("number of a bridge", x.bridge(1, 4 + 8), 6);
        Check.due("kind of a bridge", x.memberAt(1, 6, 0), Cubecaller.BRIDGE);
        Check.due("two apart", x.cell(0, 6, 0, 0), 75);
        Check.due("one within the other", x.bridge(1, 2 + 4), 7);
        Check.due("the first one tells the weight, once", x.cell(0, 7, 0, 0), -5);
        Check.due("with the member 0 first", x.bridge(1, 1 + 32), 8);
        Check.due("a weight of 0 by the first one", x.cell(0, 8, 0, 0), -5 + 70);
        Check.due("five members", x.bridge(1, 2 + 4 + 8 + 16 + 32), 9);
        Check.due("a fact counts once", x.cell(0, 9, 0, 0), -5 + 70 + 100);
        Check.due("DIFFERENT over a bridge", x.cell(0, 9, 0, 1), 1);
        x.fact(0, 0, 0, 0, 20000);
        Check.due("the member 0 is below one that stands for it", x.cell(0, 8, 0, 0), 20000 - 5 + 70);
        Check.due("and not below others", x.cell(0, 9, 0, 0), -5 + 70 + 100);
        x.forget(0, 0, 0, 0);
        x.member(0, 0, 1);
        x.fact(1, 3, 0, 0, 1000);
        Check.due("a bridge of time", x.bridge(0, 2), 2);
        Check.due("its cell", x.cell(2, 0, 0, 0), 1000);
        Cubecaller y = new Cubecaller();
        for (int i = 1; i < 11; i++) {
            y.member(2, 0, 1);
        }
        y.measure(SUM, 0, 0);
        y.fact(0, 0, 10, 0, 3);
        Check.due("a bridge of the member 10", y.bridge(2, 1024), 11);
        Check.due("its cell", y.cell(0, 0, 11, 0), 3);
    }

    private static void bridgeRefuses() {
        Check.of("Promise 3: bridge");
        Check.Act build = x -> {
            for (int i = 1; i < 7; i++) {
                x.member(1, 0, 1);
            }
            x.bridge(1, 2);
        };
        Check.Act full = x -> {
            for (int i = 1; i < 12; i++) {
                x.member(1, 0, 1);
            }
        };
        Check.refuses("bridge in the dimension 3", Check.INDEX, build, x -> x.bridge(3, 0));
        Check.refuses("bridge in the dimension -1", Check.INDEX, build, x -> x.bridge(-1, 1));
        Check.refuses("one that there is not", Check.INDEX, build, x -> x.bridge(1, 256));
        Check.refuses("all that there can be", Check.INDEX, build, x -> x.bridge(1, 4095));
        Check.refuses("that ahead of too many", Check.INDEX, build, x -> x.bridge(1, 2048 + 63));
        Check.refuses("for nobody", Check.ARGUMENT, build, x -> x.bridge(1, 0));
        Check.refuses("4096", Check.ARGUMENT, build, x -> x.bridge(1, 4096));
        Check.refuses("below 0", Check.ARGUMENT, build, x -> x.bridge(1, -1));
        Check.refuses("of a bridge", Check.STATE, build, x -> x.bridge(1, 128 + 1));
        Check.refuses("six members", Check.STATE, build, x -> x.bridge(1, 63));
        Check.refuses("a 13th member", Check.STATE, full, x -> x.bridge(1, 2));
        Check.refuses("a bad sum ahead of a 13th member", Check.ARGUMENT, full, x -> x.bridge(1, 0));
    }

    /** Time 1 to 3 below 0; the member 3 of the dimension 1 below 1, with facts of 1, 10, 100 and 1000. */
    private static void moving(Cubecaller x) {
        x.measure(SUM, 0, 0);
        for (int i = 1; i < 4; i++) {
            x.member(0, 0, 1);
        }
        x.member(1, 0, 1);
        x.member(1, 0, -1);
        x.member(1, 1, 1);
        x.fact(0, 3, 0, 0, 1);
        x.fact(1, 3, 0, 0, 10);
        x.fact(2, 3, 0, 0, 100);
        x.fact(3, 3, 0, 0, 1000);
    }

    private static void move() {
        Check.of("Promise 4: move");
        Cubecaller x = new Cubecaller();
        moving(x);
        Check.due("parent as now before", x.move(1, 3, 2, 2), 1);
        Check.due("as then with 1", x.cell(0, 1, 0, 0), 11);
        Check.due("as then with 2", x.cell(0, 2, 0, 0), 1100);
        Check.due("its parent's sign in the total", x.cell(0, 0, 0, 0), 11 - 1100);
        Check.due("parent as now", x.memberAt(1, 3, 1), 2);
        Check.due("a move from an earlier time", x.move(1, 3, 0, 1), 2);
        Check.due("parent as now by the latest time", x.memberAt(1, 3, 1), 2);
        Check.due("1 then", x.cell(0, 1, 0, 0), 1);
        Check.due("2 then", x.cell(0, 2, 0, 0), 1100);
        Check.due("all then", x.cell(0, 0, 0, 0), 1 + 10 - 1100);
        Check.due("a move from the member 0 of time", x.move(1, 3, 2, 0), 2);
        Check.due("1 has none", x.cell(0, 1, 0, 0), MISSING);
        Check.due("2 has the ends", x.cell(0, 2, 0, 0), 1 + 1100);
        Cubecaller y = new Cubecaller();
        moving(y);
        y.member(2, 0, 1);
        y.member(2, 1, 1);
        y.fact(3, 0, 2, 0, 7);
        Check.due("in the dimension 2", y.move(2, 2, 0, 3), 1);
        Check.due("nothing left", y.cell(0, 0, 1, 0), MISSING);
        Check.due("the member 3 of the dimension 1 is where it was", y.cell(0, 1, 0, 0), 1111);
    }

    private static void movesOfATime() {
        Check.of("Terms: MEMBERS");
        Cubecaller x = new Cubecaller();
        moving(x);
        x.move(1, 3, 2, 2);
        Check.due("before the second move from one time", x.move(1, 3, 1, 2), 2);
        Check.due("the one told last", x.memberAt(1, 3, 1), 1);
        Check.due("as then too", x.cell(0, 1, 0, 0), 1111);
        Cubecaller y = new Cubecaller();
        y.measure(SUM, 0, 0);
        y.member(0, 0, 1);
        y.member(0, 0, 1);
        y.member(0, 1, 1);
        y.member(1, 0, 1);
        y.member(1, 0, 1);
        y.fact(1, 2, 0, 0, 1);
        y.fact(2, 2, 0, 0, 10);
        y.fact(3, 2, 0, 0, 100);
        y.move(1, 2, 1, 3);
        Check.due("by order in time, not by number", y.cell(0, 1, 0, 0), 110);
        y.move(1, 2, 0, 2);
        Check.due("2 stands behind 3", y.cell(0, 1, 0, 0), 100);
        Check.due("as now that of 2", y.memberAt(1, 2, 1), 0);
        y.member(0, 3, 1);
        y.fact(4, 2, 0, 0, 1000);
        Check.due("a time made later, between them", y.cell(0, 1, 0, 0), 1100);
    }

    private static void moveRefuses() {
        Check.of("Promise 4: move");
        Check.Act build = x -> {
            moving(x);
            x.bridge(0, 1);
            x.bridge(1, 2);
            x.member(1, 0, 1);
        };
        Check.Act ten = x -> {
            moving(x);
            x.member(2, 0, 1);
            for (int i = 0; i < 5; i++) {
                x.move(1, 3, 2 - i % 2, i % 3);
                x.move(2, 1, 0, i % 3);
            }
        };
        Check.refuses("dimension 0", Check.INDEX, build, x -> x.move(0, 1, 0, 0));
        Check.refuses("dimension 3", Check.INDEX, build, x -> x.move(3, 1, 0, 0));
        Check.refuses("member 0", Check.INDEX, build, x -> x.move(1, 0, 0, 0));
        Check.refuses("member 6", Check.INDEX, build, x -> x.move(1, 6, 0, 0));
        Check.refuses("member -1", Check.INDEX, build, x -> x.move(1, -1, 0, 0));
        Check.refuses("parent 6", Check.INDEX, build, x -> x.move(1, 3, 6, 0));
        Check.refuses("parent -1", Check.INDEX, build, x -> x.move(1, 3, -1, 0));
        Check.refuses("time 5", Check.INDEX, build, x -> x.move(1, 3, 0, 5));
        Check.refuses("time -1", Check.INDEX, build, x -> x.move(1, 3, 0, -1));
        Check.refuses("a bad time ahead of a bad parent", Check.INDEX, build, x -> x.move(1, 3, 3, 5));
        Check.refuses("a BRIDGE", Check.STATE, build, x -> x.move(1, 4, 0, 0));
        Check.refuses("to a BRIDGE", Check.STATE, build, x -> x.move(1, 5, 4, 0));
        Check.refuses("from a BRIDGE of time", Check.STATE, build, x -> x.move(1, 3, 0, 4));
        Check.refuses("to itself", Check.STATE, build, x -> x.move(1, 3, 3, 0));
        Check.refuses("to a greater number", Check.STATE, build, x -> x.move(1, 2, 3, 0));
        Check.refuses("an 11th move", Check.STATE, ten, x -> x.move(1, 3, 0, 3));
        Check.refuses("an 11th move, of the other dimension", Check.STATE, ten, x -> x.move(2, 1, 0, 3));
        Cubecaller tenth = new Cubecaller();
        moving(tenth);
        for (int i = 0; i < 9; i++) {
            tenth.move(1, 3, 2, 1);
        }
        Check.due("a tenth move", tenth.move(1, 3, 1, 1), 2);
        Check.due("it holds", tenth.memberAt(1, 3, 1), 1);
    }

    private static void asNow() {
        Check.of("Promise 5: asNow");
        Cubecaller x = new Cubecaller();
        moving(x);
        x.move(1, 3, 2, 2);
        Check.due("then", x.cell(0, 1, 0, 0), 11);
        Check.due("it was as then", x.asNow(true), false);
        Check.due("1 as now", x.cell(0, 1, 0, 0), MISSING);
        Check.due("2 as now", x.cell(0, 2, 0, 0), 1111);
        Check.due("it was as now", x.asNow(true), true);
        Check.due("it was as now still", x.asNow(false), true);
        Cubecaller z = new Cubecaller();
        z.measure(SUM, 0, 0);
        z.fact(0, 0, 0, 0, 4);
        z.asNow(true);
        Check.due("as now, before anything was made", z.cell(0, 0, 0, 0), 4);
        Check.due("then again", x.cell(0, 2, 0, 0), 1100);
        Cubecaller y = new Cubecaller();
        moving(y);
        y.member(1, 1, 1);
        y.move(1, 4, 3, 2);
        y.fact(1, 4, 0, 0, 50000);
        Check.due("a depth goes by as now", y.memberAt(1, 4, 2), 3);
        y.from(0, 1, 3);
        Check.due("deep enough by that, though as then it is not", y.cell(0, 4, 0, 0), 50000);
        Check.due("not deep enough", y.cell(0, 3, 0, 0), MISSING);
    }

    private static void memberAt() {
        Check.of("Promise 6: memberAt");
        Cubecaller x = new Cubecaller();
        moving(x);
        x.bridge(1, 2 + 8);
        x.word(Cubecaller.NUMBER, 1, 0);
        x.calculate(1, 0);
        Check.due("kind PLAIN", x.memberAt(1, 3, 0), Cubecaller.PLAIN);
        Check.due("kind BRIDGE", x.memberAt(1, 4, 0), Cubecaller.BRIDGE);
        Check.due("kind CALCULATED", x.memberAt(1, 5, 0), Cubecaller.CALCULATED);
        Check.due("parent", x.memberAt(1, 3, 1), 1);
        Check.due("parent of a BRIDGE", x.memberAt(1, 4, 1), NONE);
        Check.due("parent of a CALCULATED", x.memberAt(1, 5, 1), NONE);
        Check.due("depth", x.memberAt(1, 3, 2), 2);
        Check.due("depth of a BRIDGE", x.memberAt(1, 4, 2), NONE);
        Check.due("depth of a CALCULATED", x.memberAt(1, 5, 2), NONE);
        Check.due("seen BRIDGE", x.memberAt(1, 4, 4), 1);
        Check.due("seen CALCULATED", x.memberAt(1, 5, 4), 1);
        x.hide(1, 1, true);
        Check.due("hidden", x.memberAt(1, 1, 4), 0);
        Check.due("below the hidden one", x.memberAt(1, 3, 4), 0);
        Check.due("BRIDGE for the hidden one", x.memberAt(1, 4, 4), 0);
        Check.due("beside it", x.memberAt(1, 2, 4), 1);
        x.move(1, 3, 2, 3);
        Check.due("moved away, as now", x.memberAt(1, 3, 4), 1);
        x.hide(1, 1, false);
        Check.due("BRIDGE again", x.memberAt(1, 4, 4), 1);
        Check.Act build = MembersTest::moving;
        Check.refuses("dimension 3", Check.INDEX, build, c -> c.memberAt(3, 0, 0));
        Check.refuses("dimension -1", Check.INDEX, build, c -> c.memberAt(-1, 0, 0));
        Check.refuses("member 4", Check.INDEX, build, c -> c.memberAt(1, 4, 0));
        Check.refuses("member -1", Check.INDEX, build, c -> c.memberAt(1, -1, 5));
        Check.refuses("what 5", Check.ARGUMENT, build, c -> c.memberAt(1, 3, 5));
        Check.refuses("what -1", Check.ARGUMENT, build, c -> c.memberAt(1, 3, -1));
    }

    private static void word() {
        Check.of("Promise 7: word");
        Cubecaller x = new Cubecaller();
        Check.due("NUMBER", x.word(Cubecaller.NUMBER, 1000000, 99), 1);
        Check.due("LOOK", x.word(Cubecaller.LOOK, 11, 11), 2);
        Check.due("PLUS", x.word(Cubecaller.PLUS, 99, -99), 3);
        Check.due("DATE", x.word(Cubecaller.DATE, 11, 99), 4);
        Check.due("MINUS", x.word(Cubecaller.MINUS, -1, -1), 5);
        Check.due("NUMBER", x.word(Cubecaller.NUMBER, -1000000, -1), 6);
        Check.due("TIMES", x.word(Cubecaller.TIMES, 0, 0), 7);
        Check.due("LOOK", x.word(Cubecaller.LOOK, 0, 0), 8);
        Check.due("PER", x.word(Cubecaller.PER, 0, 0), 9);
        Check.due("the tenth word", x.word(Cubecaller.NUMBER, 0, 0), 10);
    }

    private static void wordRefuses() {
        Check.of("Promise 7: word");
        Check.Act empty = x -> { };
        Check.Act one = x -> x.word(Cubecaller.NUMBER, 1, 0);
        Check.Act ten = x -> {
            for (int i = 0; i < 10; i++) {
                x.word(Cubecaller.NUMBER, 1, 0);
            }
        };
        Check.refuses("word 7", Check.ARGUMENT, empty, x -> x.word(7, 0, 0));
        Check.refuses("word -1", Check.ARGUMENT, empty, x -> x.word(-1, 0, 0));
        Check.refuses("NUMBER 1000001", Check.ARGUMENT, empty, x -> x.word(0, 1000001, 0));
        Check.refuses("NUMBER -1000001", Check.ARGUMENT, empty, x -> x.word(0, -1000001, 0));
        Check.refuses("LOOK 12", Check.ARGUMENT, empty, x -> x.word(1, 12, 0));
        Check.refuses("LOOK -1", Check.ARGUMENT, empty, x -> x.word(1, -1, 0));
        Check.refuses("12 steps", Check.ARGUMENT, empty, x -> x.word(1, 0, 12));
        Check.refuses("-1 steps", Check.ARGUMENT, empty, x -> x.word(1, 0, -1));
        Check.refuses("DATE 12", Check.ARGUMENT, empty, x -> x.word(2, 12, 0));
        Check.refuses("DATE -1", Check.ARGUMENT, empty, x -> x.word(2, -1, 0));
        for (int i = Cubecaller.PLUS; i <= Cubecaller.PER; i++) {
            int what = i;
            Check.refuses("two of none", Check.STATE, empty, x -> x.word(what, 0, 0));
            Check.refuses("two of one", Check.STATE, one, x -> x.word(what, 0, 0));
            Check.refuses("an 11th word", Check.STATE, ten, x -> x.word(what, 0, 0));
        }
        Check.refuses("an 11th word", Check.STATE, ten, x -> x.word(0, 0, 0));
        Check.refuses("a bad word ahead of an 11th", Check.ARGUMENT, ten, x -> x.word(0, 1000001, 0));
    }

    private static void calculate() {
        Check.of("Promise 8: calculate");
        Cubecaller x = new Cubecaller();
        x.measure(SUM, 0, 0);
        x.member(1, 0, 1);
        x.fact(0, 1, 0, 0, 8);
        x.word(Cubecaller.NUMBER, 5, 0);
        Check.due("number of a calculated member", x.calculate(1, 100), 2);
        Check.due("its kind", x.memberAt(1, 2, 0), Cubecaller.CALCULATED);
        Check.due("the draft is empty then", x.word(Cubecaller.LOOK, 2, 0), 1);
        x.word(Cubecaller.LOOK, 1, 0);
        x.word(Cubecaller.TIMES, 0, 0);
        Check.due("a look at a calculated one", x.calculate(1, 0), 3);
        Check.due("the first one", x.cell(0, 2, 0, 0), 5);
        Check.due("the second one", x.cell(0, 3, 0, 0), 40);
        x.member(1, 0, 1);
        Check.due("a member after those", x.memberAt(1, 4, 2), 1);
        Cubecaller y = new Cubecaller();
        for (int i = 1; i < 12; i++) {
            y.word(Cubecaller.NUMBER, i, 0);
            Check.due("up to 12", y.calculate(0, 0), i);
        }
        y.measure(SUM, 0, 0);
        Check.due("the 12th", y.cell(11, 0, 0, 0), 11);
    }

    private static void calculateRefuses() {
        Check.of("Promise 8: calculate");
        Check.Act one = x -> {
            x.member(1, 0, 1);
            x.word(Cubecaller.NUMBER, 1, 0);
        };
        Check.Act two = x -> {
            x.word(Cubecaller.NUMBER, 1, 0);
            x.word(Cubecaller.NUMBER, 1, 0);
        };
        Check.Act look = x -> {
            x.member(1, 0, 1);
            x.word(Cubecaller.LOOK, 1, 0);
        };
        Check.Act date = x -> {
            x.member(1, 0, 1);
            x.word(Cubecaller.DATE, 1, 0);
        };
        Check.Act full = x -> {
            for (int i = 1; i < 12; i++) {
                x.member(1, 0, 1);
            }
            x.word(Cubecaller.NUMBER, 1, 0);
        };
        Check.refuses("dimension 3", Check.INDEX, one, x -> x.calculate(3, 101));
        Check.refuses("dimension -1", Check.INDEX, one, x -> x.calculate(-1, 0));
        Check.refuses("order 101", Check.ARGUMENT, one, x -> x.calculate(1, 101));
        Check.refuses("order -1", Check.ARGUMENT, one, x -> x.calculate(1, -1));
        Check.refuses("a bad order ahead of a bad draft", Check.ARGUMENT, two, x -> x.calculate(1, 101));
        Check.refuses("an empty draft", Check.STATE, x -> { }, x -> x.calculate(1, 0));
        Check.refuses("two on the pile", Check.STATE, two, x -> x.calculate(1, 0));
        Check.refuses("a look at none", Check.STATE, look, x -> x.calculate(2, 0));
        Check.refuses("to date of none", Check.STATE, date, x -> x.calculate(2, 0));
        Check.refuses("a 13th member", Check.STATE, full, x -> x.calculate(1, 0));
        Cubecaller x = new Cubecaller();
        look.on(x);
        Check.due("there is one in that dimension", x.calculate(1, 0), 2);
        Cubecaller y = new Cubecaller();
        full.on(y);
        Check.due("there is room in the other one", y.calculate(2, 0), 1);
    }

    private static void hide() {
        Check.of("Promise 9: hide");
        Cubecaller x = new Cubecaller();
        moving(x);
        Check.due("it was not", x.hide(1, 1, true), false);
        Check.due("it was", x.hide(1, 1, true), true);
        Check.due("missing for who asks", x.cell(0, 1, 0, 0), MISSING);
        Check.due("below it too", x.cell(0, 3, 0, 0), MISSING);
        Check.due("anew too", x.cellAnew(0, 3, 0, 0), MISSING);
        Check.due("not kept", x.kept(), 0);
        Check.due("in totals still", x.cell(0, 0, 0, 0), 1111);
        Check.due("no more", x.hide(1, 1, false), true);
        Check.due("not any more", x.hide(1, 1, false), false);
        Check.due("there again", x.cell(0, 3, 0, 0), 1111);
        x.hide(0, 2, true);
        Check.due("in time", x.cell(2, 0, 0, 0), MISSING);
        x.member(2, 0, 1);
        x.hide(2, 1, true);
        Check.due("in the dimension 2", x.cell(0, 0, 1, 0), MISSING);
        x.word(Cubecaller.LOOK, 2, 0);
        x.calculate(0, 0);
        Check.due("for formulas it is there", x.cell(4, 0, 0, 0), 100);
        Check.Act build = c -> {
            moving(c);
            c.bridge(1, 2);
        };
        Check.refuses("dimension 3", Check.INDEX, build, c -> c.hide(3, 1, true));
        Check.refuses("dimension -1", Check.INDEX, build, c -> c.hide(-1, 1, true));
        Check.refuses("member 5", Check.INDEX, build, c -> c.hide(1, 5, true));
        Check.refuses("member -1", Check.INDEX, build, c -> c.hide(1, -1, true));
        Check.refuses("member 0", Check.INDEX, build, c -> c.hide(1, 0, true));
        Check.refuses("a BRIDGE", Check.STATE, build, c -> c.hide(1, 4, true));
    }

    private static void totals() {
        Check.of("Promise 10: totals");
        Cubecaller x = new Cubecaller();
        moving(x);
        x.fact(1, 2, 0, 0, 5);
        x.hide(1, 1, true);
        Check.due("with all", x.cell(0, 0, 0, 0), 1111 - 5);
        Check.due("they did not", x.totals(true), false);
        Check.due("without those not seen", x.cell(0, 0, 0, 0), -5);
        Check.due("they did", x.totals(true), true);
        x.hide(0, 1, true);
        Check.due("nothing seen is left", x.cell(0, 0, 0, 0), MISSING);
        x.hide(1, 1, false);
        Check.due("all but the time 1", x.cell(0, 0, 0, 0), 1101);
        x.word(Cubecaller.LOOK, 1, 0);
        x.calculate(0, 0);
        Check.due("for formulas likewise", x.cell(4, 0, 0, 0), MISSING);
        Check.due("they did still", x.totals(false), true);
        Check.due("for formulas it is there again", x.cell(4, 0, 0, 0), 10 - 5);
    }
}
