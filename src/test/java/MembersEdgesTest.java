/** The edges of the 'Terms' MEMBERS and SEEING, and of the promises 2 to 6, 9 and 10. */
public final class MembersEdgesTest {
    private static final long MISSING = Cubecaller.MISSING;
    private static final int NONE = Cubecaller.NONE;
    private static final int SUM = Cubecaller.SUM;

    public static void main(String[] args) {
        depths();
        chainOfSigns();
        aSignOfNothing();
        signsOfThree();
        ownSignAlone();
        timeOrder();
        movedFromEachTime();
        movedFromOneTimeTwice();
        movesInAnyOrder();
        signsWhenMoved();
        depthWhenMoved();
        asNowAndThen();
        bridgesOfEachSize();
        firstOfBridge();
        bridgeOfMoved();
        memberAtEach();
        hiddenChain();
        hiddenTwice();
        hiddenAsNow();
        hiddenBridges();
        hiddenForWhoAsks();
        totalsOfEach();
        totalsOfMeasures();
        Check.end("MembersEdgesTest");
    }

    /** The members 1 to 11 of a dimension, each below the one ahead of it. */
    private static void chain(Cubecaller x, int dimension, int sign) {
        for (int i = 1; i < 12; i++) {
            x.member(dimension, i - 1, sign);
        }
    }

    private static int[] at(int dimension, int member) {
        int[] cell = {0, 0, 0};
        cell[dimension] = member;
        return cell;
    }

    private static void fact(Cubecaller x, int[] cell, int measure, int value) {
        x.fact(cell[0], cell[1], cell[2], measure, value);
    }

    private static long cell(Cubecaller x, int[] cell, int measure) {
        return x.cell(cell[0], cell[1], cell[2], measure);
    }

    private static void depths() {
        Check.of("Terms: MEMBERS");
        for (int d = 0; d < 3; d++) {
            Cubecaller x = new Cubecaller();
            chain(x, d, 1);
            for (int i = 0; i < 12; i++) {
                Check.due("depth, 1 more than that of its parent", x.memberAt(d, i, 2), i);
                Check.due("parent", x.memberAt(d, i, 1), i == 0 ? NONE : i - 1);
                Check.due("place", x.memberAt(d, i, 3), d == 0 ? i : NONE);
            }
        }
    }

    private static void chainOfSigns() {
        Check.of("Terms: MEMBERS");
        for (int d = 0; d < 3; d++) {
            Cubecaller x = new Cubecaller();
            x.measure(SUM, 0, 0);
            chain(x, d, -1);
            fact(x, at(d, 11), 0, 5);
            for (int i = 0; i < 12; i++) {
                Check.due("eleven signs less " + i, cell(x, at(d, i), 0), (11 - i) % 2 == 0 ? 5 : -5);
            }
            fact(x, at(d, 4), 0, 70);
            Check.due("a fact in between", cell(x, at(d, 0), 0), -5 + 70);
            Check.due("of itself", cell(x, at(d, 4), 0), -5 + 70);
            Check.due("below it", cell(x, at(d, 5), 0), 5);
        }
    }

    private static void aSignOfNothing() {
        Check.of("Terms: MEMBERS");
        for (int d = 0; d < 3; d++) {
            Cubecaller x = new Cubecaller();
            x.measure(SUM, 0, 0);
            for (int i = 1; i < 8; i++) {
                x.member(d, i - 1, i == 5 ? 0 : 1);
            }
            fact(x, at(d, 7), 0, 5);
            for (int i = 0; i < 8; i++) {
                Check.due("above the sign 0 of 5", cell(x, at(d, i), 0), i < 5 ? MISSING : 5);
            }
            fact(x, at(d, 3), 0, 0);
            Check.due("a fact of 0 counts", cell(x, at(d, 0), 0), 0);
        }
    }

    private static void signsOfThree() {
        Check.of("Terms: FACTS, MEASURES");
        for (int i = 0; i < 27; i++) {
            int time = i % 3 - 1;
            int one = i / 3 % 3 - 1;
            int two = i / 9 - 1;
            Cubecaller x = new Cubecaller();
            x.measure(SUM, 0, 0);
            x.member(0, 0, time);
            x.member(1, 0, one);
            x.member(2, 0, two);
            x.member(2, 0, 1);
            x.fact(1, 1, 1, 0, 7);
            for (int j = 0; j < 8; j++) {
                int weight = ((j & 1) == 0 ? time : 1) * ((j & 2) == 0 ? one : 1) * ((j & 4) == 0 ? two : 1);
                Check.due("the product of " + time + ", " + one + " and " + two, x.cell(j & 1, j >> 1 & 1, j >> 2, 0),
                        weight == 0 ? MISSING : weight * 7);
                Check.due("beside it", x.cell(j & 1, j >> 1 & 1, 2, 0), MISSING);
            }
        }
    }

    private static void ownSignAlone() {
        Check.of("Terms: MEMBERS");
        for (int sign = -1; sign <= 1; sign++) {
            Cubecaller x = new Cubecaller();
            x.measure(SUM, 0, 0);
            x.member(1, 0, sign);
            x.bridge(1, 2);
            x.fact(0, 1, 0, 0, 7);
            Check.due("of this itself no sign", x.cell(0, 1, 0, 0), 7);
            Check.due("nor by a BRIDGE", x.cell(0, 2, 0, 0), 7);
        }
    }

    private static void timeOrder() {
        Check.of("Terms: MEMBERS");
        Cubecaller x = new Cubecaller();
        int[] parents = {0, 0, 2, 1, 3, 4, 1};
        for (int parent : parents) {
            x.member(0, parent, 1);
        }
        int[] places = {0, 1, 5, 6, 2, 7, 3, 4};
        for (int i = 0; i < places.length; i++) {
            Check.due("place of " + i, x.memberAt(0, i, 3), places[i]);
        }
        x.word(Cubecaller.NUMBER, 1, 0);
        Check.due("a CALCULATED one", x.memberAt(0, x.calculate(0, 0), 3), NONE);
        Check.due("a BRIDGE", x.memberAt(0, x.bridge(0, 16), 3), NONE);
        x.member(0, 6, 1);
        Check.due("behind its parent", x.memberAt(0, 10, 3), 4);
        Check.due("ahead of 7", x.memberAt(0, 7, 3), 5);
        Check.due("5 is the last", x.memberAt(0, 5, 3), 8);
    }

    /** Times 1 to 3 below 0, 4 below 2: the order 0 1 2 4 3; the member 3 of a dimension below 1, with a fact of each time. */
    private static void moving(Cubecaller x, int dimension) {
        x.measure(SUM, 0, 0);
        x.member(0, 0, 1);
        x.member(0, 0, 1);
        x.member(0, 0, 1);
        x.member(0, 2, 1);
        x.member(dimension, 0, 1);
        x.member(dimension, 0, 1);
        x.member(dimension, 1, 1);
        int[] values = {1, 10, 100, 1000, 10000};
        for (int t = 0; t < 5; t++) {
            int[] cell = at(dimension, 3);
            cell[0] = t;
            fact(x, cell, 0, values[t]);
        }
    }

    private static void movedFromEachTime() {
        Check.of("Terms: MEMBERS");
        int[] moved = {11111, 11110, 11100, 1000, 11000};
        for (int d = 1; d < 3; d++) {
            for (int t = 0; t < 5; t++) {
                Cubecaller x = new Cubecaller();
                moving(x, d);
                Check.due("its parent before", x.move(d, 3, 2, t), 1);
                Check.due("from " + t + " on", cell(x, at(d, 2), 0), moved[t]);
                Check.due("till then", cell(x, at(d, 1), 0), moved[t] == 11111 ? MISSING : 11111 - moved[t]);
                Check.due("in all", cell(x, at(d, 0), 0), 11111);
                Check.due("as now", x.memberAt(d, 3, 1), 2);
                Check.due("the other dimension is as it was", x.memberAt(3 - d, 0, 1), NONE);
            }
        }
    }

    private static void movedFromOneTimeTwice() {
        Check.of("Terms: MEMBERS");
        for (int d = 1; d < 3; d++) {
            Cubecaller x = new Cubecaller();
            moving(x, d);
            x.move(d, 3, 2, 4);
            x.move(d, 3, 0, 4);
            Check.due("the one told last, as then", cell(x, at(d, 2), 0), MISSING);
            Check.due("till then", cell(x, at(d, 1), 0), 111);
            Check.due("the one told last, as now", x.memberAt(d, 3, 1), 0);
            x.move(d, 3, 1, 2);
            x.move(d, 3, 2, 2);
            Check.due("from 2 up to 4", cell(x, at(d, 2), 0), 100);
            Check.due("as now by 4 still", x.memberAt(d, 3, 1), 0);
            x.move(d, 3, 1, 4);
            Check.due("back from 4 on", cell(x, at(d, 1), 0), 11 + 11000);
            Check.due("back as now", x.memberAt(d, 3, 1), 1);
        }
    }

    private static void movesInAnyOrder() {
        Check.of("Terms: MEMBERS");
        int[][] orders = {{1, 4, 3}, {3, 4, 1}, {4, 1, 3}, {3, 1, 4}, {1, 3, 4}, {4, 3, 1}};
        for (int[] order : orders) {
            Cubecaller x = new Cubecaller();
            moving(x, 1);
            for (int time : order) {
                x.move(1, 3, time == 1 ? 2 : time == 4 ? 0 : 1, time);
            }
            Check.due("made with 1, from 3 on 1", x.cell(0, 1, 0, 0), 1 + 1000);
            Check.due("from 1 on 2", x.cell(0, 2, 0, 0), 110);
            Check.due("in all, from 4 on 0", x.cell(0, 0, 0, 0), 11111);
            Check.due("as now from 3 on", x.memberAt(1, 3, 1), 1);
            x.asNow(true);
            Check.due("all as now", x.cell(0, 1, 0, 0), 11111);
            Check.due("of 2 nothing", x.cell(0, 2, 0, 0), MISSING);
        }
    }

    private static void signsWhenMoved() {
        Check.of("Terms: MEMBERS");
        Cubecaller x = new Cubecaller();
        x.measure(SUM, 0, 0);
        x.member(0, 0, 1);
        x.member(1, 0, 1);
        x.member(1, 0, 0);
        x.member(1, 0, -1);
        x.member(1, 1, -1);
        x.fact(0, 4, 0, 0, 7);
        x.fact(1, 4, 0, 0, 50);
        Check.due("by 1", x.cell(0, 0, 0, 0), -57);
        x.move(1, 4, 3, 1);
        Check.due("by 3 from 1 on, its own sign with it", x.cell(0, 0, 0, 0), -7 + 50);
        Check.due("below 3", x.cell(0, 3, 0, 0), -50);
        x.move(1, 4, 2, 1);
        Check.due("by the sign 0 from 1 on", x.cell(0, 0, 0, 0), -7);
        Check.due("below that", x.cell(0, 2, 0, 0), -50);
        x.asNow(true);
        Check.due("as now by the sign 0", x.cell(0, 0, 0, 0), MISSING);
        Check.due("below that as now", x.cell(0, 2, 0, 0), -57);
    }

    private static void depthWhenMoved() {
        Check.of("Terms: MEMBERS");
        for (int now = 0; now < 2; now++) {
            Cubecaller x = new Cubecaller();
            moving(x, 1);
            x.member(1, 3, 1);
            x.asNow(now == 1);
            x.move(1, 3, 0, 3);
            Check.due("depth by as now", x.memberAt(1, 3, 2), 1);
            Check.due("of its child too", x.memberAt(1, 4, 2), 2);
            x.move(1, 2, 1, 0);
            x.move(1, 3, 2, 0);
            Check.due("by the latest time still", x.memberAt(1, 3, 2), 1);
            x.move(1, 3, 2, 3);
            Check.due("below 2 below 1", x.memberAt(1, 3, 2), 3);
            Check.due("its child", x.memberAt(1, 4, 2), 4);
            x.from(0, 1, 3);
            Check.due("deep enough by as now", x.cell(0, 3, 0, 0), 11111);
            Check.due("2 is not", x.cell(0, 2, 0, 0), MISSING);
        }
    }

    private static void asNowAndThen() {
        Check.of("Promise 5: asNow");
        Cubecaller x = new Cubecaller();
        moving(x, 2);
        x.move(2, 3, 2, 2);
        Check.due("as then at first", x.cell(0, 0, 2, 0), 11100);
        Check.due("it was as then", x.asNow(true), false);
        Check.due("as now at each time", x.cell(0, 0, 2, 0), 11111);
        Check.due("at the time 1", x.cell(1, 0, 2, 0), 10);
        Check.due("of 1 nothing", x.cell(1, 0, 1, 0), MISSING);
        Check.due("it was as now", x.asNow(false), true);
        Check.due("as then again", x.cell(1, 0, 1, 0), 10);
        Check.due("at the time 2", x.cell(2, 0, 2, 0), 10100);
    }

    private static void bridgesOfEachSize() {
        Check.of("Promise 3: bridge");
        int[] values = {0, 1, 10, 100, 1000, 10000};
        int members = 0;
        int all = 0;
        for (int size = 1; size <= 5; size++) {
            members += 1 << size;
            all += values[size];
            Cubecaller x = new Cubecaller();
            x.measure(SUM, 0, 0);
            for (int i = 1; i < 7; i++) {
                x.member(1, 0, -1);
                x.fact(0, i, 0, 0, i < 6 ? values[i] : 100000);
            }
            Check.due("for " + size, x.bridge(1, members), 7);
            Check.due("its cell", x.cell(0, 7, 0, 0), all);
        }
        Check.Act six = x -> {
            for (int i = 1; i < 7; i++) {
                x.member(1, 0, -1);
            }
        };
        Check.refuses("for six", Check.STATE, six, x -> x.bridge(1, 2 + 4 + 8 + 16 + 32 + 64));
        Check.refuses("for seven", Check.STATE, six, x -> x.bridge(1, 127));
        Check.refuses("for six and one that there is not", Check.INDEX, six, x -> x.bridge(1, 255));
    }

    private static void firstOfBridge() {
        Check.of("Terms: MEMBERS");
        Cubecaller x = new Cubecaller();
        x.measure(SUM, 0, 0);
        x.member(1, 0, 1);
        x.member(1, 1, -1);
        x.member(1, 2, -1);
        x.member(1, 3, 0);
        x.member(1, 0, 1);
        x.fact(0, 3, 0, 0, 5);
        x.fact(0, 4, 0, 0, 70);
        Check.due("for 1 and 2: by 1 two signs", x.cell(0, x.bridge(1, 2 + 4), 0, 0), 5);
        Check.due("for 2 and 3: by 2 one sign", x.cell(0, x.bridge(1, 4 + 8), 0, 0), -5);
        Check.due("for 3 and 4: by 3 itself, 4 by the sign 0", x.cell(0, x.bridge(1, 8 + 16), 0, 0), 5);
        Check.due("for 4 and 5: 4 itself", x.cell(0, x.bridge(1, 16 + 32), 0, 0), 70);
        Check.due("for 5 nothing is below", x.cell(0, x.bridge(1, 32), 0, 0), MISSING);
        Check.due("for 0 and 4: by 0 the sign 0", x.cell(0, x.bridge(1, 1 + 16), 0, 0), 5);
    }

    private static void bridgeOfMoved() {
        Check.of("Terms: MEMBERS");
        Cubecaller x = new Cubecaller();
        moving(x, 1);
        x.bridge(1, 2);
        x.bridge(1, 4);
        x.bridge(1, 2 + 4);
        x.move(1, 3, 2, 2);
        Check.due("below the BRIDGE for 1 till then", x.cell(0, 4, 0, 0), 11);
        Check.due("below the BRIDGE for 2 from then on", x.cell(0, 5, 0, 0), 11100);
        Check.due("below the BRIDGE for both always", x.cell(0, 6, 0, 0), 11111);
        x.asNow(true);
        Check.due("as now not below the one for 1", x.cell(0, 4, 0, 0), MISSING);
        Check.due("as now below the one for 2", x.cell(0, 5, 0, 0), 11111);
        Check.due("a BRIDGE of time", x.cell(x.bridge(0, 2 + 16), 5, 0, 0), 10010);
    }

    private static void memberAtEach() {
        Check.of("Promise 6: memberAt");
        for (int d = 0; d < 3; d++) {
            Cubecaller x = new Cubecaller();
            x.member(d, 0, -1);
            x.member(d, 1, 0);
            x.bridge(d, 2 + 4);
            x.word(Cubecaller.LOOK, 3, 0);
            x.calculate(d, 7);
            int[][] want = {
                {Cubecaller.PLAIN, NONE, 0, 0, 1}, {Cubecaller.PLAIN, 0, 1, 1, 1}, {Cubecaller.PLAIN, 1, 2, 2, 1},
                {Cubecaller.BRIDGE, NONE, NONE, NONE, 1}, {Cubecaller.CALCULATED, NONE, NONE, NONE, 1}};
            for (int i = 0; i < want.length; i++) {
                for (int what = 0; what < 5; what++) {
                    int due = what == 3 && d > 0 ? NONE : want[i][what];
                    Check.due("member " + i + ", what " + what, x.memberAt(d, i, what), due);
                }
            }
            x.hide(d, 2, true);
            for (int i = 0; i < want.length; i++) {
                Check.due("seen " + i, x.memberAt(d, i, 4), i == 2 || i == 3 ? 0 : 1);
            }
        }
    }

    private static void hiddenChain() {
        Check.of("Terms: SEEING");
        for (int d = 0; d < 3; d++) {
            for (int hidden = 1; hidden < 12; hidden++) {
                Cubecaller x = new Cubecaller();
                chain(x, d, 1);
                Check.due("it was not", x.hide(d, hidden, true), false);
                for (int i = 0; i < 12; i++) {
                    Check.due("seen " + i + " with " + hidden + " hidden", x.memberAt(d, i, 4), i < hidden ? 1 : 0);
                }
                Check.due("it was", x.hide(d, hidden, false), true);
                Check.due("seen again", x.memberAt(d, 11, 4), 1);
            }
        }
    }

    private static void hiddenTwice() {
        Check.of("Promise 9: hide");
        Cubecaller x = new Cubecaller();
        chain(x, 1, 1);
        x.hide(1, 3, true);
        Check.due("below a hidden one it was not hidden itself", x.hide(1, 6, true), false);
        Check.due("3 no more", x.hide(1, 3, false), true);
        Check.due("5 is seen", x.memberAt(1, 5, 4), 1);
        Check.due("6 is not", x.memberAt(1, 6, 4), 0);
        x.hide(1, 3, true);
        Check.due("6 no more", x.hide(1, 6, false), true);
        Check.due("below 3 it is not seen", x.memberAt(1, 6, 4), 0);
        Check.due("of another dimension the same number is not hidden", x.member(2, 0, 1), 1);
        Check.due("seen there", x.memberAt(2, 1, 4), 1);
        x.hide(2, 1, true);
        Check.due("1 of the dimension 1 is seen", x.memberAt(1, 1, 4), 1);
        Check.due("a member made below a hidden one is not seen", x.memberAt(2, x.member(2, 1, 1), 4), 0);
        Check.due("beside it one is", x.memberAt(2, x.member(2, 0, 1), 4), 1);
    }

    private static void hiddenAsNow() {
        Check.of("Terms: SEEING");
        for (int now = 0; now < 2; now++) {
            Cubecaller x = new Cubecaller();
            moving(x, 1);
            x.asNow(now == 1);
            x.hide(1, 1, true);
            Check.due("below 1", x.memberAt(1, 3, 4), 0);
            x.move(1, 3, 2, 3);
            Check.due("as now below 2", x.memberAt(1, 3, 4), 1);
            Check.due("so it is seen at each time", x.cell(1, 3, 0, 0), 10);
            x.totals(true);
            Check.due("and counts at each time", x.cell(0, 0, 0, 0), 11111);
            x.hide(1, 1, false);
            x.hide(1, 2, true);
            Check.due("2 is hidden", x.memberAt(1, 3, 4), 0);
            Check.due("so it counts at none", x.cell(0, 0, 0, 0), MISSING);
            Check.due("nor for the one it was below", x.cell(0, 1, 0, 0), MISSING);
            x.totals(false);
            Check.due("with all, as then or as now", x.cell(0, 1, 0, 0), now == 1 ? MISSING : 10111);
        }
    }

    private static void hiddenBridges() {
        Check.of("Terms: SEEING");
        for (int hidden = 1; hidden < 8; hidden++) {
            Cubecaller x = new Cubecaller();
            x.measure(SUM, 0, 0);
            for (int i = 1; i < 7; i++) {
                x.member(2, 0, 1);
            }
            x.member(2, 3, 1);
            x.bridge(2, 2 + 4 + 8 + 16 + 32);
            x.bridge(2, 128);
            x.bridge(2, 1);
            x.word(Cubecaller.LOOK, 8, 0);
            x.calculate(2, 0);
            x.fact(0, 0, 1, 0, 4);
            x.hide(2, hidden, true);
            Check.due("a BRIDGE for 1 to 5, " + hidden + " hidden", x.memberAt(2, 8, 4), hidden < 6 ? 0 : 1);
            Check.due("its cell", x.cell(0, 0, 8, 0), hidden < 6 ? MISSING : 4);
            Check.due("a BRIDGE for 7 below 3", x.memberAt(2, 9, 4), hidden == 3 || hidden == 7 ? 0 : 1);
            Check.due("a BRIDGE for 0", x.memberAt(2, 10, 4), 1);
            Check.due("its cell with all", x.cell(0, 0, 10, 0), 4);
            Check.due("a CALCULATED one", x.memberAt(2, 11, 4), 1);
            Check.due("what it looks at it has", x.cell(0, 0, 11, 0), 4);
        }
    }

    private static void hiddenForWhoAsks() {
        for (int d = 0; d < 3; d++) {
            Cubecaller x = new Cubecaller();
            x.measure(SUM, 0, 0);
            x.member(d, 0, 1);
            x.member(d, 1, 1);
            fact(x, at(d, 2), 0, 8);
            x.word(Cubecaller.LOOK, 2, 0);
            x.calculate(d, 0);
            x.hide(d, 1, true);
            int[] c = at(d, 2);
            Check.of("Promise 15: cell");
            Check.due("missing", x.cell(c[0], c[1], c[2], 0), MISSING);
            Check.of("Promise 17: kept");
            Check.due("not kept", x.kept(), 0);
            Check.of("Promise 16: cellAnew");
            Check.due("missing", x.cellAnew(c[0], c[1], c[2], 0), MISSING);
            Check.of("Promise 18: hits");
            x.cell(c[0], c[1], c[2], 0);
            Check.due("no hit", x.hits(), 0);
            Check.of("Terms: SEEING");
            Check.due("but not for formulas", cell(x, at(d, 3), 0), 8);
            Check.due("nor for totals", cell(x, at(d, 0), 0), 8);
            Check.due("both are kept", x.kept(), 2);
            x.hide(d, 1, false);
            Check.due("for who asks again", cell(x, c, 0), 8);
        }
    }

    private static void totalsOfEach() {
        Check.of("Promise 10: totals");
        for (int d = 0; d < 3; d++) {
            Cubecaller x = new Cubecaller();
            x.measure(SUM, 0, 0);
            x.member(d, 0, 1);
            x.member(d, 1, 1);
            x.member(d, 0, 1);
            fact(x, at(d, 0), 0, 1);
            fact(x, at(d, 1), 0, 20);
            fact(x, at(d, 2), 0, 300);
            fact(x, at(d, 3), 0, 4000);
            x.hide(d, 2, true);
            x.totals(true);
            Check.due("without 2", cell(x, at(d, 0), 0), 4021);
            Check.due("without 2 below 1", cell(x, at(d, 1), 0), 20);
            x.hide(d, 1, true);
            Check.due("without 1 and what is below", cell(x, at(d, 0), 0), 4001);
            x.word(Cubecaller.LOOK, 1, 0);
            x.calculate(d, 0);
            Check.due("for formulas nothing counts there", cell(x, at(d, 4), 0), MISSING);
            x.totals(false);
            Check.due("for formulas all counts", cell(x, at(d, 4), 0), 320);
            Check.due("with all", cell(x, at(d, 0), 0), 4321);
        }
    }

    private static void totalsOfMeasures() {
        Check.of("Terms: SEEING");
        Cubecaller x = new Cubecaller();
        x.measure(Cubecaller.LAST, 0, 0);
        x.measure(Cubecaller.DIFFERENT, 0, 0);
        x.measure(Cubecaller.RATIO, 0, 1);
        x.member(0, 0, 1);
        x.member(0, 0, 1);
        for (int m = 0; m < 2; m++) {
            x.fact(1, 0, 0, m, 6);
            x.fact(2, 0, 0, m, 9);
        }
        x.hide(0, 2, true);
        Check.due("LAST with all", x.cell(0, 0, 0, 0), 9);
        Check.due("DIFFERENT with all", x.cell(0, 0, 0, 1), 2);
        Check.due("RATIO with all", x.cell(0, 0, 0, 2), 4500);
        x.totals(true);
        Check.due("LAST of what is seen", x.cell(0, 0, 0, 0), 6);
        Check.due("DIFFERENT of what is seen", x.cell(0, 0, 0, 1), 1);
        Check.due("RATIO of what is seen", x.cell(0, 0, 0, 2), 6000);
        x.hide(0, 1, true);
        for (int m = 0; m < 3; m++) {
            Check.due("nothing is seen", x.cell(0, 0, 0, m), MISSING);
        }
    }
}
