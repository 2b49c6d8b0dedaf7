/** What is full (members, moves, words, measures, facts, kept cells, what is picked), and one more call then. */
public final class FullTest {
    private static final int NONE = Cubecaller.NONE;
    private static final int SUM = Cubecaller.SUM;
    private static final int NUMBER = Cubecaller.NUMBER;
    private static final int LOOK = Cubecaller.LOOK;
    private static final int PLUS = Cubecaller.PLUS;

    public static void main(String[] args) {
        twelveMembers();
        lastMembers();
        twelveOfTime();
        tenMoves();
        tenMovesOfOneMember();
        tenWords();
        nineWords();
        fourMeasures();
        fiftyFacts();
        fiftyFactsOfTwoMeasures();
        fiftyFactsCount();
        writeToFifty();
        sessionOfFifty();
        sessionOfTwoMeasures();
        twentyKept();
        twentyKeptAndDropped();
        elevenPicked();
        manyCalls();
        Check.end("FullTest");
    }

    private static void fill(Cubecaller x, int dimension) {
        for (int i = 1; i < 12; i++) {
            x.member(dimension, 0, 1);
        }
    }

    private static void twelveMembers() {
        for (int d = 0; d < 3; d++) {
            int full = d;
            Check.Act build = x -> {
                fill(x, full);
                x.measure(SUM, 0, 0);
                x.word(NUMBER, 1, 0);
            };
            Check.of("Promise 2: member");
            Check.refuses("a 13th", Check.STATE, build, x -> x.member(full, 0, 1));
            Check.refuses("a 13th below the 12th", Check.STATE, build, x -> x.member(full, 11, -1));
            Check.of("Promise 3: bridge");
            Check.refuses("a 13th", Check.STATE, build, x -> x.bridge(full, 1));
            Check.refuses("a 13th for the 12th", Check.STATE, build, x -> x.bridge(full, 2048));
            Check.of("Promise 8: calculate");
            Check.refuses("a 13th", Check.STATE, build, x -> x.calculate(full, 0));
            Check.of("Terms: MEMBERS");
            Cubecaller x = new Cubecaller();
            build.on(x);
            for (int other = 0; other < 3; other++) {
                if (other != full) {
                    Check.due("room in another dimension", x.member(other, 0, 1), 1);
                    Check.due("for a BRIDGE too", x.bridge(other, 2), 2);
                }
            }
            Check.due("for a CALCULATED one too", x.calculate((full + 1) % 3, 0), 3);
        }
    }

    /** The 12th member of each kind is like the others. */
    private static void lastMembers() {
        for (int d = 0; d < 3; d++) {
            int[] c = {0, 0, 0};
            c[d] = 11;
            Check.of("Promise 2: member");
            Cubecaller x = new Cubecaller();
            x.measure(SUM, 0, 0);
            fill(x, d);
            Check.due("a fact of the 12th", x.fact(c[0], c[1], c[2], 0, 7), 1);
            Check.due("its cell", x.cell(c[0], c[1], c[2], 0), 7);
            Check.due("above it", x.cell(0, 0, 0, 0), 7);
            Check.due("set", x.at(d, 11), 0);
            Check.due("hidden", x.hide(d, 11, true), false);
            Check.due("hidden, not seen", x.memberAt(d, 11, 4), 0);
            Check.due("its neighbour is", x.memberAt(d, 10, 4), 1);
            Check.due("no 13th", x, y -> y.memberAt(d(c), 12, 0), Check.INDEX);
            Check.of("Promise 3: bridge");
            Cubecaller y = new Cubecaller();
            y.measure(SUM, 0, 0);
            for (int i = 1; i < 11; i++) {
                y.member(d, 0, 1);
            }
            Check.due("the 12th", y.bridge(d, 1024 + 512 + 256 + 128 + 64), 11);
            c[d] = 10;
            y.fact(c[0], c[1], c[2], 0, 5);
            c[d] = 11;
            Check.due("its cell", y.cell(c[0], c[1], c[2], 0), 5);
            Check.of("Promise 8: calculate");
            Cubecaller z = new Cubecaller();
            z.measure(SUM, 0, 0);
            for (int i = 1; i < 11; i++) {
                z.member(d, 0, 1);
            }
            z.word(LOOK, 10, 0);
            Check.due("the 12th", z.calculate(d, 0), 11);
            c[d] = 10;
            z.fact(c[0], c[1], c[2], 0, 6);
            c[d] = 11;
            Check.due("its cell", z.cell(c[0], c[1], c[2], 0), 6);
        }
    }

    /** The dimension of which a cell has the member 11. */
    private static int d(int[] cell) {
        return cell[0] == 11 ? 0 : cell[1] == 11 ? 1 : 2;
    }

    private static void twelveOfTime() {
        Check.of("Terms: MEMBERS");
        Cubecaller x = new Cubecaller();
        fill(x, 0);
        for (int i = 0; i < 12; i++) {
            Check.due("place of a child of 0", x.memberAt(0, i, 3), i);
        }
        Cubecaller y = new Cubecaller();
        for (int i = 1; i < 11; i++) {
            y.member(0, 0, 1);
        }
        y.member(0, 1, 1);
        Check.due("the 12th stands behind its parent 1", y.memberAt(0, 11, 3), 2);
        Check.due("1 stands where it stood", y.memberAt(0, 1, 3), 1);
        Check.due("2 stands behind the 12th", y.memberAt(0, 2, 3), 3);
        Check.due("10 stands last", y.memberAt(0, 10, 3), 11);
        Check.of("Terms: CALCULATED MEMBERS");
        Cubecaller z = new Cubecaller();
        z.measure(SUM, 0, 0);
        fill(z, 0);
        z.fact(1, 0, 0, 0, 9);
        z.word(LOOK, 0, 10);
        z.calculate(1, 0);
        z.word(LOOK, 0, 11);
        z.calculate(1, 0);
        Check.due("10 steps back from 11", z.cell(11, 1, 0, 0), 9);
        Check.due("11 steps are more than there are", z.cell(11, 2, 0, 0), Cubecaller.MISSING);
        Check.due("10 steps back from 10", z.cell(10, 1, 0, 0), Cubecaller.MISSING);
    }

    private static void tenMoves() {
        Check.of("Promise 4: move");
        for (int k = 0; k <= 10; k++) {
            int ofOne = k;
            Check.Act build = x -> {
                x.measure(SUM, 0, 0);
                for (int i = 1; i < 12; i++) {
                    x.member(1, 0, 1);
                    x.member(2, 0, 1);
                }
                for (int i = 0; i < 10; i++) {
                    x.move(i < ofOne ? 1 : 2, 2 + i, 1 + i, 0);
                }
            };
            Check.refuses("an 11th, of one", Check.STATE, build, x -> x.move(1, 11, 1, 0));
            Check.refuses("an 11th, of two", Check.STATE, build, x -> x.move(2, 11, 1, 0));
            Check.refuses("an 11th, to where it is", Check.STATE, build, x -> x.move(2, 1, 0, 0));
            Cubecaller x = new Cubecaller();
            build.on(x);
            for (int i = 0; i < 10; i++) {
                Check.due("the parent of each", x.memberAt(i < ofOne ? 1 : 2, 2 + i, 1), 1 + i);
                Check.due("in the other dimension it is 0", x.memberAt(i < ofOne ? 2 : 1, 2 + i, 1), 0);
            }
        }
    }

    private static void tenMovesOfOneMember() {
        Check.of("Promise 4: move");
        Cubecaller x = new Cubecaller();
        x.measure(SUM, 0, 0);
        fill(x, 0);
        for (int i = 1; i < 12; i++) {
            x.member(1, 0, 1);
        }
        Check.due("one that is refused", x, y -> y.move(1, 11, 11, 0), Check.STATE);
        for (int i = 1; i < 11; i++) {
            Check.due("parent before", x.move(1, 11, i, i), i - 1);
        }
        Check.due("an 11th move", x, y -> y.move(1, 11, 5, 11), Check.STATE);
        for (int i = 0; i < 12; i++) {
            x.fact(i, 11, 0, 0, 1);
        }
        for (int i = 1; i < 11; i++) {
            Check.due("below each at one time, below the last at two", x.cell(0, i, 0, 0), i < 10 ? 1 : 2);
        }
        Check.due("as now below the last", x.memberAt(1, 11, 1), 10);
    }

    private static void tenWords() {
        Check.of("Promise 7: word");
        Check.Act build = x -> {
            x.measure(SUM, 0, 0);
            x.word(NUMBER, 1, 0);
            for (int i = 0; i < 4; i++) {
                x.word(NUMBER, 1, 0);
                x.word(PLUS, 0, 0);
            }
            x.word(NUMBER, 1, 0);
        };
        for (int i = NUMBER; i <= Cubecaller.PER; i++) {
            int what = i;
            Check.refuses("an 11th word", Check.STATE, build, x -> x.word(what, 0, 0));
        }
        Check.refuses("an 11th word, and none", Check.ARGUMENT, build, x -> x.word(7, 0, 0));
        Check.of("Promise 8: calculate");
        for (int d = 0; d < 3; d++) {
            int dimension = d;
            Check.refuses("two on the pile", Check.STATE, build, x -> x.calculate(dimension, 0));
        }
    }

    private static void nineWords() {
        Check.of("Promise 8: calculate");
        Cubecaller x = new Cubecaller();
        x.measure(SUM, 0, 0);
        for (int round = 1; round < 12; round++) {
            for (int i = 0; i < 5; i++) {
                Check.due("five numbers", x.word(NUMBER, round * 10000 + i, 0), i + 1);
            }
            for (int i = 0; i < 4; i++) {
                Check.due("four PLUS", x.word(PLUS, 0, 0), i + 6);
            }
            Check.due("its number", x.calculate(2, 100), round);
        }
        for (int round = 1; round < 12; round++) {
            Check.due("each has its own words", x.cell(0, 0, round, 0), round * 50000 + 10);
        }
    }

    private static void fourMeasures() {
        Check.of("Promise 11: measure");
        Check.Act build = x -> {
            for (int kind = SUM; kind <= Cubecaller.RATIO; kind++) {
                x.measure(kind, 0, 1);
            }
        };
        for (int i = SUM; i <= Cubecaller.RATIO; i++) {
            int kind = i;
            Check.refuses("a fifth", Check.STATE, build, x -> x.measure(kind, 0, 1));
        }
        Cubecaller x = new Cubecaller();
        build.on(x);
        Check.of("Terms: FACTS, MEASURES");
        for (int m = 0; m < 3; m++) {
            Check.due("a fact for each but the RATIO", x.fact(0, 0, 0, m, 5 + m), m + 1);
        }
        Check.due("SUM", x.cell(0, 0, 0, 0), 5);
        Check.due("LAST", x.cell(0, 0, 0, 1), 6);
        Check.due("DIFFERENT", x.cell(0, 0, 0, 2), 1);
        Check.due("RATIO", x.cell(0, 0, 0, 3), 833);
        Check.due("four of one kind", fourOf(Cubecaller.DIFFERENT), 3);
    }

    private static int fourOf(int kind) {
        Cubecaller x = new Cubecaller();
        int last = NONE;
        for (int i = 0; i < 4; i++) {
            last = x.measure(kind, 0, 0);
        }
        return last;
    }

    /** Facts 0 to 49, that of i at the time 1 + i / 5 and the member 1 + i % 5 of the dimension 1. */
    private static void fifty(Cubecaller x) {
        x.measure(SUM, 0, 0);
        for (int i = 0; i < 10; i++) {
            x.member(0, 0, 1);
        }
        for (int i = 0; i < 5; i++) {
            x.member(1, 0, 1);
        }
        for (int i = 0; i < 50; i++) {
            x.fact(1 + i / 5, 1 + i % 5, 0, 0, i);
        }
    }

    private static void fiftyFacts() {
        Check.of("Promise 13: fact");
        Check.refuses("a 51st", Check.STATE, FullTest::fifty, x -> x.fact(0, 0, 0, 0, 1));
        Cubecaller x = new Cubecaller();
        fifty(x);
        for (int i = 0; i < 50; i++) {
            Check.due("each can be changed", x.fact(1 + i / 5, 1 + i % 5, 0, 0, i + 1000), 50);
            Check.due("it was", x.cellAnew(1 + i / 5, 1 + i % 5, 0, 0), i + 1000);
        }
        Check.due("the sum", x.cell(0, 0, 0, 0), 50000 + 1225);
        Check.of("Promise 14: forget");
        Check.due("the last one", x.forget(10, 5, 0, 0), 1049);
        Check.due("the first one", x.forget(1, 1, 0, 0), 1000);
        Check.due("one in between", x.forget(5, 5, 0, 0), 1024);
        Check.due("47", x.facts(), 47);
        Check.due("the others are there", x.cell(0, 0, 0, 0), 50000 + 1225 - 1049 - 1000 - 1024);
        Check.of("Promise 13: fact");
        for (int i = 48; i <= 50; i++) {
            Check.due("room for three", x.fact(i - 48, 0, 0, 0, 1), i);
        }
        Check.due("no room for a fourth", x, y -> y.fact(3, 0, 0, 0, 1), Check.STATE);
    }

    private static void fiftyFactsOfTwoMeasures() {
        Check.of("Promise 13: fact");
        Cubecaller x = new Cubecaller();
        x.measure(SUM, 0, 0);
        x.measure(SUM, 0, 0);
        for (int i = 1; i < 6; i++) {
            x.member(0, 0, 1);
            x.member(1, 0, 1);
        }
        for (int i = 0; i < 50; i++) {
            Check.due("of either", x.fact(i / 2 % 5, i / 10, 0, i % 2, 1), i + 1);
        }
        Check.due("a 51st of the one", x, y -> y.fact(5, 5, 0, 0, 1), Check.STATE);
        Check.due("a 51st of the other", x, y -> y.fact(5, 5, 0, 1, 1), Check.STATE);
        Check.due("25 of the one", x.cell(0, 0, 0, 0), 25);
        Check.due("25 of the other", x.cell(0, 0, 0, 1), 25);
    }

    private static void fiftyFactsCount() {
        Check.of("Terms: FACTS, MEASURES");
        Cubecaller x = new Cubecaller();
        x.measure(Cubecaller.DIFFERENT, 0, 0);
        x.measure(Cubecaller.LAST, 0, 0);
        for (int i = 1; i < 12; i++) {
            x.member(1, 0, 1);
            x.member(2, 0, 1);
        }
        for (int i = 0; i < 50; i++) {
            x.fact(0, i % 10, i / 10, 0, i - 25);
        }
        Check.due("50 unlike numbers", x.cell(0, 0, 0, 0), 50);
        x.fact(0, 9, 4, 0, -25);
        Check.due("49, the last like the first", x.cell(0, 0, 0, 0), 49);
        Cubecaller y = new Cubecaller();
        y.measure(SUM, 0, 0);
        y.measure(SUM, 0, 0);
        y.measure(Cubecaller.RATIO, 0, 1);
        for (int i = 1; i < 12; i++) {
            y.member(1, 0, 1);
            y.member(2, 0, 1);
        }
        for (int i = 0; i < 49; i++) {
            y.fact(0, i % 10, i / 10, 0, 1000000);
        }
        Check.due("49 million", y.cell(0, 0, 0, 0), 49000000);
        y.fact(0, 0, 0, 1, 1);
        Check.due("by 1", y.cell(0, 0, 0, 2), 49000000000L);
    }

    private static void writeToFifty() {
        Check.of("Promise 23: write");
        Check.Act build = x -> {
            fifty(x);
            x.member(2, 0, 1);
            x.measure(SUM, 0, 0);
        };
        for (int i = Cubecaller.EQUAL; i <= Cubecaller.REST; i++) {
            int how = i;
            Check.refuses("a 51st", Check.STATE, build, x -> x.write(0, 0, 1, 0, 1, how));
            Check.refuses("a 51st of another measure", Check.STATE, build, x -> x.write(0, 1, 0, 1, 1, how));
        }
        Cubecaller x = new Cubecaller();
        build.on(x);
        Check.due("what is there is written", x.write(10, 5, 0, 0, 1000, Cubecaller.EQUAL), 1);
        Check.due("all of them but those that have 0 or 1", x.write(0, 0, 0, 0, 49, Cubecaller.EQUAL), 49);
        Check.due("49 have 1", x.cellAnew(10, 0, 0, 0), 4);
        Check.due("the last has 0", x.forget(10, 5, 0, 0), 0);
        Check.due("room for one", x.write(0, 0, 1, 0, 8, Cubecaller.WEIGHTS), 1);
        Check.due("50 again", x.facts(), 50);
        Check.due("and no more", x, y -> y.write(1, 0, 1, 0, 8, Cubecaller.WEIGHTS), Check.STATE);
    }

    private static void sessionOfFifty() {
        Check.of("Terms: WRITING, SESSIONS");
        Cubecaller x = new Cubecaller();
        fifty(x);
        x.measure(SUM, 0, 0);
        x.begin();
        for (int i = 0; i < 50; i++) {
            x.forget(1 + i / 5, 1 + i % 5, 0, 0);
        }
        for (int i = 0; i < 50; i++) {
            x.fact(9 - i / 5, 5 - i % 5, 0, 1, 3);
        }
        Check.due("50 others", x.facts(), 50);
        Check.due("50 as they were", x.end(false), 50);
        for (int i = 0; i < 50; i++) {
            Check.due("each as it was", x.cellAnew(1 + i / 5, 1 + i % 5, 0, 0), i);
        }
        Check.due("none of the other measure", x.cell(0, 0, 0, 1), Cubecaller.MISSING);
        Check.due("full as it was", x, y -> y.fact(0, 0, 0, 0, 1), Check.STATE);
        Check.due("in the order as it was", x.write(0, 0, 0, 0, 1, Cubecaller.EQUAL), 50);
        Check.due("0 was made first", x.cellAnew(1, 1, 0, 0), 1);
        Check.due("49 was made last", x.cellAnew(10, 5, 0, 0), 0);
    }

    private static void sessionOfTwoMeasures() {
        Check.of("Terms: WRITING, SESSIONS");
        Cubecaller x = new Cubecaller();
        x.measure(SUM, 0, 0);
        x.measure(SUM, 0, 0);
        for (int i = 1; i < 6; i++) {
            x.member(1, 0, 1);
            x.member(2, 0, 1);
        }
        for (int i = 0; i < 50; i++) {
            x.fact(0, 1 + i / 2 % 5, 1 + i / 10, i % 2, i + 1);
        }
        x.begin();
        x.forget(0, 5, 5, 1);
        x.fact(0, 5, 0, 0, 9);
        Check.due("50 as they were", x.end(false), 50);
        Check.due("the last one, of the other measure", x.cell(0, 5, 5, 1), 50);
        Check.due("the one ahead of it", x.cell(0, 5, 5, 0), 49);
        Check.due("all of the one", x.cell(0, 0, 0, 0), 625);
        Check.due("all of the other", x.cell(0, 0, 0, 1), 650);
    }

    private static boolean hit(Cubecaller x, int one, int two) {
        int before = x.hits();
        x.cell(0, one, two, 0);
        return x.hits() > before;
    }

    private static void grid(Cubecaller x) {
        x.measure(SUM, 0, 0);
        for (int i = 1; i < 12; i++) {
            x.member(1, 0, 1);
            x.member(2, 0, 1);
        }
    }

    private static void twentyKept() {
        Check.of("Terms: KEPT RESULTS");
        for (int more = 0; more <= 20; more++) {
            Cubecaller x = new Cubecaller();
            grid(x);
            for (int i = 0; i < 20 + more; i++) {
                x.cell(0, i % 10, i / 10, 0);
                Check.due("kept", x.kept(), Math.min(i + 1, 20));
            }
            Check.due("no hit", x.hits(), 0);
            for (int i = more; i < 20 + more; i++) {
                Check.due("the latest 20 are hits", hit(x, i % 10, i / 10), true);
            }
            Check.due("20 still", x.kept(), 20);
            if (more > 0) {
                Check.due("the one ahead of those went", hit(x, (more - 1) % 10, (more - 1) / 10), false);
                Check.due("20 with it", x.kept(), 20);
            }
        }
    }

    private static void twentyKeptAndDropped() {
        Check.of("Terms: KEPT RESULTS");
        Cubecaller x = new Cubecaller();
        grid(x);
        for (int i = 0; i < 20; i++) {
            x.cell(0, 1 + i % 10, 1 + i / 10, 0);
        }
        x.fact(0, 5, 1, 0, 7);
        Check.due("one is dropped among 20", x.kept(), 19);
        x.cell(0, 5, 1, 0);
        Check.due("it is kept again", x.kept(), 20);
        Check.due("the first is there still", hit(x, 1, 1), true);
        x.cell(0, 11, 1, 0);
        Check.due("the first went by the next one", hit(x, 1, 1), false);
        Check.due("the second by that", hit(x, 2, 1), false);
        Check.due("the one dropped and kept again is late now", hit(x, 5, 1), true);
        x.hide(1, 9, true);
        Check.due("all are dropped", x.kept(), 0);
        for (int i = 0; i < 20; i++) {
            x.cell(0, i % 8, i / 8, 0);
        }
        x.cell(0, 9, 0, 0);
        Check.due("what is not seen is not kept", x.kept(), 20);
        Check.due("nor does it drive one out", hit(x, 0, 0), true);
    }

    private static void elevenPicked() {
        Check.of("Promise 20: pick");
        for (int d = 0; d < 3; d++) {
            Cubecaller x = new Cubecaller();
            x.measure(SUM, 0, 0);
            fill(x, d);
            int[] c = {0, 0, 0};
            for (int i = 1; i < 12; i++) {
                c[d] = i;
                x.fact(c[0], c[1], c[2], 0, i % 4);
            }
            for (int kind = 0; kind < 3; kind++) {
                Check.due("all but 0", x.pick(d, kind, kind == Cubecaller.DEPTH ? 1 : 0, 0, 0), 11);
                Check.due("the first", x.picked(d, 0), 1);
                Check.due("the last", x.picked(d, 10), 11);
                Check.due("behind it", x.picked(d, 11), NONE);
                for (int top = 1; top < 13; top++) {
                    Check.due("top", x.pick(d, kind, kind == Cubecaller.DEPTH ? 1 : 0, 0, top), Math.min(top, 11));
                }
                int[] want = {3, 7, 11, 2, 6, 10, 1, 5, 9, 4, 8};
                for (int i = 0; i < 11; i++) {
                    Check.due("greater ones first", x.picked(d, i), want[i]);
                }
                Check.of("Promise 21: picked");
                Check.due("the 12th place", x.picked(d, 11), NONE);
                Check.due("the 13th place", x.picked(d, 12), NONE);
                Check.of("Promise 20: pick");
            }
        }
        Check.of("Promise 22: cross");
        Cubecaller x = new Cubecaller();
        grid(x);
        x.fact(0, 11, 11, 0, 0);
        x.fact(0, 1, 11, 0, 0);
        x.pick(1, Cubecaller.CHILDREN, 0, 0, 0);
        x.pick(2, Cubecaller.CHILDREN, 0, 0, 0);
        Check.due("two of 121", x.cross(1, 2, 0), 2);
        for (int i = 0; i < 40; i++) {
            x.fact(0, 2 + i % 10, 1 + i / 10, 0, 0);
        }
        Check.due("42 of 121", x.cross(2, 1, 0), 42);
    }

    private static void manyCalls() {
        Check.of("Terms: an object is used for at most 512 calls");
        Cubecaller x = new Cubecaller();
        x.measure(SUM, 0, 0);
        x.fact(0, 0, 0, 0, 3);
        for (int i = 2; i < 511; i++) {
            Check.due("call " + i, x.cell(0, 0, 0, 0), 3);
        }
        Check.due("the 512th call", x.hits(), 508);
        Cubecaller y = new Cubecaller();
        y.measure(SUM, 0, 0);
        for (int i = 1; i < 512; i++) {
            Check.due("call " + i, y.cellAnew(0, 0, 0, 0), Cubecaller.MISSING);
        }
    }
}
