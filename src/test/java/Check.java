import java.util.ArrayList;
import java.util.List;
import java.util.function.ToLongFunction;

/** Tells what is not as due, and ends a test. */
final class Check {
    /** Calls on a cube. */
    interface Act {
        void on(Cubecaller x);
    }

    /** Tells what can be seen of a cube; the cube is spent by that, as some is seen only by changing it. */
    private interface Probe {
        void tell(Cubecaller x, List<String> all);
    }

    static final Class<? extends RuntimeException> INDEX = IndexOutOfBoundsException.class;
    static final Class<? extends RuntimeException> ARGUMENT = IllegalArgumentException.class;
    static final Class<? extends RuntimeException> STATE = IllegalStateException.class;

    // An object is promised 512 calls: no one of these needs 400, and what builds a cube not 100.
    private static final Probe[] PROBES = {
        Check::tellWhatIsThere, Check::tellCells, Check::tellFacts, Check::tellSettings, Check::tellRoom
    };

    private static String head = "";
    private static int wrong = 0;
    private static int checks = 0;

    private Check() {
    }

    /** Names the promise, or the head of the 'Terms', that the checks from here on are for. */
    static void of(String promise) {
        head = promise;
    }

    static void due(String what, long got, long want) {
        checks++;
        if (got != want) {
            wrong++;
            System.out.println(head + ": " + what + ": answered " + got + ", due is " + want);
        }
    }

    static void due(String what, boolean got, boolean want) {
        due(what, got ? 1 : 0, want ? 1 : 0);
    }

    /** The call throws just this, on a cube that is used on. */
    static void due(String what, Cubecaller x, Act call, Class<? extends RuntimeException> want) {
        checks++;
        Class<?> got = thrown(x, call);
        if (got != want) {
            wrong++;
            System.out.println(head + ": " + what + ": threw " + name(got) + ", due is " + name(want));
        }
    }

    /** The call throws just this, and the cube then answers as one on which it was not made. */
    static void refuses(String what, Class<? extends RuntimeException> want, Act build, Act call) {
        for (Probe probe : PROBES) {
            Cubecaller x = built(build);
            checks++;
            Class<?> got = thrown(x, call);
            if (got != want) {
                wrong++;
                System.out.println(head + ": " + what + ": threw " + name(got) + ", due is " + name(want));
                return;
            }
            compare(what, probe, x, built(build));
        }
    }

    private static void compare(String what, Probe probe, Cubecaller x, Cubecaller untouched) {
        List<String> left = new ArrayList<>();
        List<String> right = new ArrayList<>();
        probe.tell(x, left);
        probe.tell(untouched, right);
        for (int i = 0; i < left.size() && i < right.size(); i++) {
            if (!left.get(i).equals(right.get(i))) {
                wrong++;
                System.out.println(head + ": " + what + " changed something: " + left.get(i) + ", due is " + right.get(i));
                return;
            }
        }
        due(what + ": answers after it", left.size(), right.size());
    }

    static void end(String test) {
        System.out.println(test + ": " + checks + " checks, " + wrong + " wrong");
        if (wrong > 0) {
            System.exit(1);
        }
    }

    /** The cube, with some cells kept, so that it is seen when a call drops them. */
    private static Cubecaller built(Act build) {
        Cubecaller x = new Cubecaller();
        build.on(x);
        for (int m = 0; m < 4; m++) {
            int measure = m;
            thrown(x, y -> y.cell(0, 0, 0, measure));
            thrown(x, y -> y.cell(0, 1, 0, measure));
        }
        return x;
    }

    private static Class<?> thrown(Cubecaller x, Act call) {
        try {
            call.on(x);
            return null;
        } catch (RuntimeException e) {
            return e.getClass();
        }
    }

    private static String name(Class<?> type) {
        return type == null ? "nothing" : type.getSimpleName();
    }

    private static void tell(List<String> all, String what, Cubecaller x, ToLongFunction<Cubecaller> call) {
        long[] got = new long[1];
        Class<?> threw = thrown(x, y -> got[0] = call.applyAsLong(y));
        all.add(what + " is " + (threw == null ? "" + got[0] : name(threw)));
    }

    private static void tellWhatIsThere(Cubecaller x, List<String> all) {
        all.add("facts " + x.facts() + ", kept " + x.kept() + ", hits " + x.hits());
        for (int d = 0; d < 3; d++) {
            int dimension = d;
            for (int i = 0; i < 12; i++) {
                int number = i;
                tell(all, "picked " + d + " " + i, x, y -> y.picked(dimension, number));
                for (int what = 0; what < 5; what++) {
                    int asked = what;
                    tell(all, "member " + d + " " + i + " " + what, x, y -> y.memberAt(dimension, number, asked));
                }
            }
        }
    }

    /** The cells of the first members, and which of them are hits. */
    private static void tellCells(Cubecaller x, List<String> all) {
        for (int m = 0; m < 4; m++) {
            for (int t = 0; t < 3; t++) {
                for (int i = 0; i < 12; i++) {
                    int time = t;
                    int one = i % 6;
                    int two = i / 6;
                    int measure = m;
                    tell(all, "cell " + t + " " + one + " " + two + " " + m, x, y -> y.cell(time, one, two, measure));
                    all.add("hits " + x.hits());
                }
            }
        }
    }

    /** The facts, and by what is left over when it is spread the order in which they were made. */
    private static void tellFacts(Cubecaller x, List<String> all) {
        for (int m = 0; m < 4; m++) {
            int measure = m;
            for (int i = 0; i < 80; i++) {
                int time = i / 2 % 5;
                int one = i / 10;
                int two = i % 2;
                if (i % 20 == 0) {
                    tell(all, "write " + m, x, y -> y.write(0, 0, 0, measure, 1, Cubecaller.EQUAL));
                }
                String cell = time + " " + one + " " + two + " " + m;
                tell(all, "forget " + cell, x, y -> y.forget(time, one, two, measure));
            }
        }
    }

    private static void tellSettings(Cubecaller x, List<String> all) {
        for (int d = 0; d < 3; d++) {
            int dimension = d;
            tell(all, "at " + d, x, y -> y.at(dimension, 0));
            for (int m = 0; m < 4; m++) {
                int measure = m;
                tell(all, "from " + m + " " + d, x, y -> y.from(measure, dimension, 0));
            }
            for (int i = 0; i < 8; i++) {
                int member = i;
                tell(all, "hide " + d + " " + i, x, y -> y.hide(dimension, member, false) ? 1 : 0);
            }
        }
        tell(all, "asNow", x, y -> y.asNow(false) ? 1 : 0);
        tell(all, "totals", x, y -> y.totals(false) ? 1 : 0);
        tell(all, "end", x, y -> y.end(false));
        tell(all, "the cell of all", x, y -> y.cellAnew(0, 0, 0, 0));
        tell(all, "end again", x, y -> y.end(true));
    }

    /** The draft, and how many words, members, measures, moves and facts can come yet. */
    private static void tellRoom(Cubecaller x, List<String> all) {
        tell(all, "two of the draft", x, y -> y.word(Cubecaller.PLUS, 0, 0));
        tell(all, "the draft", x, y -> y.calculate(2, 0));
        for (int i = 0; i < 12; i++) {
            int two = i;
            tell(all, "cell 0 0 " + i + " 0", x, y -> y.cellAnew(0, 0, two, 0));
        }
        for (int i = 0; i < 11; i++) {
            tell(all, "word", x, y -> y.word(Cubecaller.NUMBER, 0, 0));
            tell(all, "move 1", x, y -> y.move(1, 1, 0, 0));
            tell(all, "move 2", x, y -> y.move(2, 1, 0, 0));
        }
        for (int i = 0; i < 51; i++) {
            int time = i / 13;
            int one = i % 13;
            tell(all, "fact", x, y -> y.fact(time, one, 0, 0, 1));
        }
        for (int i = 0; i < 36; i++) {
            int dimension = i / 12;
            tell(all, "member", x, y -> y.member(dimension, 0, 1));
        }
        for (int i = 0; i < 5; i++) {
            tell(all, "measure", x, y -> y.measure(Cubecaller.SUM, 0, 0));
        }
    }
}
