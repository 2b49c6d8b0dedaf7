import java.util.ArrayList;
import java.util.List;

/** Tells what is not as due, and ends a test. */
final class Check {
    /** Calls on a cube. */
    interface Act {
        void on(Cubecaller x);
    }

    static final Class<? extends RuntimeException> INDEX = IndexOutOfBoundsException.class;
    static final Class<? extends RuntimeException> ARGUMENT = IllegalArgumentException.class;
    static final Class<? extends RuntimeException> STATE = IllegalStateException.class;

    private static int wrong = 0;
    private static int checks = 0;

    private Check() {
    }

    static void due(String what, long got, long want) {
        checks++;
        if (got != want) {
            wrong++;
            System.out.println(what + ": answered " + got + ", due is " + want);
        }
    }

    static void due(String what, boolean got, boolean want) {
        due(what, got ? 1 : 0, want ? 1 : 0);
    }

    /** The call throws just this, and the cube then answers as one on which it was not made. */
    static void refuses(String what, Class<? extends RuntimeException> want, Act build, Act call) {
        Cubecaller x = new Cubecaller();
        Cubecaller untouched = new Cubecaller();
        build.on(x);
        build.on(untouched);
        checks++;
        Class<?> got = thrown(x, call);
        if (got != want) {
            wrong++;
            System.out.println(what + ": threw " + name(got) + ", due is " + name(want));
            return;
        }
        List<String> left = answers(x);
        List<String> right = answers(untouched);
        for (int i = 0; i < left.size() && i < right.size(); i++) {
            if (!left.get(i).equals(right.get(i))) {
                wrong++;
                System.out.println(what + " changed something: " + left.get(i) + ", due is " + right.get(i));
                return;
            }
        }
        due(what + ": answers after it", left.size(), right.size());
    }

    static void end(String test) {
        System.out.println(test + ": " + checks + " checks, " + wrong + " wrong");
        if (wrong > 0) {
            System.exit(1);
        }
    }

    private static Class<?> thrown(Cubecaller x, Act call) {
        try {
            call.on(x);
            return null;
        } catch (RuntimeException e) {
            return e.getClass();
        }
    }

    private static String name(Class<?> type) {
        return type == null ? "nothing" : type.getSimpleName();
    }

    /** What can be seen of a cube; it is spent by that, as some is seen only by changing it. */
    private static List<String> answers(Cubecaller x) {
        List<String> all = new ArrayList<>();
        all.add("facts " + x.facts() + ", kept " + x.kept() + ", hits " + x.hits());
        addPicked(x, all);
        addMembers(x, all);
        addCells(x, all);
        addSettings(x, all);
        return all;
    }

    private static void addPicked(Cubecaller x, List<String> all) {
        for (int d = 0; d < 3; d++) {
            for (int i = 0; i < 3; i++) {
                all.add("picked " + d + " " + i + " is " + x.picked(d, i));
            }
        }
    }

    private static void addMembers(Cubecaller x, List<String> all) {
        for (int d = 0; d < 3; d++) {
            for (int i = 0; i < members(x, d); i++) {
                for (int what = 0; what < 5 && i < 6; what++) {
                    all.add("member " + d + " " + i + " " + what + " is " + x.memberAt(d, i, what));
                }
            }
        }
    }

    private static int members(Cubecaller x, int d) {
        int count = 0;
        while (count < 12) {
            int member = count;
            if (thrown(x, y -> y.memberAt(d, member, 0)) != null) {
                return count;
            }
            count++;
        }
        return count;
    }

    /** The cells of the first members, and which of them are hits. */
    private static void addCells(Cubecaller x, List<String> all) {
        for (int m = 0; m < 4; m++) {
            for (int t = 0; t < 3; t++) {
                for (int i = 0; i < 5; i++) {
                    int time = t;
                    int one = i;
                    int measure = m;
                    long[] got = new long[1];
                    Class<?> threw = thrown(x, y -> got[0] = y.cell(time, one, 0, measure));
                    all.add("cell " + t + " " + i + " 0 " + m + " is " + got[0] + " or " + name(threw));
                    all.add("hits " + x.hits());
                }
            }
        }
    }

    private static void addSettings(Cubecaller x, List<String> all) {
        for (int d = 0; d < 3; d++) {
            all.add("at " + d + " " + x.at(d, 0));
        }
        all.add("asNow " + x.asNow(false) + ", totals " + x.totals(false));
        all.add("begin throws " + name(thrown(x, Cubecaller::begin)));
        int[] words = new int[1];
        Class<?> threw = thrown(x, y -> words[0] = y.word(Cubecaller.PLUS, 0, 0));
        all.add("word " + words[0] + " or " + name(threw));
        threw = thrown(x, y -> words[0] = y.word(Cubecaller.NUMBER, 0, 0));
        all.add("word " + words[0] + " or " + name(threw));
        for (int m = 0; m < 4; m++) {
            int measure = m;
            for (int d = 0; d < 3; d++) {
                int dimension = d;
                threw = thrown(x, y -> words[0] = y.from(measure, dimension, 0));
                all.add("from " + m + " " + d + " " + words[0] + " or " + name(threw));
            }
        }
        threw = thrown(x, y -> words[0] = y.measure(Cubecaller.SUM, 0, 0));
        all.add("measure " + words[0] + " or " + name(threw));
    }
}
