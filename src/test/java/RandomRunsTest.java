import java.util.ArrayList;
import java.util.List;
import java.util.Map;
import java.util.Random;
import java.util.TreeMap;
import java.util.function.LongSupplier;

/** Runs of 512 calls by chance, each answer against that of the Model; the seeds are always the same. */
public final class RandomRunsTest {
    private static final int CALLS = 512;
    private static final int[] ODD = {-1, 12, 13, Integer.MIN_VALUE, Integer.MAX_VALUE, 100, -7};

    private final Random random;
    private final Cubecaller real = new Cubecaller();
    private final Model model = new Model();
    private final List<String> history = new ArrayList<>();
    private final Map<String, Integer> outcomes;
    // 0 any, 1 numbers that are small and alike, 2 many formulas, 3 few members and many facts.
    private final int style;
    private int formed;
    private int height;
    private int words;
    private String call;
    private LongSupplier asReal;
    private LongSupplier asModel;

    private RandomRunsTest(long seed, Map<String, Integer> outcomes) {
        // Random gives near seeds the same first numbers.
        this.random = new Random(seed * 0x9E3779B97F4A7C15L);
        this.style = (int) (seed % 4);
        this.outcomes = outcomes;
    }

    public static void main(String[] args) {
        int runs = args.length > 0 ? Integer.parseInt(args[0]) : 2000;
        long first = args.length > 1 ? Long.parseLong(args[1]) : 1;
        Map<String, Integer> outcomes = new TreeMap<>();
        for (long seed = first; seed < first + runs; seed++) {
            if (!new RandomRunsTest(seed, outcomes).run()) {
                System.out.println("seed " + seed);
                System.exit(1);
            }
        }
        if (args.length > 2) {
            outcomes.forEach((what, often) -> System.out.println(often + " " + what));
        }
        System.out.println(runs + " runs by chance are as the model tells");
    }

    private boolean run() {
        for (int i = 0; i < CALLS; i++) {
            choose(i);
            String got = answer(asReal);
            String want = answer(asModel);
            history.add(call + " = " + want);
            String name = call.substring(0, call.indexOf('('));
            boolean number = want.matches("-?\\d+");
            if (number) {
                follow(name);
            }
            outcomes.merge(name + " " + (number ? want.equals("" + Model.MISSING) ? "missing" : "answer" : want), 1, Integer::sum);
            if (!got.equals(want)) {
                history.forEach(System.out::println);
                System.out.println("call " + i + ": " + call + " answered " + got + ", due is " + want);
                return false;
            }
        }
        return true;
    }

    /** Follows the pile of the draft, so that formulas come to an end. */
    private void follow(String name) {
        if (name.equals("calculate")) {
            height = 0;
            words = 0;
            formed = random.nextInt(3);
        } else if (name.equals("word")) {
            words++;
            height += call.matches("word\\([012],.*") ? 1 : -1;
        }
    }

    private static String answer(LongSupplier call) {
        try {
            return "" + call.getAsLong();
        } catch (RuntimeException e) {
            return e.getClass().getSimpleName();
        }
    }

    private int member(int dimension) {
        if (random.nextInt(60) == 0 || dimension < 0 || dimension > 2) {
            return ODD[random.nextInt(ODD.length)];
        }
        int members = 0;
        while (members < 12 && isMember(dimension, members)) {
            members++;
        }
        return random.nextInt(80) == 0 ? members : random.nextInt(members);
    }

    private boolean isMember(int dimension, int member) {
        try {
            model.memberAt(dimension, member, 0);
            return true;
        } catch (IndexOutOfBoundsException e) {
            return false;
        }
    }

    /** Mostly a PLAIN one. */
    private int plain(int dimension) {
        int member = member(dimension);
        for (int i = 0; i < 8 && dimension >= 0 && dimension <= 2 && member >= 0 && member < 12; i++) {
            if (!isMember(dimension, member) || model.memberAt(dimension, member, 0) == 0) {
                return member;
            }
            member = member(dimension);
        }
        return member;
    }

    private int dimension() {
        return random.nextInt(80) == 0 ? ODD[random.nextInt(ODD.length)] : random.nextInt(random.nextInt(50) == 0 ? 4 : 3);
    }

    private int measure() {
        if (random.nextInt(60) == 0) {
            return random.nextBoolean() ? ODD[random.nextInt(ODD.length)] : 4;
        }
        return random.nextInt(4);
    }

    private int range(int least, int most) {
        if (random.nextInt(40) == 0) {
            int[] out = {least - 1, most + 1, Integer.MIN_VALUE, Integer.MAX_VALUE};
            return out[random.nextInt(4)];
        }
        int kind = random.nextInt(8);
        return kind == 0 ? least : kind == 1 ? most : least + random.nextInt(most - least + 1);
    }

    private int number() {
        if (style == 1) {
            return random.nextInt(20) == 0 ? range(-1000000, 1000000) : range(-3, 9);
        }
        return random.nextInt(3) == 0 ? range(-1000000, 1000000) : range(-20, 200);
    }

    private void choose(int step) {
        int what = random.nextInt(step < (style == 3 ? 12 : 40) ? 60 : 200);
        if (step == 0 || step == 1) {
            what = 19;
        } else if (style == 2 && step > 12 && step < 300 && random.nextInt(3) > 0) {
            what = 20;
            formed = isMember(formed, 11) ? random.nextInt(3) : formed;
        } else if (style == 2 && what < 8 && step > 12) {
            what = 140;
        } else if (style == 3 && random.nextInt(3) == 0) {
            what = 44 + random.nextInt(46);
        } else if (style == 3 && what < 6 && step > 12) {
            what = 130;
        }
        if (what < 14) {
            chooseMembers(what);
        } else if (what < 20) {
            chooseMeasures(what);
        } else if (what < 44) {
            chooseFormulas(what);
        } else if (what < 90) {
            chooseFacts(what);
        } else if (what < 130) {
            chooseSets(what);
        } else {
            chooseCells();
        }
    }

    private void chooseMembers(int what) {
        int d = dimension();
        int m = plain(d);
        if (what < 6) {
            int sign = random.nextInt(3) > 0 ? 1 : range(-1, 1);
            set("member(" + d + ", " + m + ", " + sign + ")", () -> real.member(d, m, sign), () -> model.member(d, m, sign));
        } else if (what < 8) {
            int bits = random.nextInt(30) == 0 ? random.nextInt(5000) - 400 : 0;
            for (int i = random.nextInt(5); bits == 0 || i > 0; i--) {
                int one = plain(d);
                bits |= one >= 0 && one < 13 ? 1 << one : bits == 0 ? 1 : 0;
            }
            int members = bits;
            set("bridge(" + d + ", " + members + ")", () -> real.bridge(d, members), () -> model.bridge(d, members));
        } else if (what < 10) {
            int e = random.nextInt(20) == 0 ? d : 1 + random.nextInt(2);
            int moved = plain(e);
            int any = plain(e);
            int to = random.nextInt(8) == 0 || moved <= 0 ? any : random.nextInt(moved);
            int time = plain(0);
            set("move(" + e + ", " + moved + ", " + to + ", " + time + ")",
                    () -> real.move(e, moved, to, time), () -> model.move(e, moved, to, time));
        } else if (what < 11) {
            boolean now = random.nextInt(3) == 0;
            set("asNow(" + now + ")", () -> real.asNow(now) ? 1 : 0, () -> model.asNow(now) ? 1 : 0);
        } else if (what < 13) {
            boolean is = random.nextInt(4) == 0;
            int any = member(d);
            set("hide(" + d + ", " + any + ", " + is + ")", () -> real.hide(d, any, is) ? 1 : 0, () -> model.hide(d, any, is) ? 1 : 0);
        } else {
            boolean leave = random.nextInt(3) == 0;
            set("totals(" + leave + ")", () -> real.totals(leave) ? 1 : 0, () -> model.totals(leave) ? 1 : 0);
        }
    }

    private void chooseMeasures(int what) {
        int m = measure();
        if (what < 16) {
            int d = dimension();
            int depth = random.nextInt(3) == 0 ? range(0, 11) : random.nextInt(3);
            set("from(" + m + ", " + d + ", " + depth + ")", () -> real.from(m, d, depth), () -> model.from(m, d, depth));
        } else {
            int kind = random.nextInt(30) == 0 ? range(0, 3) : random.nextInt(4);
            int second = random.nextInt(3) == 0 ? measure() : random.nextInt(2);
            int first = random.nextInt(3) == 0 ? m : random.nextInt(2);
            set("measure(" + kind + ", " + first + ", " + second + ")",
                    () -> real.measure(kind, first, second), () -> model.measure(kind, first, second));
        }
    }

    private void chooseFormulas(int what) {
        boolean ready = height == 1 && words > 1;
        // A draft of ten words that leaves two on the pile would stay for ever.
        boolean room = words + height < 10;
        if (what == 20 ? !ready || room && random.nextInt(2) == 0 : what < 30) {
            boolean push = room && (height < 2 || random.nextInt(2) == 0);
            int word = random.nextInt(200) == 0 ? range(0, 6) : push ? (3 + random.nextInt(7)) / 4 : 3 + random.nextInt(4);
            int of = random.nextInt(20) == 0 ? random.nextInt(3) : formed;
            int first = word == 0 ? random.nextInt(2) == 0 ? number() : range(-5, 5) : member(of);
            int second = random.nextInt(3) == 0 ? 0 : random.nextInt(8) == 0 ? range(0, 11) : random.nextInt(3);
            set("word(" + word + ", " + first + ", " + second + ")",
                    () -> real.word(word, first, second), () -> model.word(word, first, second));
        } else {
            int d = what == 20 ? formed : dimension();
            int order = random.nextInt(3) == 0 ? range(0, 100) : random.nextInt(3);
            set("calculate(" + d + ", " + order + ")", () -> real.calculate(d, order), () -> model.calculate(d, order));
        }
    }

    private void chooseFacts(int what) {
        boolean any = what >= 72 && what < 84;
        int t = any ? member(0) : plain(0);
        int o = any ? member(1) : plain(1);
        int w = any ? member(2) : plain(2);
        int m = measure();
        String cell = t + ", " + o + ", " + w + ", " + m;
        int value = number();
        if (what < 68) {
            set("fact(" + cell + ", " + value + ")", () -> real.fact(t, o, w, m, value), () -> model.fact(t, o, w, m, value));
        } else if (what < 72) {
            set("forget(" + cell + ")", () -> real.forget(t, o, w, m), () -> model.forget(t, o, w, m));
        } else if (what < 84) {
            int how = random.nextInt(30) == 0 ? range(0, 2) : random.nextInt(3);
            int positive = random.nextInt(30) == 0 ? value : value < 0 ? -value : value;
            set("write(" + cell + ", " + positive + ", " + how + ")",
                    () -> real.write(t, o, w, m, positive, how), () -> model.write(t, o, w, m, positive, how));
        } else if (what < 86) {
            set("begin()", () -> { real.begin(); return 0; }, () -> { model.begin(); return 0; });
        } else if (what < 88) {
            boolean keep = random.nextBoolean();
            set("end(" + keep + ")", () -> real.end(keep), () -> model.end(keep));
        } else {
            set("facts()", real::facts, model::facts);
        }
    }

    private void chooseSets(int what) {
        int d = dimension();
        int e = dimension();
        int m = measure();
        int member = plain(d);
        if (what < 94) {
            int any = member(d);
            set("at(" + d + ", " + any + ")", () -> real.at(d, any), () -> model.at(d, any));
        } else if (what < 106) {
            int kind = random.nextInt(40) == 0 ? range(0, 2) : random.nextInt(3);
            int asked = kind == 2 && random.nextInt(4) > 0 ? random.nextInt(4) : member;
            int top = random.nextInt(3) == 0 ? 0 : range(0, 12);
            set("pick(" + d + ", " + kind + ", " + asked + ", " + m + ", " + top + ")",
                    () -> real.pick(d, kind, asked, m, top), () -> model.pick(d, kind, asked, m, top));
        } else if (what < 116) {
            int place = range(0, 6);
            set("picked(" + d + ", " + place + ")", () -> real.picked(d, place), () -> model.picked(d, place));
        } else if (what < 122) {
            set("cross(" + d + ", " + e + ", " + m + ")", () -> real.cross(d, e, m), () -> model.cross(d, e, m));
        } else {
            int any = member(d);
            int asked = range(0, 4);
            set("memberAt(" + d + ", " + any + ", " + asked + ")",
                    () -> real.memberAt(d, any, asked), () -> model.memberAt(d, any, asked));
        }
    }

    private void chooseCells() {
        int what = random.nextInt(20);
        int t = member(0);
        int o = random.nextInt(3) == 0 ? 0 : member(1);
        int w = random.nextInt(3) > 0 ? 0 : member(2);
        int m = measure();
        String cell = "(" + t + ", " + o + ", " + w + ", " + m + ")";
        if (what < 14) {
            set("cell" + cell, () -> real.cell(t, o, w, m), () -> model.cell(t, o, w, m));
        } else if (what < 16) {
            set("cellAnew" + cell, () -> real.cellAnew(t, o, w, m), () -> model.cellAnew(t, o, w, m));
        } else if (what < 18) {
            set("kept()", real::kept, model::kept);
        } else {
            set("hits()", real::hits, model::hits);
        }
    }

    private void set(String text, LongSupplier ofReal, LongSupplier ofModel) {
        call = text;
        asReal = ofReal;
        asModel = ofModel;
    }
}
