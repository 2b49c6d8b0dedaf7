import java.math.BigInteger;
import java.util.ArrayList;
import java.util.HashMap;
import java.util.HashSet;
import java.util.Iterator;
import java.util.LinkedHashMap;
import java.util.List;
import java.util.Map;
import java.util.Set;

/** The document's words, gone through as slowly as they read: nothing is remembered but what was told. */
final class Model {
    static final long MISSING = Long.MIN_VALUE;
    private static final BigInteger BOUND = BigInteger.TEN.pow(12);

    private static final class Member {
        int kind;
        int parent = -1;
        int sign;
        int order;
        boolean hidden;
        List<Integer> standsFor = new ArrayList<>();
        List<int[]> words = new ArrayList<>();
    }

    private record Move(int dimension, int member, int parent, int time) { }

    private record Cell(int time, int one, int two, int measure) {
        int member(int dimension) {
            return dimension == 0 ? time : dimension == 1 ? one : two;
        }

        Cell with(int dimension, int member) {
            return new Cell(dimension == 0 ? member : time, dimension == 1 ? member : one,
                    dimension == 2 ? member : two, measure);
        }

        Cell of(int other) {
            return new Cell(time, one, two, other);
        }
    }

    private record Measure(int kind, int first, int second, int[] from) { }

    private final List<List<Member>> dimensions = new ArrayList<>();
    private final List<Move> moves = new ArrayList<>();
    private final List<Measure> measures = new ArrayList<>();
    private LinkedHashMap<Cell, Integer> facts = new LinkedHashMap<>();
    private LinkedHashMap<Cell, Integer> begun = null;
    private final LinkedHashMap<Cell, Long> kept = new LinkedHashMap<>();
    private List<int[]> draft = new ArrayList<>();
    private final int[] at = new int[3];
    private final List<List<Integer>> picked = new ArrayList<>();
    private boolean asNow;
    private boolean leave;
    private int hits;

    Model() {
        for (int i = 0; i < 3; i++) {
            List<Member> members = new ArrayList<>();
            members.add(new Member());
            dimensions.add(members);
            picked.add(new ArrayList<>());
        }
    }

    // ---- exceptions

    private static void index(boolean wrong) {
        if (wrong) {
            throw new IndexOutOfBoundsException();
        }
    }

    private static void argument(boolean wrong) {
        if (wrong) {
            throw new IllegalArgumentException();
        }
    }

    private static void state(boolean wrong) {
        if (wrong) {
            throw new IllegalStateException();
        }
    }

    private static boolean out(int value, int least, int most) {
        return value < least || value > most;
    }

    private boolean noDimension(int dimension) {
        return out(dimension, 0, 2);
    }

    private boolean noMember(int dimension, int member) {
        return noDimension(dimension) || out(member, 0, dimensions.get(dimension).size() - 1);
    }

    private boolean noMeasure(int measure) {
        return out(measure, 0, measures.size() - 1);
    }

    private Member get(int dimension, int member) {
        return dimensions.get(dimension).get(member);
    }

    private boolean plain(int dimension, int member) {
        return get(dimension, member).kind == 0;
    }

    private boolean full(int dimension) {
        return dimensions.get(dimension).size() == 12;
    }

    // ---- members

    int member(int dimension, int parent, int sign) {
        index(noMember(dimension, parent));
        argument(out(sign, -1, 1));
        state(!plain(dimension, parent) || full(dimension));
        Member made = new Member();
        made.parent = parent;
        made.sign = sign;
        return add(dimension, made);
    }

    private int add(int dimension, Member made) {
        dimensions.get(dimension).add(made);
        kept.clear();
        return dimensions.get(dimension).size() - 1;
    }

    int bridge(int dimension, int members) {
        index(noDimension(dimension));
        Member made = new Member();
        made.kind = 1;
        if (!out(members, 1, 4095)) {
            for (int i = 0; i < 12; i++) {
                if ((members & (1 << i)) != 0) {
                    index(noMember(dimension, i));
                    made.standsFor.add(i);
                }
            }
        }
        argument(out(members, 1, 4095));
        for (int i : made.standsFor) {
            state(!plain(dimension, i));
        }
        state(made.standsFor.size() > 5 || full(dimension));
        return add(dimension, made);
    }

    int move(int dimension, int member, int parent, int time) {
        index(noDimension(dimension) || dimension == 0 || noMember(dimension, member) || member == 0);
        index(noMember(dimension, parent) || noMember(0, time));
        state(!plain(dimension, member) || !plain(dimension, parent) || !plain(0, time));
        state(parent >= member || moves.size() == 10);
        int before = parentAsNow(dimension, member);
        moves.add(new Move(dimension, member, parent, time));
        kept.clear();
        return before;
    }

    boolean asNow(boolean to) {
        boolean before = asNow;
        asNow = to;
        kept.clear();
        return before;
    }

    /** Members of time in the order in which one comes to them from the member 0. */
    private List<Integer> timeOrder() {
        List<Integer> order = new ArrayList<>();
        visit(0, order);
        return order;
    }

    private void visit(int member, List<Integer> order) {
        order.add(member);
        for (int i = 0; i < dimensions.get(0).size(); i++) {
            if (plain(0, i) && get(0, i).parent == member) {
                visit(i, order);
            }
        }
    }

    private int parentThen(int dimension, int member, int time) {
        return parentAt(dimension, member, timeOrder().indexOf(time));
    }

    private int parentAsNow(int dimension, int member) {
        return parentAt(dimension, member, 1000);
    }

    private int parentAt(int dimension, int member, int place) {
        if (member == 0 || !plain(dimension, member)) {
            return -1;
        }
        List<Integer> order = timeOrder();
        Move best = null;
        for (Move m : moves) {
            if (m.dimension == dimension && m.member == member && order.indexOf(m.time) <= place) {
                if (best == null || order.indexOf(m.time) >= order.indexOf(best.time)) {
                    best = m;
                }
            }
        }
        return best == null ? get(dimension, member).parent : best.parent;
    }

    private int depth(int dimension, int member) {
        return member == 0 ? 0 : 1 + depth(dimension, parentAsNow(dimension, member));
    }

    private boolean seen(int dimension, int member) {
        Member m = get(dimension, member);
        if (m.kind == 0) {
            return !m.hidden && (member == 0 || seen(dimension, parentAsNow(dimension, member)));
        }
        for (int i : m.standsFor) {
            if (!seen(dimension, i)) {
                return false;
            }
        }
        return true;
    }

    /** The weight of a PLAIN member in one over it; null if it is not below that. */
    private Integer weight(int dimension, int member, int over, int time, boolean now) {
        Member top = get(dimension, over);
        if (top.kind == 2) {
            return null;
        }
        if (top.kind == 1) {
            for (int i : top.standsFor) {
                Integer weight = weight(dimension, member, i, time, now);
                if (weight != null) {
                    return weight;
                }
            }
            return null;
        }
        if (member == over) {
            return 1;
        }
        int parent = now ? parentAsNow(dimension, member) : parentThen(dimension, member, time);
        Integer above = parent < 0 ? null : weight(dimension, parent, over, time, now);
        return above == null ? null : (Integer) (above * get(dimension, member).sign);
    }

    int memberAt(int dimension, int member, int what) {
        index(noMember(dimension, member));
        argument(out(what, 0, 4));
        boolean plain = plain(dimension, member);
        switch (what) {
            case 0: return get(dimension, member).kind;
            case 1: return parentAsNow(dimension, member);
            case 2: return plain ? depth(dimension, member) : -1;
            case 3: return dimension == 0 && plain ? timeOrder().indexOf(member) : -1;
            default: return seen(dimension, member) ? 1 : 0;
        }
    }

    int word(int what, int one, int two) {
        argument(out(what, 0, 6));
        argument(what == 0 && out(one, -1000000, 1000000));
        argument((what == 1 || what == 2) && out(one, 0, 11));
        argument(what == 1 && out(two, 0, 11));
        state(draft.size() == 10 || what > 2 && height() < 2);
        draft.add(new int[] {what, one, two});
        return draft.size();
    }

    private int height() {
        int height = 0;
        for (int[] word : draft) {
            height += word[0] <= 2 ? 1 : -1;
        }
        return height;
    }

    int calculate(int dimension, int order) {
        index(noDimension(dimension));
        argument(out(order, 0, 100));
        state(height() != 1 || full(dimension));
        for (int[] word : draft) {
            state((word[0] == 1 || word[0] == 2) && noMember(dimension, word[1]));
        }
        Member made = new Member();
        made.kind = 2;
        made.order = order;
        made.words = draft;
        draft = new ArrayList<>();
        return add(dimension, made);
    }

    boolean hide(int dimension, int member, boolean is) {
        index(noMember(dimension, member) || member == 0);
        state(!plain(dimension, member));
        boolean before = get(dimension, member).hidden;
        get(dimension, member).hidden = is;
        kept.clear();
        return before;
    }

    boolean totals(boolean to) {
        boolean before = leave;
        leave = to;
        kept.clear();
        return before;
    }

    // ---- measures, facts

    int measure(int kind, int first, int second) {
        index(kind == 3 && (noMeasure(first) || noMeasure(second)));
        argument(out(kind, 0, 3));
        state(measures.size() == 4);
        measures.add(new Measure(kind, first, second, new int[3]));
        kept.clear();
        return measures.size() - 1;
    }

    int from(int measure, int dimension, int depth) {
        index(noMeasure(measure) || noDimension(dimension));
        argument(out(depth, 0, 11));
        int before = measures.get(measure).from[dimension];
        measures.get(measure).from[dimension] = depth;
        kept.clear();
        return before;
    }

    private Cell need(int time, int one, int two, int measure) {
        index(noMember(0, time) || noMember(1, one) || noMember(2, two) || noMeasure(measure));
        return new Cell(time, one, two, measure);
    }

    private boolean allPlain(Cell cell) {
        return plain(0, cell.time) && plain(1, cell.one) && plain(2, cell.two);
    }

    int fact(int time, int one, int two, int measure, int value) {
        Cell cell = need(time, one, two, measure);
        argument(out(value, -1000000, 1000000));
        state(!allPlain(cell) || measures.get(measure).kind == 3);
        state(!facts.containsKey(cell) && facts.size() == 50);
        put(cell, value);
        return facts.size();
    }

    private boolean put(Cell cell, int value) {
        Integer before = facts.put(cell, value);
        if (before != null && before == value) {
            return false;
        }
        drop(cell);
        return true;
    }

    int forget(int time, int one, int two, int measure) {
        Cell cell = need(time, one, two, measure);
        state(!facts.containsKey(cell));
        int number = facts.remove(cell);
        drop(cell);
        return number;
    }

    // ---- cells

    private int weight(Cell fact, Cell cell) {
        if (leave && !allSeen(fact)) {
            return 0;
        }
        int weight = 1;
        for (int i = 0; i < 3; i++) {
            Integer one = weight(i, fact.member(i), cell.member(i), fact.time, asNow);
            weight *= one == null ? 0 : one;
        }
        return weight;
    }

    private boolean needs(int measure, int other) {
        Measure m = measures.get(measure);
        return measure == other || m.kind == 3 && (needs(m.first, other) || needs(m.second, other));
    }

    private boolean calculated(Cell cell) {
        return get(0, cell.time).kind == 2 || get(1, cell.one).kind == 2 || get(2, cell.two).kind == 2;
    }

    private void drop(Cell fact) {
        Iterator<Cell> all = kept.keySet().iterator();
        while (all.hasNext()) {
            Cell cell = all.next();
            if (calculated(cell) || needs(cell.measure, fact.measure) && weight(fact, cell) != 0) {
                all.remove();
            }
        }
    }

    private boolean allSeen(Cell cell) {
        return seen(0, cell.time) && seen(1, cell.one) && seen(2, cell.two);
    }

    private static long keep(BigInteger value) {
        return value.max(BOUND.negate()).min(BOUND).longValueExact();
    }

    private List<Cell> counting(Cell cell) {
        List<Cell> counting = new ArrayList<>();
        for (Cell fact : facts.keySet()) {
            if (fact.measure == cell.measure && weight(fact, cell) != 0) {
                counting.add(fact);
            }
        }
        return counting;
    }

    private long plainValue(Cell cell) {
        Measure measure = measures.get(cell.measure);
        if (measure.kind == 3) {
            return join(6, plainValue(cell.of(measure.first)), plainValue(cell.of(measure.second)));
        }
        List<Cell> counting = counting(cell);
        if (counting.isEmpty()) {
            return MISSING;
        }
        if (measure.kind == 2) {
            Set<Integer> numbers = new HashSet<>();
            for (Cell fact : counting) {
                numbers.add(facts.get(fact));
            }
            return numbers.size();
        }
        List<Integer> order = timeOrder();
        int last = -1;
        for (Cell fact : counting) {
            last = Math.max(last, order.indexOf(fact.time));
        }
        long sum = 0;
        for (Cell fact : counting) {
            if (measure.kind == 0 || order.indexOf(fact.time) == last) {
                sum += (long) weight(fact, cell) * facts.get(fact);
            }
        }
        return sum;
    }

    private static long join(int what, long lower, long upper) {
        BigInteger one = BigInteger.valueOf(lower == MISSING ? 0 : lower);
        BigInteger two = BigInteger.valueOf(upper == MISSING ? 0 : upper);
        boolean both = lower != MISSING && upper != MISSING;
        boolean neither = lower == MISSING && upper == MISSING;
        switch (what) {
            case 3: return neither ? MISSING : keep(one.add(two));
            case 4: return neither ? MISSING : keep(one.subtract(two));
            case 5: return both ? keep(one.multiply(two)) : MISSING;
            default:
                return both && upper != 0 ? keep(one.multiply(BigInteger.valueOf(1000)).divide(two)) : MISSING;
        }
    }

    private long value(Cell cell, Map<Cell, Long> known) {
        Long before = known.get(cell);
        if (before == null) {
            before = reckon(cell, known);
            known.put(cell, before);
        }
        return before;
    }

    private long reckon(Cell cell, Map<Cell, Long> known) {
        int leading = -1;
        for (int i = 2; i >= 0; i--) {
            Member m = get(i, cell.member(i));
            if (m.kind == 2 && (leading < 0 || m.order > get(leading, cell.member(leading)).order)) {
                leading = i;
            }
        }
        if (leading < 0) {
            for (int i = 0; i < 3; i++) {
                if (plain(i, cell.member(i)) && depth(i, cell.member(i)) < measures.get(cell.measure).from[i]) {
                    return MISSING;
                }
            }
            return plainValue(cell);
        }
        List<Long> pile = new ArrayList<>();
        for (int[] word : get(leading, cell.member(leading)).words) {
            if (word[0] == 0) {
                pile.add((long) word[1]);
            } else if (word[0] == 1) {
                pile.add(look(cell.with(leading, word[1]), word[2], known));
            } else if (word[0] == 2) {
                pile.add(date(cell.with(leading, word[1]), known));
            } else {
                long upper = pile.remove(pile.size() - 1);
                long lower = pile.remove(pile.size() - 1);
                pile.add(join(word[0], lower, upper));
            }
        }
        return pile.get(0);
    }

    private long look(Cell there, int steps, Map<Cell, Long> known) {
        if (steps == 0) {
            return value(there, known);
        }
        if (!plain(0, there.time)) {
            return MISSING;
        }
        List<Integer> level = new ArrayList<>();
        for (int member : timeOrder()) {
            if (depth(0, member) == depth(0, there.time)) {
                level.add(member);
            }
        }
        int place = level.indexOf(there.time) - steps;
        return place < 0 ? MISSING : value(there.with(0, level.get(place)), known);
    }

    private long date(Cell there, Map<Cell, Long> known) {
        if (!plain(0, there.time)) {
            return MISSING;
        }
        if (there.time == 0) {
            return value(there, known);
        }
        long added = MISSING;
        for (int i = 1; i <= there.time; i++) {
            if (plain(0, i) && get(0, i).parent == get(0, there.time).parent) {
                added = join(3, added, value(there.with(0, i), known));
            }
        }
        return added;
    }

    private long asAsked(Cell cell) {
        return allSeen(cell) ? value(cell, new HashMap<>()) : MISSING;
    }

    long cell(int time, int one, int two, int measure) {
        Cell cell = need(time, one, two, measure);
        if (!allSeen(cell)) {
            return MISSING;
        }
        if (kept.containsKey(cell)) {
            hits++;
            return kept.get(cell);
        }
        kept.put(cell, asAsked(cell));
        if (kept.size() > 20) {
            kept.remove(kept.keySet().iterator().next());
        }
        return kept.get(cell);
    }

    long cellAnew(int time, int one, int two, int measure) {
        return asAsked(need(time, one, two, measure));
    }

    int kept() {
        return kept.size();
    }

    int hits() {
        return hits;
    }

    // ---- sets

    int at(int dimension, int member) {
        index(noMember(dimension, member));
        int before = at[dimension];
        at[dimension] = member;
        return before;
    }

    int pick(int dimension, int kind, int member, int measure, int top) {
        index(noDimension(dimension) || kind != 2 && noMember(dimension, member) || top != 0 && noMeasure(measure));
        argument(out(kind, 0, 2) || out(top, 0, 12) || kind == 2 && out(member, 0, 11));
        state(kind != 2 && !plain(dimension, member));
        List<Integer> found = new ArrayList<>();
        Set<Integer> somebodysParents = new HashSet<>();
        for (int i = 0; i < dimensions.get(dimension).size(); i++) {
            somebodysParents.add(parentAsNow(dimension, i));
        }
        for (int i = 0; i < dimensions.get(dimension).size(); i++) {
            if (!plain(dimension, i) || !seen(dimension, i)) {
                continue;
            }
            boolean child = parentAsNow(dimension, i) == member;
            boolean leaf = !somebodysParents.contains(i);
            if (kind == 0 && child || kind == 2 && depth(dimension, i) == member
                    || kind == 1 && leaf && weight(dimension, i, member, 0, true) != null) {
                found.add(i);
            }
        }
        if (top != 0) {
            Map<Integer, Long> values = new HashMap<>();
            for (int i : found) {
                values.put(i, asAsked(new Cell(at[0], at[1], at[2], measure).with(dimension, i)));
            }
            found.removeIf(i -> values.get(i) == MISSING);
            found.sort((a, b) -> values.get(a).equals(values.get(b)) ? a - b : Long.compare(values.get(b), values.get(a)));
            found = new ArrayList<>(found.subList(0, Math.min(top, found.size())));
        }
        picked.set(dimension, found);
        return found.size();
    }

    int picked(int dimension, int place) {
        index(noDimension(dimension) || place < 0);
        return place < picked.get(dimension).size() ? picked.get(dimension).get(place) : -1;
    }

    int cross(int dimension, int other, int measure) {
        index(noDimension(dimension) || noDimension(other) || noMeasure(measure));
        argument(dimension == other);
        int pairs = 0;
        for (int i : picked.get(dimension)) {
            for (int j : picked.get(other)) {
                Cell cell = new Cell(at[0], at[1], at[2], measure).with(dimension, i).with(other, j);
                pairs += asAsked(cell) == MISSING ? 0 : 1;
            }
        }
        return pairs;
    }

    // ---- writing, sessions

    int write(int time, int one, int two, int measure, int value, int how) {
        Cell cell = need(time, one, two, measure);
        argument(out(value, 0, 1000000) || out(how, 0, 2));
        state(measures.get(measure).kind != 0 || !allSeen(cell) || calculated(cell));
        List<Cell> counting = counting(cell);
        if (counting.isEmpty()) {
            state(!allPlain(cell) || facts.size() == 50);
            put(cell, value);
            return 1;
        }
        for (Cell fact : counting) {
            state(weight(fact, cell) != 1);
        }
        List<Long> shares = shares(counting, value, how);
        for (long share : shares) {
            state(share < -1000000 || share > 1000000);
        }
        int changed = 0;
        for (int i = 0; i < shares.size(); i++) {
            changed += put(counting.get(i), shares.get(i).intValue()) ? 1 : 0;
        }
        return changed;
    }

    private List<Long> shares(List<Cell> counting, int value, int how) {
        int size = counting.size();
        long all = 0;
        boolean below = false;
        for (Cell fact : counting) {
            all += facts.get(fact);
            below |= facts.get(fact) < 0;
        }
        List<Long> shares = new ArrayList<>();
        if (how == 2) {
            for (Cell fact : counting) {
                shares.add((long) facts.get(fact));
            }
            shares.set(0, value - (all - shares.get(0)));
            return shares;
        }
        if (how == 0 || below || all <= 0) {
            for (int i = 0; i < size; i++) {
                shares.add((long) (value / size));
            }
            for (int i = 0; i < value - value / size * size; i++) {
                shares.set(i, shares.get(i) + 1);
            }
            return shares;
        }
        List<Integer> byRemainder = new ArrayList<>();
        long left = value;
        for (int i = 0; i < size; i++) {
            shares.add((long) value * facts.get(counting.get(i)) / all);
            left -= shares.get(i);
            byRemainder.add(i);
        }
        final long sum = all;
        byRemainder.sort((a, b) -> Long.compare((long) value * facts.get(counting.get(b)) % sum,
                (long) value * facts.get(counting.get(a)) % sum));
        for (int i = 0; i < left; i++) {
            int place = byRemainder.get(i);
            shares.set(place, shares.get(place) + 1);
        }
        return shares;
    }

    void begin() {
        state(begun != null);
        begun = new LinkedHashMap<>(facts);
    }

    int end(boolean keep) {
        state(begun == null);
        if (!keep) {
            facts = begun;
            kept.clear();
        }
        begun = null;
        return facts.size();
    }

    int facts() {
        return facts.size();
    }
}
