import java.util.Arrays;

/** A language of cubes: members, facts, measures, formulas, sets, writing and kept results. */
public final class Cubecaller {
    public static final int NONE = -1;
    public static final long MISSING = Long.MIN_VALUE;
    public static final int PLAIN = 0, BRIDGE = 1, CALCULATED = 2;
    public static final int SUM = 0, LAST = 1, DIFFERENT = 2, RATIO = 3;
    public static final int NUMBER = 0, LOOK = 1, DATE = 2, PLUS = 3, MINUS = 4, TIMES = 5, PER = 6;
    public static final int EQUAL = 0, WEIGHTS = 1, REST = 2;
    public static final int CHILDREN = 0, LEAVES = 1, DEPTH = 2;

    private static final int DIMENSIONS = 3;
    private static final int MOST_MEMBERS = 12;
    private static final int MOST_BRIDGED = 5;
    private static final int MOST_MOVES = 10;
    private static final int MOST_WORDS = 10;
    private static final int MOST_STEPS = 11;
    private static final int MOST_ORDER = 100;
    private static final int MOST_MEASURES = 4;
    private static final int MOST_FACTS = 50;
    private static final int MOST_KEPT = 20;
    private static final int MOST_PICKED = 12;
    private static final int LARGEST = 1000000;
    private static final int ALL_MEMBERS = 4095;
    private static final long BOUND = 1000000000000L;
    private static final int THOUSAND = 1000;

    // A cell is one number, so that it can be compared, kept and remembered without an object.
    private static final int TIME_UNIT = 144;
    private static final int ONE_UNIT = 12;
    private static final int CELLS = 1728;

    // The row of weights, and the place in time, behind that of every member of time.
    private static final int NOW = 12;
    // No product of signs is 2: a weight of 0 is below a member all the same, this is not.
    private static final int APART = 2;
    // Each look goes to a lower member of one dimension: 33 levels at most can be needed.
    private static final int DEEPEST = 40;

    private final Space space = new Space();
    private final Measures measured = new Measures();
    private final FactRows rows = new FactRows();
    private final KeptResults results = new KeptResults();
    private final Spread spread = new Spread();
    private final Reckoner reckoner = new Reckoner(space, measured, rows);
    private Formula draft = new Formula();

    public Cubecaller() {
    }

    // ---- members

    public int member(int dimension, int parent, int sign)
            throws IndexOutOfBoundsException, IllegalArgumentException, IllegalStateException {
        Dimension there = existing(dimension);
        needMember(there, parent);
        needRange(sign, -1, 1);
        need(there.isPlain(parent) && there.count < MOST_MEMBERS);
        int member = there.addPlain(parent, sign);
        if (dimension == 0) {
            space.order.insert(member, parent, there);
        }
        space.weigh();
        results.dropAll();
        return member;
    }

    public int bridge(int dimension, int members)
            throws IndexOutOfBoundsException, IllegalArgumentException, IllegalStateException {
        Dimension there = existing(dimension);
        boolean inRange = members >= 1 && members <= ALL_MEMBERS;
        if (inRange && members >> there.count != 0) {
            throw new IndexOutOfBoundsException("no such member");
        }
        needRange(members, 1, ALL_MEMBERS);
        need(Integer.bitCount(members) <= MOST_BRIDGED && there.areAllPlain(members));
        need(there.count < MOST_MEMBERS);
        int member = there.addBridge(members);
        space.weigh();
        results.dropAll();
        return member;
    }

    public int move(int dimension, int member, int parent, int time)
            throws IndexOutOfBoundsException, IllegalStateException {
        Dimension there = existing(dimension);
        needMember(there, member);
        needMember(there, parent);
        needMember(space.time, time);
        if (dimension == 0 || member == 0) {
            throw new IndexOutOfBoundsException("it cannot be moved");
        }
        need(there.isPlain(member) && there.isPlain(parent) && space.time.isPlain(time));
        need(parent < member && space.movesTold() < MOST_MOVES);
        int before = there.parentOf(member);
        there.moves.tell(member, parent, time);
        space.weigh();
        results.dropAll();
        return before;
    }

    public boolean asNow(boolean asNow) {
        boolean before = space.parentsAsNow;
        space.parentsAsNow = asNow;
        results.dropAll();
        return before;
    }

    public int memberAt(int dimension, int member, int what)
            throws IndexOutOfBoundsException, IllegalArgumentException {
        Dimension there = existing(dimension);
        needMember(there, member);
        needRange(what, 0, 4);
        switch (what) {
            case 0:
                return there.kindOf(member);
            case 1:
                return there.parentOf(member);
            case 2:
                return there.depthOf(member);
            case 3:
                return dimension == 0 ? space.order.placeOf(member) : NONE;
            default:
                return there.isSeen(member) ? 1 : 0;
        }
    }

    public int word(int what, int one, int two) throws IllegalArgumentException, IllegalStateException {
        needRange(what, NUMBER, PER);
        if (what == NUMBER) {
            needRange(one, -LARGEST, LARGEST);
        }
        if (what == LOOK || what == DATE) {
            needRange(one, 0, MOST_MEMBERS - 1);
        }
        if (what == LOOK) {
            needRange(two, 0, MOST_STEPS);
        }
        need(draft.hasRoomFor(what));
        draft.put(what, one, two);
        return draft.count;
    }

    public int calculate(int dimension, int order)
            throws IndexOutOfBoundsException, IllegalArgumentException, IllegalStateException {
        Dimension there = existing(dimension);
        needRange(order, 0, MOST_ORDER);
        need(draft.pile == 1 && !draft.looksBeyond(there.count) && there.count < MOST_MEMBERS);
        int member = there.addCalculated(draft, order);
        draft = new Formula();
        results.dropAll();
        return member;
    }

    public boolean hide(int dimension, int member, boolean is)
            throws IndexOutOfBoundsException, IllegalStateException {
        Dimension there = existing(dimension);
        needMember(there, member);
        if (member == 0) {
            throw new IndexOutOfBoundsException("the member 0 cannot be hidden");
        }
        need(there.isPlain(member));
        boolean before = there.setHidden(member, is);
        results.dropAll();
        return before;
    }

    public boolean totals(boolean leave) {
        boolean before = space.leavesOut;
        space.leavesOut = leave;
        results.dropAll();
        return before;
    }

    // ---- measures, facts

    public int measure(int kind, int first, int second)
            throws IndexOutOfBoundsException, IllegalArgumentException, IllegalStateException {
        if (kind == RATIO) {
            needMeasure(first);
            needMeasure(second);
        }
        needRange(kind, SUM, RATIO);
        need(measured.count < MOST_MEASURES);
        int made = measured.add(kind, first, second);
        results.dropAll();
        return made;
    }

    public int from(int measure, int dimension, int depth)
            throws IndexOutOfBoundsException, IllegalArgumentException {
        needMeasure(measure);
        existing(dimension);
        needRange(depth, 0, MOST_MEMBERS - 1);
        int before = measured.setLeastDepth(measure, dimension, depth);
        results.dropAll();
        return before;
    }

    public int fact(int time, int one, int two, int measure, int value)
            throws IndexOutOfBoundsException, IllegalArgumentException, IllegalStateException {
        int cell = existingCell(time, one, two, measure);
        needRange(value, -LARGEST, LARGEST);
        need(space.isPlain(cell) && measured.kindOf(measure) != RATIO);
        int row = rows.find(cell, measure);
        need(row != NONE || rows.count < MOST_FACTS);
        if (row == NONE) {
            rows.add(cell, measure, value);
            dropFor(cell, measure);
        } else {
            setNumber(row, value);
        }
        return rows.count;
    }

    public int forget(int time, int one, int two, int measure)
            throws IndexOutOfBoundsException, IllegalStateException {
        int cell = existingCell(time, one, two, measure);
        int row = rows.find(cell, measure);
        need(row != NONE);
        int number = rows.numberAt(row);
        rows.remove(row);
        dropFor(cell, measure);
        return number;
    }

    // ---- cells

    public long cell(int time, int one, int two, int measure) throws IndexOutOfBoundsException {
        int cell = existingCell(time, one, two, measure);
        if (!space.isSeen(cell)) {
            return MISSING;
        }
        int place = results.find(cell, measure);
        if (place != NONE) {
            results.hits++;
            return results.valueAt(place);
        }
        reckoner.begins(measure);
        long value = reckoner.asAsked(cell);
        results.keep(cell, measure, value);
        return value;
    }

    public long cellAnew(int time, int one, int two, int measure) throws IndexOutOfBoundsException {
        int cell = existingCell(time, one, two, measure);
        reckoner.begins(measure);
        return reckoner.asAsked(cell);
    }

    public int kept() {
        return results.count;
    }

    public int hits() {
        return results.hits;
    }

    // ---- sets

    public int at(int dimension, int member) throws IndexOutOfBoundsException {
        Dimension there = existing(dimension);
        needMember(there, member);
        int before = there.chosen;
        there.chosen = member;
        return before;
    }

    public int pick(int dimension, int kind, int member, int measure, int top)
            throws IndexOutOfBoundsException, IllegalArgumentException, IllegalStateException {
        Dimension there = existing(dimension);
        if (kind != DEPTH) {
            needMember(there, member);
        }
        if (top != 0) {
            needMeasure(measure);
        }
        needRange(kind, CHILDREN, DEPTH);
        needRange(top, 0, MOST_PICKED);
        if (kind == DEPTH) {
            needRange(member, 0, MOST_MEMBERS - 1);
        }
        need(kind == DEPTH || there.isPlain(member));
        there.pickAll(kind, member);
        if (top != 0) {
            reckoner.begins(measure);
            reckoner.keepTop(dimension, top);
        }
        return there.pickedCount;
    }

    public int picked(int dimension, int place) throws IndexOutOfBoundsException {
        Dimension there = existing(dimension);
        if (place < 0) {
            throw new IndexOutOfBoundsException("no such place");
        }
        return there.pickedAt(place);
    }

    public int cross(int dimension, int other, int measure)
            throws IndexOutOfBoundsException, IllegalArgumentException {
        Dimension there = existing(dimension);
        Dimension beside = existing(other);
        needMeasure(measure);
        if (dimension == other) {
            throw new IllegalArgumentException("both dimensions are the same");
        }
        reckoner.begins(measure);
        int pairs = 0;
        for (int i = 0; i < there.pickedCount; i++) {
            int cell = withMember(space.chosenCell(), dimension, there.pickedAt(i));
            for (int j = 0; j < beside.pickedCount; j++) {
                if (reckoner.asAsked(withMember(cell, other, beside.pickedAt(j))) != MISSING) {
                    pairs++;
                }
            }
        }
        return pairs;
    }

    // ---- writing, sessions

    public int write(int time, int one, int two, int measure, int value, int how)
            throws IndexOutOfBoundsException, IllegalArgumentException, IllegalStateException {
        int cell = existingCell(time, one, two, measure);
        needRange(value, 0, LARGEST);
        needRange(how, EQUAL, REST);
        need(measured.kindOf(measure) == SUM && space.isSeen(cell) && !space.isCalculated(cell));
        reckoner.gather(cell, measure);
        if (reckoner.counting == 0) {
            need(space.isPlain(cell) && rows.count < MOST_FACTS);
            rows.add(cell, measure, value);
            dropFor(cell, measure);
            return 1;
        }
        need(reckoner.allWeighOne());
        spread.start(reckoner.counting, value);
        for (int i = 0; i < reckoner.counting; i++) {
            spread.own(i, rows.numberAt(reckoner.rowAt(i)));
        }
        spread.share(how);
        need(spread.inRange());
        return writeShares();
    }

    public void begin() throws IllegalStateException {
        need(!rows.inSession);
        rows.save();
    }

    public int end(boolean keep) throws IllegalStateException {
        need(rows.inSession);
        rows.inSession = false;
        if (!keep) {
            rows.restore();
            results.dropAll();
        }
        return rows.count;
    }

    public int facts() {
        return rows.count;
    }

    // ---- what the calls have in common

    private Dimension existing(int dimension) {
        if (dimension < 0 || dimension >= DIMENSIONS) {
            throw new IndexOutOfBoundsException("no such dimension");
        }
        return space.dimension(dimension);
    }

    private static void needMember(Dimension there, int member) {
        if (!there.has(member)) {
            throw new IndexOutOfBoundsException("no such member");
        }
    }

    private void needMeasure(int measure) {
        if (!measured.has(measure)) {
            throw new IndexOutOfBoundsException("no such measure");
        }
    }

    private static void needRange(int value, int least, int most) {
        if (value < least || value > most) {
            throw new IllegalArgumentException("out of range");
        }
    }

    private static void need(boolean holds) {
        if (!holds) {
            throw new IllegalStateException("not as things stand");
        }
    }

    private int existingCell(int time, int one, int two, int measure) {
        needMember(space.time, time);
        needMember(space.one, one);
        needMember(space.two, two);
        needMeasure(measure);
        return time * TIME_UNIT + one * ONE_UNIT + two;
    }

    private static int memberOf(int cell, int dimension) {
        if (dimension == 0) {
            return cell / TIME_UNIT;
        }
        return dimension == 1 ? cell / ONE_UNIT % MOST_MEMBERS : cell % MOST_MEMBERS;
    }

    private static int withMember(int cell, int dimension, int member) {
        int unit = dimension == 0 ? TIME_UNIT : dimension == 1 ? ONE_UNIT : 1;
        return cell + (member - memberOf(cell, dimension)) * unit;
    }

    private static long bounded(long value) {
        return Math.max(-BOUND, Math.min(BOUND, value));
    }

    /** Gives a fact a number; tells whether it is another one. */
    private boolean setNumber(int row, int value) {
        if (rows.numberAt(row) == value) {
            return false;
        }
        rows.setNumber(row, value);
        dropFor(rows.cellAt(row), rows.measureAt(row));
        return true;
    }

    private int writeShares() {
        int changed = 0;
        for (int i = 0; i < reckoner.counting; i++) {
            if (setNumber(reckoner.rowAt(i), (int) spread.shareAt(i))) {
                changed++;
            }
        }
        return changed;
    }

    /** Drops the kept cells that a fact of this place and measure may change. */
    private void dropFor(int place, int measure) {
        int left = 0;
        for (int i = 0; i < results.count; i++) {
            int cell = results.cellAt(i);
            boolean needs = measured.needs(results.measureAt(i), measure);
            boolean drop = space.isCalculated(cell) || needs && space.weight(place, cell) != 0;
            if (!drop) {
                results.shift(i, left);
                left++;
            }
        }
        results.count = left;
    }

    /** The words of a formula. */
    private static final class Formula {
        int count;
        int pile;
        final int[] whats = new int[MOST_WORDS];
        final int[] ones = new int[MOST_WORDS];
        final int[] twos = new int[MOST_WORDS];

        boolean hasRoomFor(int what) {
            return count < MOST_WORDS && (what <= DATE || pile >= 2);
        }

        void put(int what, int one, int two) {
            if (count < MOST_WORDS) {
                whats[count] = what;
                ones[count] = one;
                twos[count] = two;
                count++;
                pile += what <= DATE ? 1 : -1;
            }
        }

        boolean looksBeyond(int members) {
            for (int i = 0; i < count; i++) {
                if ((whats[i] == LOOK || whats[i] == DATE) && ones[i] >= members) {
                    return true;
                }
            }
            return false;
        }
    }

    /** The moves of the members of a dimension, as they were told. */
    private static final class Moves {
        int count;
        final int[] members = new int[MOST_MOVES];
        final int[] parents = new int[MOST_MOVES];
        final int[] times = new int[MOST_MOVES];

        void tell(int member, int parent, int time) {
            if (count < MOST_MOVES) {
                members[count] = member;
                parents[count] = parent;
                times[count] = time;
                count++;
            }
        }

        /** The parent at a place of time; made is that without any move. */
        int parentAt(int member, int made, int place, TimeOrder order) {
            int parent = made;
            int latest = NONE;
            for (int i = 0; i < count; i++) {
                int since = order.placeOf(times[i]);
                if (members[i] == member && since <= place && since >= latest) {
                    latest = since;
                    parent = parents[i];
                }
            }
            return parent;
        }
    }

    /** The order in which PLAIN members of time stand. */
    private static final class TimeOrder {
        int count = 1;
        final int[] row = new int[MOST_MEMBERS];
        final int[] places = new int[MOST_MEMBERS];

        TimeOrder() {
            Arrays.fill(places, NONE);
            places[0] = 0;
        }

        int placeOf(int member) {
            return member >= 0 && member < MOST_MEMBERS ? places[member] : NONE;
        }

        /** Puts a new member, the last child of its parent, behind all that are below that. */
        void insert(int member, int parent, Dimension time) {
            if (count >= MOST_MEMBERS || member < 0 || member >= MOST_MEMBERS) {
                return;
            }
            int place = placeOf(parent) + 1;
            while (place < count && time.depthOf(row[place]) > time.depthOf(parent)) {
                place++;
            }
            for (int i = count; i > place; i--) {
                row[i] = row[i - 1];
                places[row[i]] = i;
            }
            row[place] = member;
            places[member] = place;
            count++;
        }

        /** The member so many places ahead among those of the same depth, NONE without. */
        int ahead(int member, int steps, Dimension time) {
            int left = steps;
            for (int i = placeOf(member) - 1; i >= 0 && i < count; i--) {
                if (time.depthOf(row[i]) == time.depthOf(member)) {
                    left--;
                    if (left == 0) {
                        return row[i];
                    }
                }
            }
            return NONE;
        }
    }

    /** The members of a dimension, what follows from them, and what is set and picked there. */
    private static final class Dimension {
        int count = 1;
        int chosen;
        int pickedCount;
        final Moves moves = new Moves();
        final int[] kinds = new int[MOST_MEMBERS];
        final int[] madeParents = new int[MOST_MEMBERS];
        final int[] signs = new int[MOST_MEMBERS];
        final int[] bridged = new int[MOST_MEMBERS];
        final int[] orders = new int[MOST_MEMBERS];
        final boolean[] hidden = new boolean[MOST_MEMBERS];
        final Formula[] formulas = new Formula[MOST_MEMBERS];
        final int[] pickedRow = new int[MOST_PICKED];
        // These follow from the ones above, and are made anew when a member is made, moved or hidden.
        final int[] parents = new int[MOST_MEMBERS];
        final int[] depths = new int[MOST_MEMBERS];
        final boolean[] seen = new boolean[MOST_MEMBERS];
        final int[][] weights = new int[NOW + 1][MOST_MEMBERS * MOST_MEMBERS];

        Dimension() {
            parents[0] = NONE;
            seen[0] = true;
            for (int i = 0; i <= NOW; i++) {
                weights[i][0] = 1;
            }
        }

        boolean has(int member) {
            return member >= 0 && member < count && member < MOST_MEMBERS;
        }

        int kindOf(int member) {
            return has(member) ? kinds[member] : NONE;
        }

        boolean isPlain(int member) {
            return has(member) && kinds[member] == PLAIN;
        }

        int parentOf(int member) {
            return has(member) && kinds[member] == PLAIN ? parents[member] : NONE;
        }

        int depthOf(int member) {
            return has(member) && kinds[member] == PLAIN ? depths[member] : NONE;
        }

        int orderOf(int member) {
            return has(member) && kinds[member] == CALCULATED ? orders[member] : NONE;
        }

        Formula formulaOf(int member) {
            return has(member) ? formulas[member] : null;
        }

        boolean isSeen(int member) {
            return member >= 0 && member < count && seen[member];
        }

        private boolean standsFor(int bridge, int member) {
            return kinds[bridge] == BRIDGE && (bridged[bridge] >> member & 1) == 1;
        }

        boolean areAllPlain(int members) {
            for (int i = 0; i < MOST_MEMBERS; i++) {
                if ((members >> i & 1) == 1 && !isPlain(i)) {
                    return false;
                }
            }
            return true;
        }

        int addPlain(int parent, int sign) {
            int member = addKind(PLAIN);
            if (has(member)) {
                madeParents[member] = parent;
                signs[member] = sign;
            }
            return member;
        }

        int addBridge(int members) {
            int member = addKind(BRIDGE);
            if (has(member)) {
                bridged[member] = members;
            }
            return member;
        }

        int addCalculated(Formula formula, int order) {
            int member = addKind(CALCULATED);
            if (has(member)) {
                formulas[member] = formula;
                orders[member] = order;
                seen[member] = true;
            }
            return member;
        }

        private int addKind(int kind) {
            if (count >= MOST_MEMBERS) {
                return NONE;
            }
            kinds[count] = kind;
            count++;
            return count - 1;
        }

        boolean setHidden(int member, boolean is) {
            if (!has(member)) {
                return false;
            }
            boolean before = hidden[member];
            hidden[member] = is;
            settle();
            return before;
        }

        /** Finds depths and what is seen; parents and members of a BRIDGE have lower numbers. */
        void settle() {
            for (int i = 1; i < count; i++) {
                if (isPlain(i)) {
                    depths[i] = depthOf(parents[i]) + 1;
                    seen[i] = !hidden[i] && isSeen(parents[i]);
                } else {
                    seen[i] = isBridgeSeen(i);
                }
            }
        }

        private boolean isBridgeSeen(int bridge) {
            for (int i = 0; i < bridge; i++) {
                if (standsFor(bridge, i) && !isSeen(i)) {
                    return false;
                }
            }
            return true;
        }

        /** Finds parents as now, and weights by the parents at each time and as now. */
        void weigh(TimeOrder order) {
            for (int i = 1; i < count; i++) {
                if (isPlain(i)) {
                    parents[i] = moves.parentAt(i, madeParents[i], NOW, order);
                }
            }
            settle();
            for (int i = 0; i < order.count; i++) {
                weighRow(order.row[i], i, order);
            }
            weighRow(NOW, NOW, order);
        }

        private void weighRow(int row, int place, TimeOrder order) {
            for (int i = 0; i < count; i++) {
                if (isPlain(i)) {
                    int parent = i == 0 ? NONE : moves.parentAt(i, madeParents[i], place, order);
                    for (int over = 0; over < count; over++) {
                        weights[row][i * MOST_MEMBERS + over] = weightOver(row, i, parent, over);
                    }
                }
            }
        }

        private int weightOver(int row, int member, int parent, int over) {
            if (!isPlain(over)) {
                return weightByBridge(row, member, over);
            }
            if (over == member) {
                return 1;
            }
            int above = parent < over ? APART : weights[row][parent * MOST_MEMBERS + over];
            return above == APART ? APART : above * signs[member];
        }

        private int weightByBridge(int row, int member, int bridge) {
            for (int i = 0; i < bridge; i++) {
                int weight = weights[row][member * MOST_MEMBERS + i];
                if (standsFor(bridge, i) && weight != APART) {
                    return weight;
                }
            }
            return APART;
        }

        /** The weight of a member in another one, 0 if it is not below that. */
        int weight(int row, int member, int over) {
            if (row < 0 || row > NOW || member < 0 || member >= count || over < 0 || over >= count) {
                return 0;
            }
            int weight = weights[row][member * MOST_MEMBERS + over];
            return weight == APART ? 0 : weight;
        }

        void pickAll(int kind, int member) {
            pickedCount = 0;
            for (int i = 0; i < count; i++) {
                if (seen[i] && isPlain(i) && isAsked(kind, member, i)) {
                    pickedRow[pickedCount] = i;
                    pickedCount++;
                }
            }
        }

        private boolean isAsked(int kind, int asked, int member) {
            if (kind == CHILDREN) {
                return parents[member] == asked;
            }
            if (kind == DEPTH) {
                return depths[member] == asked;
            }
            return has(asked) && isLeaf(member) && weights[NOW][member * MOST_MEMBERS + asked] != APART;
        }

        private boolean isLeaf(int member) {
            for (int i = 1; i < count; i++) {
                if (parentOf(i) == member) {
                    return false;
                }
            }
            return true;
        }

        int pickedAt(int place) {
            return place >= 0 && place < pickedCount && place < MOST_PICKED ? pickedRow[place] : NONE;
        }
    }

    /** The three dimensions. */
    private static final class Space {
        final Dimension time = new Dimension();
        final Dimension one = new Dimension();
        final Dimension two = new Dimension();
        final TimeOrder order = new TimeOrder();
        boolean parentsAsNow;
        boolean leavesOut;

        Dimension dimension(int number) {
            if (number == 0) {
                return time;
            }
            return number == 1 ? one : two;
        }

        int movesTold() {
            return one.moves.count + two.moves.count;
        }

        // A new member of time makes a new row of weights in each dimension.
        void weigh() {
            time.weigh(order);
            one.weigh(order);
            two.weigh(order);
        }

        boolean isPlain(int cell) {
            return time.isPlain(memberOf(cell, 0)) && one.isPlain(memberOf(cell, 1)) && two.isPlain(memberOf(cell, 2));
        }

        boolean isSeen(int cell) {
            return time.isSeen(memberOf(cell, 0)) && one.isSeen(memberOf(cell, 1)) && two.isSeen(memberOf(cell, 2));
        }

        boolean isCalculated(int cell) {
            return leading(cell) != NONE;
        }

        /** The dimension of the calculated member whose formula a cell has, NONE without. */
        int leading(int cell) {
            int leading = NONE;
            int greatest = NONE;
            for (int i = 0; i < DIMENSIONS; i++) {
                int order = dimension(i).orderOf(memberOf(cell, i));
                if (order != NONE && order >= greatest) {
                    greatest = order;
                    leading = i;
                }
            }
            return leading;
        }

        int chosenCell() {
            return time.chosen * TIME_UNIT + one.chosen * ONE_UNIT + two.chosen;
        }

        /** The weight that a fact of a place has in a cell, 0 if it does not count there. */
        int weight(int place, int cell) {
            if (leavesOut && !isSeen(place)) {
                return 0;
            }
            int then = memberOf(place, 0);
            int row = parentsAsNow ? NOW : then;
            int weight = time.weight(row, then, memberOf(cell, 0));
            if (weight != 0) {
                weight *= one.weight(row, memberOf(place, 1), memberOf(cell, 1));
            }
            if (weight != 0) {
                weight *= two.weight(row, memberOf(place, 2), memberOf(cell, 2));
            }
            return weight;
        }
    }

    /** The measures. */
    private static final class Measures {
        int count;
        final int[] kinds = new int[MOST_MEASURES];
        final int[] firsts = new int[MOST_MEASURES];
        final int[] seconds = new int[MOST_MEASURES];
        // The bits of the measures that one needs, itself among them.
        final int[] needed = new int[MOST_MEASURES];
        final int[] leastDepths = new int[MOST_MEASURES * DIMENSIONS];

        boolean has(int measure) {
            return measure >= 0 && measure < count && measure < MOST_MEASURES;
        }

        int kindOf(int measure) {
            return has(measure) ? kinds[measure] : NONE;
        }

        int add(int kind, int first, int second) {
            if (count >= MOST_MEASURES) {
                return NONE;
            }
            kinds[count] = kind;
            needed[count] = 1 << count;
            if (kind == RATIO && has(first) && has(second)) {
                firsts[count] = first;
                seconds[count] = second;
                needed[count] |= needed[first] | needed[second];
            }
            count++;
            return count - 1;
        }

        boolean needs(int measure, int other) {
            return has(measure) && has(other) && (needed[measure] >> other & 1) == 1;
        }

        int leastDepth(int measure, int dimension) {
            boolean known = has(measure) && dimension >= 0 && dimension < DIMENSIONS;
            return known ? leastDepths[measure * DIMENSIONS + dimension] : 0;
        }

        int setLeastDepth(int measure, int dimension, int depth) {
            int before = leastDepth(measure, dimension);
            if (has(measure) && dimension >= 0 && dimension < DIMENSIONS) {
                leastDepths[measure * DIMENSIONS + dimension] = depth;
            }
            return before;
        }
    }

    /** The facts, in the order in which they were made, and those from when a session was begun. */
    private static final class FactRows {
        int count;
        int savedCount;
        boolean inSession;
        final int[] cells = new int[MOST_FACTS];
        final int[] kinds = new int[MOST_FACTS];
        final int[] numbers = new int[MOST_FACTS];
        final int[] savedCells = new int[MOST_FACTS];
        final int[] savedKinds = new int[MOST_FACTS];
        final int[] savedNumbers = new int[MOST_FACTS];

        private boolean has(int row) {
            return row >= 0 && row < count && row < MOST_FACTS;
        }

        int find(int cell, int measure) {
            for (int i = 0; i < count; i++) {
                if (cells[i] == cell && kinds[i] == measure) {
                    return i;
                }
            }
            return NONE;
        }

        int cellAt(int row) {
            return has(row) ? cells[row] : 0;
        }

        int measureAt(int row) {
            return has(row) ? kinds[row] : NONE;
        }

        int numberAt(int row) {
            return has(row) ? numbers[row] : 0;
        }

        void setNumber(int row, int number) {
            if (has(row)) {
                numbers[row] = number;
            }
        }

        void add(int cell, int measure, int number) {
            if (count < MOST_FACTS) {
                cells[count] = cell;
                kinds[count] = measure;
                numbers[count] = number;
                count++;
            }
        }

        void remove(int row) {
            if (has(row)) {
                for (int i = row; i < count - 1; i++) {
                    cells[i] = cells[i + 1];
                    kinds[i] = kinds[i + 1];
                    numbers[i] = numbers[i + 1];
                }
                count--;
            }
        }

        void save() {
            inSession = true;
            savedCount = count;
            System.arraycopy(cells, 0, savedCells, 0, MOST_FACTS);
            System.arraycopy(kinds, 0, savedKinds, 0, MOST_FACTS);
            System.arraycopy(numbers, 0, savedNumbers, 0, MOST_FACTS);
        }

        void restore() {
            count = savedCount;
            System.arraycopy(savedCells, 0, cells, 0, MOST_FACTS);
            System.arraycopy(savedKinds, 0, kinds, 0, MOST_FACTS);
            System.arraycopy(savedNumbers, 0, numbers, 0, MOST_FACTS);
        }
    }

    /** The values of the latest cells that were asked, the earliest first. */
    private static final class KeptResults {
        int count;
        int hits;
        final int[] cells = new int[MOST_KEPT];
        final int[] kinds = new int[MOST_KEPT];
        final long[] values = new long[MOST_KEPT];

        private boolean has(int place) {
            return place >= 0 && place < count && place < MOST_KEPT;
        }

        int find(int cell, int measure) {
            for (int i = 0; i < count; i++) {
                if (cells[i] == cell && kinds[i] == measure) {
                    return i;
                }
            }
            return NONE;
        }

        int cellAt(int place) {
            return has(place) ? cells[place] : 0;
        }

        int measureAt(int place) {
            return has(place) ? kinds[place] : NONE;
        }

        long valueAt(int place) {
            return has(place) ? values[place] : MISSING;
        }

        /** Puts what is kept at a place at an earlier one. */
        void shift(int place, int earlier) {
            if (has(place) && has(earlier)) {
                cells[earlier] = cells[place];
                kinds[earlier] = kinds[place];
                values[earlier] = values[place];
            }
        }

        void keep(int cell, int measure, long value) {
            if (count >= MOST_KEPT) {
                for (int i = 1; i < MOST_KEPT; i++) {
                    shift(i, i - 1);
                }
                count = MOST_KEPT - 1;
            }
            cells[count] = cell;
            kinds[count] = measure;
            values[count] = value;
            count++;
        }

        void dropAll() {
            count = 0;
        }
    }

    /** Reckons the values of cells for one measure, each cell once. */
    private static final class Reckoner {
        final Space space;
        final Measures measures;
        final FactRows facts;
        private int measure;
        // What was reckoned counts as long as its stamp is that of the call.
        private int stamp;
        private final int[] stamps = new int[CELLS];
        private final long[] reckoned = new long[CELLS];
        private final long[] piles = new long[(DEEPEST + 1) * MOST_WORDS];
        private final long[] byMeasure = new long[MOST_MEASURES];
        // The facts that count in the cell that was gathered last.
        int counting;
        private final int[] rows = new int[MOST_FACTS];
        private final int[] weights = new int[MOST_FACTS];
        private final int[] timePlaces = new int[MOST_FACTS];
        private final long[] topValues = new long[MOST_PICKED];

        Reckoner(Space space, Measures measures, FactRows facts) {
            this.space = space;
            this.measures = measures;
            this.facts = facts;
        }

        void begins(int ofMeasure) {
            measure = ofMeasure;
            stamp++;
        }

        /** The value for who asks. */
        long asAsked(int cell) {
            return space.isSeen(cell) ? valueOf(cell, 0) : MISSING;
        }

        /** The value for formulas too; depth is how many looks led to it. */
        private long valueOf(int cell, int depth) {
            if (cell < 0 || cell >= CELLS || depth > DEEPEST) {
                return MISSING;
            }
            // Cells share what they look at: without this the looks could double at each level.
            if (stamps[cell] != stamp) {
                int leading = space.leading(cell);
                reckoned[cell] = leading == NONE ? plainValue(cell) : formulaValue(cell, leading, depth);
                stamps[cell] = stamp;
            }
            return reckoned[cell];
        }

        private long formulaValue(int cell, int dimension, int depth) {
            Formula formula = space.dimension(dimension).formulaOf(memberOf(cell, dimension));
            if (formula == null) {
                return MISSING;
            }
            int base = depth * MOST_WORDS;
            int top = base;
            for (int i = 0; i < formula.count; i++) {
                int what = formula.whats[i];
                if (what == NUMBER) {
                    piles[top] = formula.ones[i];
                    top++;
                } else if (what <= DATE) {
                    int there = withMember(cell, dimension, formula.ones[i]);
                    piles[top] = what == DATE ? toDate(there, depth) : back(there, formula.twos[i], depth);
                    top++;
                } else if (top - base >= 2) {
                    top--;
                    piles[top - 1] = joined(what, piles[top - 1], piles[top]);
                }
            }
            return top > base ? piles[base] : MISSING;
        }

        private long back(int there, int steps, int depth) {
            if (steps == 0) {
                return valueOf(there, depth + 1);
            }
            int member = memberOf(there, 0);
            int ahead = space.time.isPlain(member) ? space.order.ahead(member, steps, space.time) : NONE;
            return ahead == NONE ? MISSING : valueOf(withMember(there, 0, ahead), depth + 1);
        }

        private long toDate(int there, int depth) {
            int member = memberOf(there, 0);
            if (!space.time.isPlain(member)) {
                return MISSING;
            }
            int parent = space.time.parentOf(member);
            long added = MISSING;
            for (int i = 0; i <= member; i++) {
                if (space.time.isPlain(i) && space.time.parentOf(i) == parent) {
                    added = plus(added, valueOf(withMember(there, 0, i), depth + 1), 1);
                }
            }
            return added;
        }

        private static long joined(int what, long lower, long upper) {
            if (what == PLUS || what == MINUS) {
                return plus(lower, upper, what == PLUS ? 1 : -1);
            }
            return what == TIMES ? product(lower, upper) : ratio(lower, upper);
        }

        private static long plus(long one, long two, int sign) {
            if (one == MISSING && two == MISSING) {
                return MISSING;
            }
            return bounded((one == MISSING ? 0 : one) + (two == MISSING ? 0 : sign * two));
        }

        private static long product(long one, long two) {
            if (one == MISSING || two == MISSING) {
                return MISSING;
            }
            if (one == 0 || two == 0) {
                return 0;
            }
            // Both are within the bound, so that only their product can be too long.
            if (Math.abs(one) > BOUND / Math.abs(two)) {
                return one < 0 == two < 0 ? BOUND : -BOUND;
            }
            return one * two;
        }

        private static long ratio(long one, long two) {
            if (one == MISSING || two == MISSING || two == 0) {
                return MISSING;
            }
            return bounded(THOUSAND * one / two);
        }

        /** The value of a cell without calculated members. */
        private long plainValue(int cell) {
            if (meansNothing(cell)) {
                return MISSING;
            }
            // Measures of a RATIO are lower: theirs are there when it is reckoned.
            for (int i = 0; i <= measure && i < MOST_MEASURES; i++) {
                if (measures.needs(measure, i)) {
                    gather(cell, i);
                    byMeasure[i] = ofGathered(i);
                }
            }
            return measures.has(measure) ? byMeasure[measure] : MISSING;
        }

        private boolean meansNothing(int cell) {
            for (int i = 0; i < DIMENSIONS; i++) {
                Dimension there = space.dimension(i);
                int member = memberOf(cell, i);
                if (there.isPlain(member) && there.depthOf(member) < measures.leastDepth(measure, i)) {
                    return true;
                }
            }
            return false;
        }

        /** The value of a measure by the facts that were gathered, of a RATIO by its two measures. */
        private long ofGathered(int which) {
            int kind = measures.kindOf(which);
            if (kind == RATIO) {
                return ratio(byMeasure[measures.firsts[which]], byMeasure[measures.seconds[which]]);
            }
            if (counting == 0) {
                return MISSING;
            }
            if (kind == DIFFERENT) {
                return different();
            }
            return kind == LAST ? sum(lastPlace()) : sum(NONE);
        }

        /** Finds the facts of a measure that count in a cell. */
        void gather(int cell, int which) {
            counting = 0;
            for (int i = 0; i < facts.count; i++) {
                int weight = facts.measureAt(i) == which ? space.weight(facts.cellAt(i), cell) : 0;
                if (weight != 0) {
                    rows[counting] = i;
                    weights[counting] = weight;
                    timePlaces[counting] = space.order.placeOf(memberOf(facts.cellAt(i), 0));
                    counting++;
                }
            }
        }

        int rowAt(int place) {
            return place >= 0 && place < counting && place < MOST_FACTS ? rows[place] : NONE;
        }

        boolean allWeighOne() {
            for (int i = 0; i < counting; i++) {
                if (weights[i] != 1) {
                    return false;
                }
            }
            return true;
        }

        private int lastPlace() {
            int last = NONE;
            for (int i = 0; i < counting; i++) {
                last = Math.max(last, timePlaces[i]);
            }
            return last;
        }

        /** The sum of the facts of a place in time, of all for NONE. */
        private long sum(int timePlace) {
            long sum = 0;
            for (int i = 0; i < counting; i++) {
                if (timePlace == NONE || timePlaces[i] == timePlace) {
                    sum += (long) weights[i] * facts.numberAt(rows[i]);
                }
            }
            return sum;
        }

        private long different() {
            int different = 0;
            for (int i = 0; i < counting; i++) {
                boolean isNew = true;
                for (int j = 0; j < i && isNew; j++) {
                    isNew = facts.numberAt(rows[j]) != facts.numberAt(rows[i]);
                }
                if (isNew) {
                    different++;
                }
            }
            return different;
        }

        /** Leaves of what is picked in a dimension the members with the greatest values. */
        void keepTop(int dimension, int top) {
            Dimension there = space.dimension(dimension);
            int found = there.pickedCount;
            int ranked = 0;
            for (int i = 0; i < found && ranked < MOST_PICKED; i++) {
                int member = there.pickedAt(i);
                int cell = withMember(space.chosenCell(), dimension, member);
                // asAsked() from here would open one call more than the rules leave.
                long value = space.isSeen(cell) ? valueOf(cell, 0) : MISSING;
                if (value != MISSING) {
                    rank(there, ranked, member, value);
                    ranked++;
                }
            }
            there.pickedCount = Math.min(ranked, top);
        }

        /** Puts a member among those ranked, behind the ones with its value or a greater one. */
        private void rank(Dimension there, int ranked, int member, long value) {
            int place = ranked;
            while (place > 0 && topValues[place - 1] < value) {
                topValues[place] = topValues[place - 1];
                there.pickedRow[place] = there.pickedRow[place - 1];
                place--;
            }
            topValues[place] = value;
            there.pickedRow[place] = member;
        }
    }

    /** Spreads a number over facts. */
    private static final class Spread {
        private int count;
        private long number;
        private final long[] owns = new long[MOST_FACTS];
        private final long[] shares = new long[MOST_FACTS];
        private final long[] remainders = new long[MOST_FACTS];

        void start(int facts, long toSpread) {
            count = Math.min(facts, MOST_FACTS);
            number = toSpread;
        }

        void own(int place, long value) {
            if (place >= 0 && place < count) {
                owns[place] = value;
            }
        }

        long shareAt(int place) {
            return place >= 0 && place < count ? shares[place] : 0;
        }

        void share(int how) {
            long all = 0;
            boolean weigh = how == WEIGHTS;
            for (int i = 0; i < count; i++) {
                all += owns[i];
                weigh = weigh && owns[i] >= 0;
            }
            if (how == REST) {
                leaveRest(all);
            } else if (weigh && all > 0) {
                byWeights(all);
            } else {
                equally();
            }
        }

        private void equally() {
            if (count <= 0) {
                return;
            }
            for (int i = 0; i < count; i++) {
                shares[i] = number / count + (i < number % count ? 1 : 0);
            }
        }

        private void leaveRest(long all) {
            for (int i = 0; i < count; i++) {
                shares[i] = i == 0 ? number - (all - owns[0]) : owns[i];
            }
        }

        private void byWeights(long all) {
            if (all <= 0) {
                return;
            }
            long left = number;
            for (int i = 0; i < count; i++) {
                shares[i] = number * owns[i] / all;
                remainders[i] = number * owns[i] % all;
                left -= shares[i];
            }
            for (int i = 0; i < left && i < count; i++) {
                int first = greatestRemainder();
                shares[first]++;
                remainders[first] = NONE;
            }
        }

        private int greatestRemainder() {
            int greatest = 0;
            for (int i = 1; i < count; i++) {
                if (remainders[i] > remainders[greatest]) {
                    greatest = i;
                }
            }
            return greatest;
        }

        boolean inRange() {
            for (int i = 0; i < count; i++) {
                if (shares[i] < -LARGEST || shares[i] > LARGEST) {
                    return false;
                }
            }
            return true;
        }
    }
}
