import java.util.Arrays;

/** A desk for tables of sums over facts whose members hang in levels; DOC.md says what each call answers. */
public final class CubeDesk {
    public static final int NONE = -2000000001, OUTSIDE = -2000000002, STATE = -2000000003, FULL = -2000000004;

    private static final int MOST_DIMENSIONS = 4;
    private static final int MOST_TOLD_LEVELS = 3;
    private static final int MOST_LEVELS = MOST_TOLD_LEVELS + 1;
    private static final int MOST_MEMBERS = 8;
    private static final int MOST_FACTS = 300;
    private static final int MOST_CUBOIDS = 256;
    private static final int GREATEST_MEASURE = 1000;
    private static final int GREATEST_VALUE = 3;
    private static final int MOST_CHOSEN = 8;
    private static final int MOST_SEARCHED = 3;
    private static final int MOST_CUBOIDS_SEARCHED = 64;
    private static final int TABLE_TENS = 10;

    private final Space space;
    private final FactBook book;
    private final Lattice lattice;
    private final BestSearch search;
    private final Tallies tallies;
    private final Sheet sheet;
    private final int[] picks;
    private int readInAll;

    public CubeDesk() {
        space = new Space();
        book = new FactBook();
        lattice = new Lattice(space, book);
        search = new BestSearch(lattice);
        tallies = new Tallies();
        sheet = new Sheet();
        picks = new int[MOST_DIMENSIONS];
        readInAll = 0;
    }

    // ---- dimensions

    public int dimension(int members) {
        if (members < 1 || members > MOST_MEMBERS) {
            return OUTSIDE;
        }
        // A fact that went still came, so it bars new dimensions: "no facts at all".
        if (book.came > 0) {
            return STATE;
        }
        if (space.count >= MOST_DIMENSIONS) {
            return FULL;
        }
        int number = space.open(members);
        lattice.rebuild();
        return number;
    }

    public int level(int dimension, int members) {
        Dimension it = space.find(dimension);
        if (it == null || members < 1 || members > it.widthOf(it.all - 1)) {
            return OUTSIDE;
        }
        if (book.came > 0) {
            return STATE;
        }
        if (it.all >= MOST_TOLD_LEVELS) {
            return FULL;
        }
        int number = it.raise(members);
        lattice.rebuild();
        return number;
    }

    public int parent(int dimension, int level, int member, int p) {
        Dimension it = space.find(dimension);
        if (it == null || level < 0 || level >= it.all - 1) {
            return OUTSIDE;
        }
        if (!it.hasMember(level, member) || !it.hasMember(level + 1, p)) {
            return OUTSIDE;
        }
        int before = it.hang(level, member, p);
        lattice.forgetSizes();
        return before;
    }

    public int lies(int dimension, int member, int level) {
        Dimension it = space.find(dimension);
        if (it == null || !it.hasMember(0, member) || !it.hasLevel(level)) {
            return OUTSIDE;
        }
        return it.homeOf(member, level);
    }

    public int members(int dimension, int level) {
        Dimension it = space.find(dimension);
        if (it == null || !it.hasLevel(level)) {
            return OUTSIDE;
        }
        return it.widthOf(level);
    }

    // ---- facts

    public int fact(int measure) {
        int cell = space.pack(picks, 0);
        if (cell < 0 || measure < -GREATEST_MEASURE || measure > GREATEST_MEASURE) {
            return OUTSIDE;
        }
        if (book.came >= MOST_FACTS) {
            return FULL;
        }
        lattice.forgetSizes();
        return book.enter(cell, measure);
    }

    public int drop(int fact) {
        if (fact < 0 || fact >= book.came) {
            return OUTSIDE;
        }
        if (!book.isThere(fact)) {
            return STATE;
        }
        lattice.forgetSizes();
        return book.strike(fact);
    }

    public int pick(int dimension, int member) {
        if (dimension < 0 || dimension >= MOST_DIMENSIONS || member < 0 || member >= MOST_MEMBERS) {
            return OUTSIDE;
        }
        int before = picks[dimension];
        picks[dimension] = member;
        return before;
    }

    // ---- cuboids

    public int cuboids() {
        return lattice.total;
    }

    public int levelOf(int cuboid, int dimension) {
        if (!lattice.has(cuboid) || space.find(dimension) == null) {
            return OUTSIDE;
        }
        return Space.levelIn(lattice.levelsOf(cuboid), dimension);
    }

    public int size(int cuboid) {
        return lattice.has(cuboid) ? lattice.sizeOf(cuboid) : OUTSIDE;
    }

    public int serves(int cuboid, int other) {
        if (!lattice.has(cuboid) || !lattice.has(other)) {
            return OUTSIDE;
        }
        return lattice.canServe(cuboid, other) ? 1 : 0;
    }

    public int keep(int cuboid, boolean on) {
        if (!lattice.has(cuboid)) {
            return OUTSIDE;
        }
        if (cuboid == 0 && !on) {
            return STATE;
        }
        return lattice.mark(cuboid, on) ? 1 : 0;
    }

    public int kept(int cuboid) {
        if (!lattice.has(cuboid)) {
            return OUTSIDE;
        }
        return lattice.isKept(cuboid) ? 1 : 0;
    }

    public int cost(int cuboid) {
        return lattice.has(cuboid) ? lattice.costOf(cuboid) : OUTSIDE;
    }

    public int server(int cuboid) {
        return lattice.has(cuboid) ? lattice.serverOf(cuboid) : OUTSIDE;
    }

    public int gain(int cuboid) {
        return lattice.has(cuboid) ? lattice.gainOf(cuboid) : OUTSIDE;
    }

    public int choose(int k) {
        if (k < 0 || k > MOST_CHOSEN) {
            return OUTSIDE;
        }
        return lattice.chooseGreedily(k);
    }

    public int best(int k) {
        if (k < 0 || k > MOST_SEARCHED) {
            return OUTSIDE;
        }
        if (lattice.total > MOST_CUBOIDS_SEARCHED) {
            return STATE;
        }
        return search.greatestGain(k);
    }

    // ---- what is asked

    public int ask(int cuboid, int value) {
        if (!lattice.has(cuboid) || !isValue(value)) {
            return OUTSIDE;
        }
        int levels = lattice.levelsOf(cuboid);
        int group = space.pack(picks, levels);
        if (group < 0) {
            return OUTSIDE;
        }
        readInAll += lattice.costOf(cuboid);
        tallyGroup(levels, group);
        return tallies.isEmpty(0) ? NONE : tallies.valueOf(0, value);
    }

    public int group(int cuboid, int k) {
        if (!lattice.has(cuboid) || k < 0) {
            return OUTSIDE;
        }
        int group = lattice.groupAt(cuboid, k);
        return group < 0 ? NONE : space.inDecimals(group);
    }

    public int read() {
        return readInAll;
    }

    public int filter(int dimension, int level, int member) {
        Dimension it = space.find(dimension);
        if (it == null || !it.hasMember(level, member)) {
            return OUTSIDE;
        }
        it.setFilter(level, member);
        return 0;
    }

    public int total(int value) {
        if (!isValue(value)) {
            return OUTSIDE;
        }
        tallies.clear();
        for (int fact = 0; fact < book.came; fact++) {
            if (isInSight(fact)) {
                tallies.add(0, book.measureOf(fact));
            }
        }
        if (tallies.isEmpty(0)) {
            return value <= 1 ? 0 : NONE;
        }
        return tallies.valueOf(0, value);
    }

    public int table(int down, int across, int value) {
        Dimension rows = sideOf(down);
        Dimension columns = sideOf(across);
        if (rows == null || columns == null || !isValue(value)) {
            return OUTSIDE;
        }
        tallyTable(down, across);
        writeTable(rows.widthOf(down % TABLE_TENS), columns.widthOf(across % TABLE_TENS), value);
        return sheet.length;
    }

    public int out(int i) {
        return i < 0 || i >= sheet.length ? NONE : sheet.byteAt(i);
    }

    public int count(int what) {
        switch (what) {
            case 0:
                return space.count;
            case 1:
                return book.came;
            case 2:
                return book.present;
            case 3:
                return lattice.keptCount();
            case 4:
                return sheet.length;
            case 5:
                return lattice.keptGroups();
            default:
                return OUTSIDE;
        }
    }

    // ---- helpers of the calls

    private static boolean isValue(int value) {
        return value >= 0 && value <= GREATEST_VALUE;
    }

    /** The dimension of a table's side, told as 10 times it and a level; null if one of both is not there. */
    private Dimension sideOf(int side) {
        if (side < 0) {
            return null;
        }
        Dimension it = space.find(side / TABLE_TENS);
        return it != null && it.hasLevel(side % TABLE_TENS) ? it : null;
    }

    private boolean isInSight(int fact) {
        return book.isThere(fact) && space.passes(book.cellOf(fact));
    }

    private void tallyGroup(int levels, int group) {
        tallies.clear();
        for (int fact = 0; fact < book.came; fact++) {
            if (book.isThere(fact) && space.groupOf(book.cellOf(fact), levels) == group) {
                tallies.add(0, book.measureOf(fact));
            }
        }
    }

    private void tallyTable(int down, int across) {
        tallies.clear();
        for (int fact = 0; fact < book.came; fact++) {
            if (isInSight(fact)) {
                int row = homeOnSide(fact, down);
                int column = homeOnSide(fact, across);
                tallies.addToCross(row, column, book.measureOf(fact));
            }
        }
    }

    private int homeOnSide(int fact, int side) {
        return space.homeIn(book.cellOf(fact), side / TABLE_TENS, side % TABLE_TENS);
    }

    private void writeTable(int rowCount, int columnCount, int value) {
        sheet.clear();
        // One line and one cell more than there are members: these are the totals.
        for (int row = 0; row <= rowCount; row++) {
            int line = row < rowCount ? row : Tallies.WHOLE;
            for (int column = 0; column < columnCount; column++) {
                writeCell(Tallies.placeOf(line, column), value);
                sheet.put(Sheet.SPACE);
            }
            writeCell(Tallies.placeOf(line, Tallies.WHOLE), value);
            sheet.put(Sheet.LINE_END);
        }
    }

    private void writeCell(int place, int value) {
        if (tallies.isEmpty(place)) {
            sheet.put(Sheet.EMPTY);
        } else {
            sheet.putNumber(tallies.valueOf(place, value));
        }
    }

    /** One dimension: its levels up to ALL, what hangs in what, and its filter in hand. */
    private static final class Dimension {
        private final int[] widths = new int[MOST_LEVELS];
        private final int[] parents = new int[MOST_LEVELS * MOST_MEMBERS];
        private final int[] homes = new int[MOST_LEVELS * MOST_MEMBERS];
        private int all;
        private int filterLevel;
        private int filterMember;

        void open(int members) {
            widths[0] = members;
            topAt(1);
        }

        int raise(int members) {
            int number = all;
            if (number < MOST_TOLD_LEVELS) {
                widths[number] = members;
                topAt(number + 1);
            }
            return number;
        }

        private void topAt(int level) {
            all = level;
            widths[level] = 1;
            setFilter(level, 0);
            settle();
        }

        boolean hasLevel(int level) {
            return level >= 0 && level <= all;
        }

        boolean hasMember(int level, int member) {
            return member >= 0 && member < widthOf(level);
        }

        int widthOf(int level) {
            return hasLevel(level) ? widths[level] : 0;
        }

        int hang(int level, int member, int p) {
            int place = placeOf(level, member);
            int before = parents[place];
            parents[place] = p;
            settle();
            return before;
        }

        void setFilter(int level, int member) {
            filterLevel = level;
            filterMember = member;
        }

        int homeOf(int member, int level) {
            return homes[placeOf(level, member)];
        }

        boolean passes(int member) {
            return homeOf(member, filterLevel) == filterMember;
        }

        /** The masks keep the place inside the rows, whatever the numbers are. */
        private static int placeOf(int level, int member) {
            return (level & MOST_LEVELS - 1) * MOST_MEMBERS + (member & MOST_MEMBERS - 1);
        }

        /** Homes are worked out ahead, since sizes look them up far more often than parents change. */
        private void settle() {
            for (int member = 0; member < widths[0]; member++) {
                int home = member;
                homes[placeOf(0, member)] = home;
                for (int level = 1; level <= all; level++) {
                    home = parents[placeOf(level - 1, home)];
                    homes[placeOf(level, member)] = home;
                }
            }
        }
    }

    /**
     * The dimensions together. A cell or group is one number with three bits a dimension, the first one's highest,
     * so that the order of groups is the order of their numbers; the levels of a cuboid are one number with four
     * bits a dimension, the first one's lowest.
     */
    private static final class Space {
        private static final int MEMBER_BITS = 3;
        private static final int MEMBER_MASK = MOST_MEMBERS - 1;
        private static final int LEVEL_BITS = 4;
        private static final int LEVEL_MASK = 15;
        private static final int HIGH_BITS = 0x8888;

        private final Dimension[] dimensions = new Dimension[MOST_DIMENSIONS];
        private int count;

        Space() {
            for (int d = 0; d < MOST_DIMENSIONS; d++) {
                dimensions[d] = new Dimension();
            }
            count = 0;
        }

        Dimension find(int number) {
            return number < 0 || number >= count ? null : dimensions[number];
        }

        int open(int members) {
            int number = count;
            if (number < MOST_DIMENSIONS) {
                dimensions[number].open(members);
                count = number + 1;
            }
            return number;
        }

        int cuboidCount() {
            int product = 1;
            for (int d = 0; d < count; d++) {
                product *= dimensions[d].all + 1;
            }
            return product;
        }

        /** The levels of the cuboid whose number comes next: the last dimension turns fastest. */
        int levelsAfter(int levels) {
            int next = levels;
            for (int d = count - 1; d >= 0; d--) {
                if (levelIn(levels, d) < dimensions[d].all) {
                    return next + (1 << LEVEL_BITS * d);
                }
                next &= ~(LEVEL_MASK << LEVEL_BITS * d);
            }
            return next;
        }

        static int levelIn(int levels, int d) {
            return levels >> LEVEL_BITS * d & LEVEL_MASK;
        }

        /** A high bit above each level outlasts the subtraction just where the level taken off is not greater. */
        static boolean isNowhereAbove(int levels, int others) {
            return ((others | HIGH_BITS) - levels & HIGH_BITS) == HIGH_BITS;
        }

        private int memberIn(int cell, int d) {
            return cell >> MEMBER_BITS * (count - 1 - d) & MEMBER_MASK;
        }

        int homeIn(int cell, int d, int level) {
            Dimension it = find(d);
            return it == null ? 0 : it.homeOf(memberIn(cell, d), level);
        }

        int groupOf(int cell, int levels) {
            int group = 0;
            for (int d = 0; d < count; d++) {
                int place = Dimension.placeOf(levelIn(levels, d), memberIn(cell, d));
                group = group << MEMBER_BITS | dimensions[d].homes[place];
            }
            return group;
        }

        /** The group whose members are the picks, or -1 if one of them is no member of its level. */
        int pack(int[] picks, int levels) {
            int group = 0;
            for (int d = 0; d < count; d++) {
                if (!dimensions[d].hasMember(levelIn(levels, d), picks[d])) {
                    return -1;
                }
                group = group << MEMBER_BITS | picks[d];
            }
            return group;
        }

        boolean passes(int cell) {
            for (int d = 0; d < count; d++) {
                if (!dimensions[d].passes(memberIn(cell, d))) {
                    return false;
                }
            }
            return true;
        }

        int inDecimals(int group) {
            int number = 0;
            for (int d = 0; d < count; d++) {
                number = number * 10 + memberIn(group, d);
            }
            return number;
        }
    }

    /** All facts that came, with a mark on those that went. */
    private static final class FactBook {
        private final int[] cells = new int[MOST_FACTS];
        private final int[] measures = new int[MOST_FACTS];
        private final boolean[] gone = new boolean[MOST_FACTS];
        private int came;
        private int present;

        int enter(int cell, int measure) {
            int number = came;
            if (number < MOST_FACTS) {
                cells[number] = cell;
                measures[number] = measure;
                came++;
                present++;
            }
            return number;
        }

        int strike(int fact) {
            if (isThere(fact)) {
                gone[fact] = true;
                present--;
            }
            return measureOf(fact);
        }

        private boolean has(int fact) {
            return fact >= 0 && fact < came;
        }

        boolean isThere(int fact) {
            return has(fact) && !gone[fact];
        }

        int cellOf(int fact) {
            return has(fact) ? cells[fact] : 0;
        }

        int measureOf(int fact) {
            return has(fact) ? measures[fact] : 0;
        }
    }

    /** A set of groups, a bit for each number that a group can have; a shift by it takes its lowest six bits alone. */
    private static final class GroupSet {
        private static final int WORDS = 64;
        private static final int WORD_SHIFT = 6;
        private static final int MOST_GROUPS = WORDS << WORD_SHIFT;

        private final long[] words = new long[WORDS];
        private int held;

        void clear() {
            Arrays.fill(words, 0L);
            held = 0;
        }

        void add(int group) {
            if (group < 0 || group >= MOST_GROUPS) {
                return;
            }
            long bit = 1L << group;
            if ((words[group >> WORD_SHIFT] & bit) == 0L) {
                words[group >> WORD_SHIFT] |= bit;
                held++;
            }
        }

        /** The k-th least group, from 0, or -1 if there are not so many. */
        int at(int k) {
            int before = 0;
            for (int group = 0; group < MOST_GROUPS && before < held; group++) {
                if ((words[group >> WORD_SHIFT] & 1L << group) != 0L) {
                    if (before == k) {
                        return group;
                    }
                    before++;
                }
            }
            return -1;
        }
    }

    /** All cuboids: their sizes, which are kept, and what that spares. */
    private static final class Lattice {
        private static final int UNKNOWN = -1;

        private final Space space;
        private final FactBook book;
        private final int[] levels = new int[MOST_CUBOIDS];
        private final int[] sizes = new int[MOST_CUBOIDS];
        private final boolean[] marks = new boolean[MOST_CUBOIDS];
        private final int[] costs = new int[MOST_CUBOIDS];
        private final GroupSet groups = new GroupSet();
        private int total;

        Lattice(Space space, FactBook book) {
            this.space = space;
            this.book = book;
            rebuild();
        }

        void rebuild() {
            total = Math.min(space.cuboidCount(), MOST_CUBOIDS);
            int now = 0;
            for (int cuboid = 0; cuboid < total; cuboid++) {
                levels[cuboid] = now;
                now = space.levelsAfter(now);
            }
            keepOnlyFirst();
            forgetSizes();
        }

        void forgetSizes() {
            Arrays.fill(sizes, UNKNOWN);
        }

        private void keepOnlyFirst() {
            for (int cuboid = 0; cuboid < MOST_CUBOIDS; cuboid++) {
                marks[cuboid] = cuboid == 0;
            }
        }

        boolean has(int cuboid) {
            return cuboid >= 0 && cuboid < total;
        }

        int levelsOf(int cuboid) {
            return has(cuboid) ? levels[cuboid] : 0;
        }

        boolean canServe(int cuboid, int other) {
            return Space.isNowhereAbove(levelsOf(cuboid), levelsOf(other));
        }

        boolean isKept(int cuboid) {
            return has(cuboid) && marks[cuboid];
        }

        /** Whether the mark was another one before. */
        boolean mark(int cuboid, boolean on) {
            if (!has(cuboid) || marks[cuboid] == on) {
                return false;
            }
            marks[cuboid] = on;
            return true;
        }

        int sizeOf(int cuboid) {
            if (!has(cuboid)) {
                return 0;
            }
            if (sizes[cuboid] == UNKNOWN) {
                collectGroups(cuboid);
                sizes[cuboid] = groups.held;
            }
            return sizes[cuboid];
        }

        private void collectGroups(int cuboid) {
            int here = levelsOf(cuboid);
            groups.clear();
            for (int fact = 0; fact < book.came; fact++) {
                if (book.isThere(fact)) {
                    groups.add(space.groupOf(book.cellOf(fact), here));
                }
            }
        }

        int groupAt(int cuboid, int k) {
            collectGroups(cuboid);
            return groups.at(k);
        }

        int serverOf(int cuboid) {
            int server = 0;
            for (int other = 1; other < total; other++) {
                if (marks[other] && canServe(other, cuboid) && sizeOf(other) < sizeOf(server)) {
                    server = other;
                }
            }
            return server;
        }

        int costOf(int cuboid) {
            return sizeOf(serverOf(cuboid));
        }

        int gainOf(int cuboid) {
            if (isKept(cuboid)) {
                return 0;
            }
            fillBare(costs);
            for (int other = 1; other < total; other++) {
                if (marks[other]) {
                    lower(costs, costs, other);
                }
            }
            return sparedBy(cuboid, costs);
        }

        /** A row of costs where cuboid 0 alone is kept; it also works out every size, as the rows' readers need it. */
        void fillBare(int[] row) {
            for (int cuboid = 0; cuboid < total; cuboid++) {
                sizeOf(cuboid);
            }
            Arrays.fill(row, sizes[0]);
        }

        /** How much a cuboid, kept too, takes off a row of costs; none that it serves has a lesser number. */
        int sparedBy(int cuboid, int[] row) {
            if (!has(cuboid)) {
                return 0;
            }
            int spared = 0;
            for (int other = cuboid; other < total && other < row.length; other++) {
                if (row[other] > sizes[cuboid] && Space.isNowhereAbove(levels[cuboid], levels[other])) {
                    spared += row[other] - sizes[cuboid];
                }
            }
            return spared;
        }

        /** Row to becomes row from with one more cuboid kept; both may be the same row. */
        void lower(int[] from, int[] to, int cuboid) {
            if (!has(cuboid)) {
                return;
            }
            for (int other = 0; other < total && other < from.length && other < to.length; other++) {
                boolean isServed = Space.isNowhereAbove(levels[cuboid], levels[other]);
                to[other] = isServed ? Math.min(from[other], sizes[cuboid]) : from[other];
            }
        }

        int chooseGreedily(int k) {
            keepOnlyFirst();
            fillBare(costs);
            int together = 0;
            for (int turn = 0; turn < k; turn++) {
                int chosen = worthMost();
                int spared = sparedBy(chosen, costs);
                if (spared <= 0) {
                    break;
                }
                mark(chosen, true);
                lower(costs, costs, chosen);
                together += spared;
            }
            return together;
        }

        /** What is kept already spares nothing more, so it is never told while another one spares something. */
        private int worthMost() {
            int chosen = 0;
            int most = 0;
            for (int cuboid = 0; cuboid < total; cuboid++) {
                int spared = sparedBy(cuboid, costs);
                if (spared > most) {
                    chosen = cuboid;
                    most = spared;
                }
            }
            return chosen;
        }

        int keptCount() {
            int sum = 0;
            for (int cuboid = 0; cuboid < total; cuboid++) {
                sum += marks[cuboid] ? 1 : 0;
            }
            return sum;
        }

        int keptGroups() {
            int sum = 0;
            for (int cuboid = 0; cuboid < total; cuboid++) {
                sum += marks[cuboid] ? sizeOf(cuboid) : 0;
            }
            return sum;
        }
    }

    /** The search for the best few cuboids, with a row of costs and of gains for each number that may still come. */
    private static final class BestSearch {
        private final Lattice lattice;
        private final int[][] costs = new int[MOST_SEARCHED + 1][MOST_CUBOIDS_SEARCHED];
        private final int[][] extras = new int[MOST_SEARCHED + 1][MOST_CUBOIDS_SEARCHED];

        BestSearch(Lattice lattice) {
            this.lattice = lattice;
        }

        int greatestGain(int k) {
            if (k < 1 || k > MOST_SEARCHED) {
                return 0;
            }
            lattice.fillBare(costs[k]);
            return extend(this, k, 0, 0, 0);
        }

        /**
         * The greatest gain, at least floor, of what has gained so far and up to left more cuboids from start on.
         * With more kept no cuboid spares more, so what each spares now bounds what it can add later.
         */
        private static int extend(BestSearch it, int left, int start, int gained, int floor) {
            if (left < 1 || left > MOST_SEARCHED) {
                return floor;
            }
            int[] extra = it.extras[left];
            int end = Math.min(it.lattice.total, extra.length);
            int most = 0;
            for (int cuboid = start; cuboid < end; cuboid++) {
                extra[cuboid] = it.lattice.sparedBy(cuboid, it.costs[left]);
                most = Math.max(most, extra[cuboid]);
            }
            int greatest = Math.max(floor, gained + most);
            for (int cuboid = start; left > 1 && cuboid < end; cuboid++) {
                int with = gained + extra[cuboid];
                if (with + (left - 1) * most > greatest) {
                    it.lattice.lower(it.costs[left], it.costs[left - 1], cuboid);
                    greatest = extend(it, left - 1, cuboid + 1, with, greatest);
                }
            }
            return greatest;
        }
    }

    /** The values of some rows of facts at once: one for each cell of a table, or that at place 0 alone. */
    private static final class Tallies {
        private static final int WHOLE = MOST_MEMBERS;
        private static final int SIDE = MOST_MEMBERS + 1;
        private static final int PLACES = SIDE * SIDE;

        private final int[] counts = new int[PLACES];
        private final int[] sums = new int[PLACES];
        private final int[] least = new int[PLACES];
        private final int[] greatest = new int[PLACES];

        static int placeOf(int row, int column) {
            return row * SIDE + column;
        }

        private static boolean isPlace(int place) {
            return place >= 0 && place < PLACES;
        }

        /** The other rows need no clearing: they begin anew with the first fact of a place. */
        void clear() {
            Arrays.fill(counts, 0);
        }

        void add(int place, int measure) {
            if (!isPlace(place)) {
                return;
            }
            boolean isFirst = counts[place] == 0;
            counts[place]++;
            sums[place] = isFirst ? measure : sums[place] + measure;
            least[place] = isFirst ? measure : Math.min(least[place], measure);
            greatest[place] = isFirst ? measure : Math.max(greatest[place], measure);
        }

        /** A fact of a table counts in its cell, in its whole line, in its whole column, and in all. */
        void addToCross(int row, int column, int measure) {
            add(placeOf(row, column), measure);
            add(placeOf(row, WHOLE), measure);
            add(placeOf(WHOLE, column), measure);
            add(placeOf(WHOLE, WHOLE), measure);
        }

        boolean isEmpty(int place) {
            return !isPlace(place) || counts[place] == 0;
        }

        int valueOf(int place, int value) {
            if (!isPlace(place)) {
                return 0;
            }
            switch (value) {
                case 0:
                    return counts[place];
                case 1:
                    return sums[place];
                case 2:
                    return least[place];
                default:
                    return greatest[place];
            }
        }
    }

    /** The bytes of OUT; its room holds nine lines of nine cells with seven bytes and a parting one each. */
    private static final class Sheet {
        private static final int SPACE = 32;
        private static final int LINE_END = 10;
        private static final int EMPTY = 46;
        private static final int MINUS = 45;
        private static final int ZERO = 48;
        private static final int ROOM = 648;
        private static final int GREATEST_UNIT = 1000000;

        private final byte[] bytes = new byte[ROOM];
        private int length;

        void clear() {
            length = 0;
        }

        void put(int one) {
            if (length < ROOM) {
                bytes[length] = (byte) one;
                length++;
            }
        }

        void putNumber(int number) {
            int rest = Math.abs(number);
            if (number < 0) {
                put(MINUS);
            }
            boolean begun = false;
            for (int unit = GREATEST_UNIT; unit > 0; unit /= 10) {
                int digit = rest / unit % 10;
                begun = begun || digit > 0 || unit == 1;
                if (begun) {
                    put(ZERO + digit);
                }
            }
        }

        int byteAt(int i) {
            return i >= 0 && i < length ? bytes[i] : 0;
        }
    }
}
