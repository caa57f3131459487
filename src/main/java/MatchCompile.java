import java.util.Arrays;
import java.util.NoSuchElementException;

/**
 * Matches over data: rows of patterns become a tree of tests; which values no row takes, which rows
 * take none, and what the tree does with a value.
 */
public final class MatchCompile {
    public static final int NONE = -1;

    private static final int ANY = -1;
    private static final int EITHER = -2;
    private static final int BEHIND_LAST = NONE - 2;

    private static final int MAX_TYPES = 8;
    private static final int MAX_MAKERS_OF_TYPE = 8;
    private static final int MAX_MAKERS = 40;
    private static final int MAX_FIELDS = 3;
    private static final int MAX_COLUMNS = 3;
    private static final int MAX_ROWS = 12;
    private static final int MAX_SIGNS = 40;
    private static final int MAX_VALUES = 60;
    private static final int MAX_LINES = 60;
    private static final int MAX_PLACES = 40;
    private static final int MAX_NODES = 300;

    private static final int FAIL = 0;
    private static final int LEAF = 1;
    private static final int TEST = 2;

    private final Kinds kinds;
    private final int[] columns;
    private int columnCount;
    private final Rows rows;
    private final Hand rowInHand;
    private final Hand valuesInHand;
    private final Tree tree;
    private final Tables tables;
    private final Cases cases;
    private final Seats seats;

    public MatchCompile() {
        kinds = new Kinds();
        columns = new int[MAX_COLUMNS];
        columnCount = 0;
        rows = new Rows();
        rowInHand = new Hand(MAX_SIGNS, kinds);
        valuesInHand = new Hand(MAX_VALUES, kinds);
        tree = new Tree();
        tables = new Tables(kinds, rows);
        cases = new Cases(kinds, tree);
        seats = new Seats(kinds, valuesInHand);
    }

    public int type() throws IllegalStateException {
        if (kinds.typeCount() >= MAX_TYPES) {
            throw new IllegalStateException("there are 8 types");
        }
        return kinds.addType();
    }

    public int maker(int type, int a, int b, int c) throws IndexOutOfBoundsException, IllegalStateException {
        int fields = countTypes(a, b, c);
        if (!kinds.hasType(type) || fields == NONE) {
            throw new IndexOutOfBoundsException("no such type");
        }
        if (!kinds.hasRoomForMaker(type)) {
            throw new IllegalStateException("the type has 8 makers, or there are 40");
        }
        beginMatch(0, NONE, NONE, NONE);
        return kinds.addMaker(type, fields, a, b, c);
    }

    public boolean isEmpty(int type) throws IndexOutOfBoundsException {
        if (!kinds.hasType(type)) {
            throw new IndexOutOfBoundsException("no such type");
        }
        return !kinds.hasValue(type);
    }

    public void match(int a, int b, int c) throws IndexOutOfBoundsException {
        int count = countTypes(a, b, c);
        if (count == NONE || count == 0) {
            throw new IndexOutOfBoundsException("no such type, or no column");
        }
        beginMatch(count, a, b, c);
    }

    public int sign(int sign) throws IllegalStateException, IllegalArgumentException {
        refuseWithoutMatch();
        if (rowInHand.isFull()) {
            throw new IllegalStateException("the row in hand has 40 signs");
        }
        boolean stands = rowInHand.takesMaker(sign) || rowInHand.asks() && (sign == ANY || sign == EITHER);
        if (!stands) {
            throw new IllegalArgumentException("the sign can't stand there");
        }
        return rowInHand.put(sign);
    }

    public int row() throws IllegalStateException, IllegalArgumentException {
        refuseWithoutMatch();
        if (rows.count() >= MAX_ROWS) {
            throw new IllegalStateException("there are 12 rows");
        }
        if (rowInHand.asks()) {
            rowInHand.begin(columns, columnCount);
            throw new IllegalArgumentException("a column has no whole pattern yet");
        }
        tree.fell();
        int number = rows.add(rowInHand);
        rowInHand.begin(columns, columnCount);
        return number;
    }

    public int compile() throws IllegalStateException, UnsupportedOperationException {
        refuseWithoutMatch();
        cases.forget();
        boolean grown = growTree();
        if (!grown) {
            tree.fell();
            throw new UnsupportedOperationException("the tree is too great");
        }
        tree.stand();
        return tree.count();
    }

    public int node(int i, int what) throws NoSuchElementException {
        if (!tree.stands() || i < 0 || i >= tree.count()) {
            throw new NoSuchElementException("no such node");
        }
        return tree.tell(i, what);
    }

    public int missing() {
        return tree.stands() ? tree.failCount() : NONE;
    }

    public int missingSign(int k, int i) throws NoSuchElementException {
        if (!tree.stands() || k < 0 || k >= tree.failCount()) {
            throw new NoSuchElementException("no such missing case");
        }
        if (cases.shown() != k) {
            cases.show(k, columnCount);
        }
        return cases.signAt(i);
    }

    public boolean isIdle(int row) throws NoSuchElementException {
        if (!tree.stands() || row < 0 || row >= rows.count()) {
            throw new NoSuchElementException("no such row, or no tree");
        }
        return !tree.hasLeafOf(row);
    }

    public int give(int maker) throws IllegalStateException, IllegalArgumentException {
        refuseWithoutMatch();
        if (valuesInHand.isFull()) {
            throw new IllegalStateException("the values in hand have 60 makers");
        }
        if (!valuesInHand.takesMaker(maker)) {
            throw new IllegalArgumentException("the maker can't stand there");
        }
        return valuesInHand.put(maker);
    }

    public int answer() throws IllegalStateException, IllegalArgumentException {
        refuseWithoutWholeValues();
        valuesInHand.findEnds();
        for (int row = 0; row < rows.count(); row++) {
            if (rowTakesValues(row)) {
                return row;
            }
        }
        return NONE;
    }

    public int tests() throws IllegalStateException, IllegalArgumentException, NoSuchElementException {
        refuseWithoutWholeValues();
        if (!tree.stands()) {
            throw new NoSuchElementException("there is no tree");
        }
        valuesInHand.findEnds();
        return countTests();
    }

    public void empty() {
        valuesInHand.begin(columns, columnCount);
    }

    public int about(int what) {
        switch (what) {
            case 0:
                return kinds.typeCount();
            case 1:
                return kinds.makerCount();
            case 2:
                return columnCount;
            case 3:
                return rows.count();
            case 4:
                return rowInHand.count();
            case 5:
                return valuesInHand.count();
            case 6:
                return tree.stands() ? tree.count() : NONE;
            default:
                return NONE;
        }
    }

    /** How many of three types count, up to the first NONE; NONE if one that counts is no type. */
    private int countTypes(int a, int b, int c) {
        if (a == NONE) {
            return 0;
        }
        if (!kinds.hasType(a)) {
            return NONE;
        }
        if (b == NONE) {
            return 1;
        }
        if (!kinds.hasType(b)) {
            return NONE;
        }
        if (c == NONE) {
            return 2;
        }
        return kinds.hasType(c) ? 3 : NONE;
    }

    /** With no columns there is no match: signs and values in hand are of a match and go with it. */
    private void beginMatch(int count, int a, int b, int c) {
        columnCount = count;
        columns[0] = a;
        columns[1] = b;
        columns[2] = c;
        rows.clear();
        tree.fell();
        rowInHand.begin(columns, columnCount);
        valuesInHand.begin(columns, columnCount);
    }

    private void refuseWithoutMatch() {
        if (columnCount == 0) {
            throw new IllegalStateException("there is no match");
        }
    }

    private void refuseWithoutWholeValues() {
        refuseWithoutMatch();
        if (valuesInHand.asks()) {
            throw new IllegalArgumentException("the values in hand are not whole");
        }
    }

    private boolean rowTakesValues(int row) {
        int pattern = rows.startOf(row);
        int value = 0;
        for (int column = 0; column < columnCount; column++) {
            if (!takes(pattern, value, 0)) {
                return false;
            }
            pattern = rows.endAt(pattern);
            value = valuesInHand.endAt(value);
        }
        return true;
    }

    /** A row's 40 signs keep the depth under 40. */
    private boolean takes(int pattern, int value, int depth) {
        int sign = rows.signAt(pattern);
        if (sign == ANY) {
            return true;
        }
        if (depth >= MAX_SIGNS) {
            return false;
        }
        int part = pattern + 1;
        if (sign == EITHER) {
            return takes(part, value, depth + 1) || takes(rows.endAt(part), value, depth + 1);
        }
        if (sign != valuesInHand.signAt(value)) {
            return false;
        }
        int field = value + 1;
        int fields = kinds.fieldCount(sign);
        for (int i = 0; i < fields; i++) {
            if (!takes(part, field, depth + 1)) {
                return false;
            }
            part = rows.endAt(part);
            field = valuesInHand.endAt(field);
        }
        return true;
    }

    private int countTests() {
        seats.begin(columnCount);
        int node = 0;
        int made = 0;
        while (made < MAX_NODES && tree.kindOf(node) == TEST) {
            int place = tree.testedPlace(node);
            int maker = seats.makerAt(place);
            node = tree.branchOf(node, maker);
            seats.openUp(place, maker);
            made++;
        }
        return made;
    }

    /**
     * Goes without recursion, as a tree may be 300 nodes deep: the tables of the TESTs on the way
     * wait in a pile. Each step adds a node or takes a table off. False: TOO GREAT.
     */
    private boolean growTree() {
        tree.fell();
        tables.begin(columns, columnCount);
        boolean fits = addNode(NONE, NONE);
        for (int step = 0; step <= 2 * MAX_NODES && fits && tables.hasOpen(); step++) {
            int maker = tables.nextBranch();
            if (maker == NONE) {
                tables.drop();
            } else {
                int parent = tables.openNode();
                fits = tables.openBranch(maker, tree.testedPlace(parent)) && addNode(parent, maker);
            }
        }
        return fits;
    }

    /** The node of the table on top, which only a TEST leaves there. False: TOO GREAT. */
    private boolean addNode(int parent, int maker) {
        if (tree.count() >= MAX_NODES || !tables.splitEithers()) {
            return false;
        }
        int added = tree.add(parent, maker);
        if (tables.lineCount() == 0) {
            tree.makeFail(added);
            tables.drop();
            return true;
        }
        int place = tables.firstTested();
        if (place == NONE) {
            tree.makeLeaf(added, tables.firstRow());
            tables.drop();
            return true;
        }
        int type = tables.typeAt(place);
        tree.makeTest(added, type, tables.placeCount(), place);
        tables.keepFor(added, type);
        return true;
    }

    /** The types and their makers. */
    private static final class Kinds {
        private int typeCount;
        private int makerCount;
        private final int[] makersOfType = new int[MAX_TYPES];
        private final boolean[] valued = new boolean[MAX_TYPES];
        private final int[] typeOfMaker = new int[MAX_MAKERS];
        private final int[] fieldCounts = new int[MAX_MAKERS];
        private final int[] fieldTypes = new int[MAX_MAKERS * MAX_FIELDS];

        int typeCount() {
            return typeCount;
        }

        int makerCount() {
            return makerCount;
        }

        boolean hasType(int type) {
            return type >= 0 && type < typeCount && type < MAX_TYPES;
        }

        boolean hasMaker(int maker) {
            return maker >= 0 && maker < makerCount && maker < MAX_MAKERS;
        }

        boolean hasRoomForMaker(int type) {
            return hasType(type) && makersOfType[type] < MAX_MAKERS_OF_TYPE && makerCount < MAX_MAKERS;
        }

        boolean hasValue(int type) {
            return hasType(type) && valued[type];
        }

        int typeOf(int maker) {
            return hasMaker(maker) ? typeOfMaker[maker] : NONE;
        }

        /** None for signs that are no makers. */
        int fieldCount(int maker) {
            return hasMaker(maker) ? fieldCounts[maker] : 0;
        }

        int fieldType(int maker, int field) {
            boolean there = field >= 0 && field < MAX_FIELDS && field < fieldCount(maker);
            return there ? fieldTypes[maker * MAX_FIELDS + field] : NONE;
        }

        boolean isDead(int maker) {
            for (int field = 0; field < fieldCount(maker); field++) {
                if (!hasValue(fieldType(maker, field))) {
                    return true;
                }
            }
            return false;
        }

        int addType() {
            int type = typeCount;
            if (type < MAX_TYPES) {
                typeCount++;
            }
            return type;
        }

        int addMaker(int type, int fields, int a, int b, int c) {
            int maker = makerCount;
            if (!hasRoomForMaker(type)) {
                return NONE;
            }
            makerCount++;
            makersOfType[type]++;
            typeOfMaker[maker] = type;
            fieldCounts[maker] = fields;
            fieldTypes[maker * MAX_FIELDS] = a;
            fieldTypes[maker * MAX_FIELDS + 1] = b;
            fieldTypes[maker * MAX_FIELDS + 2] = c;
            findValued();
            return maker;
        }

        /** A round that finds no new type with a value is the last, so there are no more than types. */
        private void findValued() {
            boolean found = true;
            for (int round = 0; round <= MAX_TYPES && found; round++) {
                found = false;
                for (int maker = 0; maker < makerCount; maker++) {
                    int type = typeOf(maker);
                    if (hasType(type) && !valued[type] && !isDead(maker)) {
                        valued[type] = true;
                        found = true;
                    }
                }
            }
        }
    }

    /** Signs that come one by one, for one column after another, and the types that are still asked for. */
    private static final class Hand {
        private final Kinds kinds;
        private final int[] signs;
        private final int[] ends;
        private final int[] asked;
        private int count;
        private int askedCount;

        /** A sign settles one asked type and asks for at most as many as a maker has fields. */
        Hand(int limit, Kinds kinds) {
            this.kinds = kinds;
            int length = Math.max(limit, 0);
            signs = new int[length];
            ends = new int[length];
            asked = new int[MAX_COLUMNS + length * (MAX_FIELDS - 1)];
        }

        void begin(int[] columns, int columnCount) {
            count = 0;
            askedCount = 0;
            for (int column = Math.min(columnCount, columns.length) - 1; column >= 0; column--) {
                ask(columns[column]);
            }
        }

        int count() {
            return count;
        }

        boolean isFull() {
            return count >= signs.length;
        }

        boolean asks() {
            return askedCount > 0;
        }

        boolean takesMaker(int maker) {
            return asks() && kinds.hasMaker(maker) && kinds.typeOf(maker) == nextAsked();
        }

        /** A sign that may stand there: how many there are with it. */
        int put(int sign) {
            if (isFull() || !asks()) {
                return count;
            }
            int type = nextAsked();
            askedCount--;
            signs[count] = sign;
            count++;
            if (sign == EITHER) {
                ask(type);
                ask(type);
            }
            for (int field = kinds.fieldCount(sign) - 1; field >= 0; field--) {
                ask(kinds.fieldType(sign, field));
            }
            return count;
        }

        int signAt(int at) {
            return at >= 0 && at < count && at < signs.length ? signs[at] : BEHIND_LAST;
        }

        /** Where the pattern or value that begins there has ended; findEnds() goes ahead. */
        int endAt(int at) {
            return at >= 0 && at < count && at < ends.length ? ends[at] : count;
        }

        /** From the right, so that the ends of the parts are known. */
        void findEnds() {
            for (int at = Math.min(count, ends.length) - 1; at >= 0; at--) {
                int sign = signAt(at);
                int parts = sign == EITHER ? 2 : kinds.fieldCount(sign);
                int end = at + 1;
                for (int part = 0; part < parts; part++) {
                    end = endAt(end);
                }
                ends[at] = end;
            }
        }

        private int nextAsked() {
            return askedCount > 0 && askedCount <= asked.length ? asked[askedCount - 1] : NONE;
        }

        private void ask(int type) {
            if (askedCount >= 0 && askedCount < asked.length) {
                asked[askedCount] = type;
                askedCount++;
            }
        }
    }

    /** The rows of the match; a pattern is named by the place of its first sign among all rows' signs. */
    private static final class Rows {
        private final int[] signs = new int[MAX_ROWS * MAX_SIGNS];
        private final int[] ends = new int[MAX_ROWS * MAX_SIGNS];
        private int count;

        void clear() {
            count = 0;
        }

        int count() {
            return count;
        }

        int add(Hand hand) {
            int number = count;
            if (number < 0 || number >= MAX_ROWS) {
                return NONE;
            }
            hand.findEnds();
            int start = startOf(number);
            for (int i = 0; i < hand.count() && i < MAX_SIGNS; i++) {
                signs[start + i] = hand.signAt(i);
                ends[start + i] = start + hand.endAt(i);
            }
            count++;
            return number;
        }

        int startOf(int row) {
            return row * MAX_SIGNS;
        }

        int signAt(int at) {
            return at >= 0 && at < signs.length ? signs[at] : ANY;
        }

        int endAt(int at) {
            return at >= 0 && at < ends.length ? ends[at] : at;
        }
    }

    /** The nodes, numbered as they begin. */
    private static final class Tree {
        /** KIND to BRANCHES are numbered as the face's node() numbers them; SUBJECT is a type or a row. */
        private static final int KIND = 0;
        private static final int SUBJECT = 1;
        private static final int PLACES = 2;
        private static final int TESTED = 3;
        private static final int BRANCHES = 4;
        private static final int FIRST_BRANCH = 5;
        private static final int NEXT_BRANCH = 6;
        private static final int PARENT = 7;
        private static final int MAKER = 8;
        private static final int SIZE = 9;

        private static final int WHAT_BRANCHES_FROM = 5;
        private static final int WHAT_PARENT = 100;
        private static final int WHAT_MAKER = 101;

        private final int[] cells = new int[MAX_NODES * SIZE];
        private int count;
        private int failCount;
        private boolean standing;

        void fell() {
            count = 0;
            failCount = 0;
            standing = false;
        }

        void stand() {
            standing = true;
        }

        boolean stands() {
            return standing;
        }

        int count() {
            return count;
        }

        int failCount() {
            return failCount;
        }

        /** A node without a kind yet, the last branch of its parent so far. */
        int add(int parent, int maker) {
            int added = count;
            if (added < 0 || added >= MAX_NODES) {
                return NONE;
            }
            count++;
            for (int field = 0; field < SIZE; field++) {
                set(added, field, NONE);
            }
            set(added, PARENT, parent);
            set(added, MAKER, maker);
            if (parent != NONE) {
                hang(added, parent);
            }
            return added;
        }

        void makeFail(int node) {
            set(node, KIND, FAIL);
            failCount++;
        }

        void makeLeaf(int node, int row) {
            set(node, KIND, LEAF);
            set(node, SUBJECT, row);
        }

        void makeTest(int node, int type, int places, int tested) {
            set(node, KIND, TEST);
            set(node, SUBJECT, type);
            set(node, PLACES, places);
            set(node, TESTED, tested);
            set(node, BRANCHES, 0);
        }

        int kindOf(int node) {
            return get(node, KIND);
        }

        int testedPlace(int node) {
            return get(node, TESTED);
        }

        int makerOf(int node) {
            return get(node, MAKER);
        }

        int tell(int node, int what) {
            if (what == WHAT_PARENT) {
                return get(node, PARENT);
            }
            if (what == WHAT_MAKER) {
                return get(node, MAKER);
            }
            if (what <= BRANCHES) {
                return get(node, what);
            }
            return branchAt(node, what - WHAT_BRANCHES_FROM);
        }

        int branchOf(int node, int maker) {
            int branch = get(node, FIRST_BRANCH);
            for (int i = 0; i < MAX_MAKERS_OF_TYPE && branch != NONE; i++) {
                if (get(branch, MAKER) == maker) {
                    return branch;
                }
                branch = get(branch, NEXT_BRANCH);
            }
            return NONE;
        }

        /** The branch on the way to a node below: nodes of later branches have greater numbers. */
        int branchTowards(int node, int below) {
            int best = NONE;
            int branch = get(node, FIRST_BRANCH);
            for (int i = 0; i < MAX_MAKERS_OF_TYPE && branch != NONE && branch <= below; i++) {
                best = branch;
                branch = get(branch, NEXT_BRANCH);
            }
            return best;
        }

        int failNode(int number) {
            int left = number;
            for (int node = 0; node < count; node++) {
                if (kindOf(node) == FAIL) {
                    if (left == 0) {
                        return node;
                    }
                    left--;
                }
            }
            return NONE;
        }

        boolean hasLeafOf(int row) {
            for (int node = 0; node < count; node++) {
                if (kindOf(node) == LEAF && get(node, SUBJECT) == row) {
                    return true;
                }
            }
            return false;
        }

        private int branchAt(int node, int number) {
            if (number >= get(node, BRANCHES)) {
                return NONE;
            }
            int branch = get(node, FIRST_BRANCH);
            for (int i = 0; i < number; i++) {
                branch = get(branch, NEXT_BRANCH);
            }
            return branch;
        }

        private void hang(int branch, int parent) {
            int branches = get(parent, BRANCHES);
            if (branches == 0) {
                set(parent, FIRST_BRANCH, branch);
            } else {
                set(branchAt(parent, branches - 1), NEXT_BRANCH, branch);
            }
            set(parent, BRANCHES, branches + 1);
        }

        private int get(int node, int field) {
            boolean there = node >= 0 && node < count && field >= 0 && field < SIZE;
            return there ? cells[node * SIZE + field] : NONE;
        }

        private void set(int node, int field, int number) {
            if (node >= 0 && node < count && field >= 0 && field < SIZE) {
                cells[node * SIZE + field] = number;
            }
        }
    }

    /**
     * The pile of working tables, in one array that grows as it must and is used again. A table is a
     * head, the types of its places, and its lines: each a row and a cell for each place. A cell is
     * the name of a pattern in the rows, or ANY; a pattern that is ANY by itself has the cell ANY too.
     * How many places and lines the table on top has stands in fields, and in its head when it waits.
     */
    private static final class Tables {
        private static final int BELOW = 0;
        private static final int PLACES = 1;
        private static final int LINES = 2;
        private static final int NODE = 3;
        private static final int TYPE = 4;
        private static final int MAKER = 5;
        private static final int HEAD = 6;

        private static final int FIRST_ROOM = 512;

        private final Kinds kinds;
        private final Rows rows;
        private int[] room;
        private int top;
        private int places;
        private int lines;

        Tables(Kinds kinds, Rows rows) {
            this.kinds = kinds;
            this.rows = rows;
            room = new int[FIRST_ROOM];
            top = NONE;
        }

        /** The table of the match is the whole pile. */
        void begin(int[] columns, int columnCount) {
            top = NONE;
            pile(0, Math.min(columnCount, columns.length));
            for (int place = 0; place < places && place < columns.length; place++) {
                set(top + HEAD + place, columns[place]);
            }
            for (int row = 0; row < rows.count(); row++) {
                int line = addLine(row);
                int pattern = rows.startOf(row);
                for (int place = 0; place < places; place++) {
                    set(line + 1 + place, cellOf(pattern));
                    pattern = rows.endAt(pattern);
                }
            }
        }

        boolean hasOpen() {
            return top >= 0;
        }

        void drop() {
            top = head(BELOW);
            places = Math.max(head(PLACES), 0);
            lines = Math.max(head(LINES), 0);
        }

        int placeCount() {
            return places;
        }

        int lineCount() {
            return lines;
        }

        int openNode() {
            return head(NODE);
        }

        int typeAt(int place) {
            return get(top + HEAD + place);
        }

        int firstRow() {
            return get(lineAt(0));
        }

        /** Before a node is made of the table. False: TOO GREAT. */
        boolean splitEithers() {
            if (places > MAX_PLACES || lines > MAX_LINES) {
                return false;
            }
            for (int line = 0; line < lines; line++) {
                for (int place = 0; place < places; place++) {
                    if (!splitAt(line, place)) {
                        return false;
                    }
                }
            }
            return true;
        }

        /** The first place where the first line has a maker; NONE if it has ANY at all of them. */
        int firstTested() {
            for (int place = 0; place < places; place++) {
                if (get(lineAt(0) + 1 + place) != ANY) {
                    return place;
                }
            }
            return NONE;
        }

        /** The table waits for the branches of its TEST. */
        void keepFor(int node, int type) {
            set(top + PLACES, places);
            set(top + LINES, lines);
            set(top + NODE, node);
            set(top + TYPE, type);
            set(top + MAKER, NONE);
        }

        /** The maker of the next branch of the table on top; NONE if it has had all. */
        int nextBranch() {
            int type = head(TYPE);
            for (int maker = head(MAKER) + 1; maker < kinds.makerCount(); maker++) {
                if (kinds.typeOf(maker) == type && !kinds.isDead(maker)) {
                    set(top + MAKER, maker);
                    return maker;
                }
            }
            return NONE;
        }

        /** The branch's table comes onto the pile. False: TOO GREAT. */
        boolean openBranch(int maker, int tested) {
            int fields = kinds.fieldCount(maker);
            if (places - 1 + fields > MAX_PLACES) {
                return false;
            }
            int givenTypes = top + HEAD;
            int givenPlaces = places;
            int givenLines = lines;
            int given = lineAt(0);
            pile(lineAt(lines), places - 1 + fields);
            copyAround(givenTypes, top + HEAD, tested, givenPlaces, fields);
            for (int field = 0; field < fields; field++) {
                set(top + HEAD + tested + field, kinds.fieldType(maker, field));
            }
            for (int line = 0; line < givenLines; line++) {
                int cell = get(given + 1 + tested);
                if (cell == ANY || rows.signAt(cell) == maker) {
                    int added = addLine(get(given));
                    copyAround(given + 1, added + 1, tested, givenPlaces, fields);
                    putFields(added + 1 + tested, cell, fields);
                }
                given += givenPlaces + 1;
            }
            return true;
        }

        private void pile(int start, int placesThere) {
            reserve(start + HEAD + placesThere);
            set(start + BELOW, top);
            top = start;
            places = placesThere;
            lines = 0;
        }

        private int addLine(int row) {
            int line = lineAt(lines);
            lines++;
            reserve(lineAt(lines));
            set(line, row);
            return line;
        }

        /** As long as the line has an EITHER there; each round adds a line, up to the most. */
        private boolean splitAt(int line, int place) {
            int at = lineAt(line) + 1 + place;
            int either = get(at);
            for (int round = 0; round < MAX_LINES && isEither(either); round++) {
                if (lines >= MAX_LINES) {
                    return false;
                }
                doubleLine(line);
                int first = either + 1;
                set(at, cellOf(first));
                set(at + places + 1, cellOf(rows.endAt(first)));
                either = get(at);
            }
            return true;
        }

        private boolean isEither(int cell) {
            return cell != ANY && rows.signAt(cell) == EITHER;
        }

        private void doubleLine(int line) {
            int from = lineAt(line);
            int length = lineAt(lines) - from;
            lines++;
            reserve(lineAt(lines));
            copy(from, lineAt(line + 1), length);
        }

        /** All but the tested place, with a gap for the fields in its stead. */
        private void copyAround(int from, int to, int tested, int given, int fields) {
            copy(from, to, tested);
            copy(from + tested + 1, to + tested + fields, given - tested - 1);
        }

        private void putFields(int to, int cell, int fields) {
            int pattern = cell + 1;
            for (int field = 0; field < fields; field++) {
                if (cell == ANY) {
                    set(to + field, ANY);
                } else {
                    set(to + field, cellOf(pattern));
                    pattern = rows.endAt(pattern);
                }
            }
        }

        private int cellOf(int pattern) {
            return rows.signAt(pattern) == ANY ? ANY : pattern;
        }

        private int lineAt(int line) {
            return top + HEAD + places + line * (places + 1);
        }

        private int head(int field) {
            return top >= 0 ? get(top + field) : NONE;
        }

        private int get(int at) {
            return at >= 0 && at < room.length ? room[at] : NONE;
        }

        private void set(int at, int number) {
            if (at >= 0 && at < room.length) {
                room[at] = number;
            }
        }

        private void copy(int from, int to, int length) {
            int last = room.length - length;
            if (length > 0 && from >= 0 && from <= last && to >= 0 && to <= last) {
                System.arraycopy(room, from, room, to, length);
            }
        }

        private void reserve(int end) {
            if (end > room.length) {
                room = Arrays.copyOf(room, Math.max(end, 2 * room.length));
            }
        }
    }

    /** The missing case that was asked for last, as a row of signs. */
    private static final class Cases {
        private final Kinds kinds;
        private final Tree tree;
        private final int[] signs;
        private int count;
        private int shown;

        /** Each TEST on the way puts a maker, and each place that is left an ANY. */
        Cases(Kinds kinds, Tree tree) {
            this.kinds = kinds;
            this.tree = tree;
            signs = new int[MAX_NODES + MAX_PLACES];
            shown = NONE;
        }

        /** Another tree has other cases. */
        void forget() {
            shown = NONE;
        }

        int shown() {
            return shown;
        }

        void show(int number, int columnCount) {
            shown = number;
            count = Math.min(columnCount, signs.length);
            for (int i = 0; i < count; i++) {
                signs[i] = ANY;
            }
            int fail = tree.failNode(number);
            int node = 0;
            for (int step = 0; step < MAX_NODES && node != fail && node != NONE; step++) {
                int branch = tree.branchTowards(node, fail);
                putFound(tree.testedPlace(node), tree.makerOf(branch));
                node = branch;
            }
        }

        int signAt(int at) {
            return at >= 0 && at < count && at < signs.length ? signs[at] : BEHIND_LAST;
        }

        /** The places are the ANYs, from left to right. */
        private void putFound(int place, int maker) {
            int at = anyOf(place);
            int fields = kinds.fieldCount(maker);
            if (at == NONE || count + fields > signs.length) {
                return;
            }
            for (int i = count - 1; i > at; i--) {
                signs[i + fields] = signs[i];
            }
            signs[at] = maker;
            for (int field = 1; field <= fields; field++) {
                signs[at + field] = ANY;
            }
            count += fields;
        }

        private int anyOf(int place) {
            int left = place;
            for (int i = 0; i < count && i < signs.length; i++) {
                if (signs[i] == ANY) {
                    if (left == 0) {
                        return i;
                    }
                    left--;
                }
            }
            return NONE;
        }
    }

    /** Which of the values in hand is at which place, on the way down the tree. */
    private static final class Seats {
        private final Kinds kinds;
        private final Hand values;
        private final int[] seats;
        private int count;

        Seats(Kinds kinds, Hand values) {
            this.kinds = kinds;
            this.values = values;
            seats = new int[MAX_PLACES];
        }

        void begin(int columnCount) {
            int at = 0;
            count = Math.min(columnCount, seats.length);
            for (int i = 0; i < count; i++) {
                seats[i] = at;
                at = values.endAt(at);
            }
        }

        int makerAt(int place) {
            return isSeat(place) ? values.signAt(seats[place]) : NONE;
        }

        void openUp(int place, int maker) {
            int fields = kinds.fieldCount(maker);
            if (!isSeat(place) || count - 1 + fields > seats.length) {
                return;
            }
            int at = seats[place] + 1;
            makeGap(place, fields);
            for (int i = place; i < place + fields && i < seats.length; i++) {
                seats[i] = at;
                at = values.endAt(at);
            }
        }

        /** From the side that the others move to, so that none is written over unread. */
        private void makeGap(int place, int fields) {
            int shift = fields - 1;
            if (shift < 0) {
                for (int i = place + 1; i < count; i++) {
                    seats[i - 1] = seats[i];
                }
            } else {
                for (int i = count - 1; i > place; i--) {
                    seats[i + shift] = seats[i];
                }
            }
            count += shift;
        }

        private boolean isSeat(int place) {
            return place >= 0 && place < count && place < seats.length;
        }
    }
}
