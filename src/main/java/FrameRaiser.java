/**
 * A planner for frames that are put together from pieces.
 *
 * <p>No call makes an object: every row is made once, with the object that uses it.
 */
public final class FrameRaiser {
    public static final int BAD = -1, STATE = -2, FULL = -3, NONE = -9;

    private static final int MOST_PIECES = 8;
    private static final int MOST_BOXES = 4;
    private static final int MOST_SIGNS = 80;
    private static final int MOST_STATES = 8;
    private static final int SETS = 256;

    private static final int SIDE = 6;
    private static final int LAYER = 36;
    private static final int CELLS = 216;
    private static final int AXES = 3;
    private static final int DIRECTIONS = 6;

    private static final int PROPERTIES = 10;
    private static final int COUNTS = 7;

    private static final int NOBODY = -1;
    private static final int OUTSIDE = -1;
    private static final int NO_FAULT = 0;
    private static final int FINE = 0;

    private final Frame frame = new Frame();
    private final Measures measures = new Measures();
    private final Relations relations = new Relations();
    private final Planner planner = new Planner(relations);
    private final History history = new History();
    private final Text text = new Text();
    private final Box box = new Box();
    private final Frame trialFrame = new Frame();
    private final Relations trialRelations = new Relations();

    private boolean measured;
    private boolean related;
    private boolean tabled;

    public FrameRaiser() {
    }

    // ---- pieces

    public int type(int code) {
        if (code < 32 || code > 126) {
            return BAD;
        }
        if (text.length >= MOST_SIGNS) {
            return FULL;
        }
        text.append(code);
        return text.length;
    }

    public int clearText() {
        int had = text.length;
        text.length = 0;
        return had;
    }

    public int load() {
        int position = text.readInto(trialFrame);
        if (text.fault != NO_FAULT) {
            return -10 - position;
        }
        history.remember(frame);
        frame.copyFrom(trialFrame);
        forgetPieces();
        return frame.pieces;
    }

    public int faultKind() {
        return text.fault;
    }

    public int clear() {
        int had = frame.pieces;
        history.remember(frame);
        frame.empty();
        forgetPieces();
        return had;
    }

    public int addPiece(int x, int y, int z, int a, int b, int c) {
        if (!box.takeAll(x, y, z, a, b, c)) {
            return BAD;
        }
        if (frame.meetsOther(box, NOBODY)) {
            return STATE;
        }
        if (frame.pieces >= MOST_PIECES) {
            return FULL;
        }
        history.remember(frame);
        frame.addBox(box, frame.pieces);
        forgetPieces();
        return frame.pieces - 1;
    }

    public int extend(int piece, int x, int y, int z, int a, int b, int c) {
        if (!isPiece(piece) || !box.takeAll(x, y, z, a, b, c)) {
            return BAD;
        }
        if (frame.meetsOther(box, piece)) {
            return STATE;
        }
        if (frame.boxes[piece] >= MOST_BOXES) {
            return FULL;
        }
        history.remember(frame);
        frame.addBox(box, piece);
        forgetPieces();
        return knownMeasures().cells[piece];
    }

    public int drop(int piece) {
        if (!isPiece(piece)) {
            return BAD;
        }
        history.remember(frame);
        frame.remove(piece);
        forgetPieces();
        return frame.pieces;
    }

    public int shift(int piece, int direction) {
        int fault = shiftFault(piece, direction);
        if (fault != FINE) {
            return fault;
        }
        history.remember(frame);
        frame.move(piece, direction);
        forgetPieces();
        return 1;
    }

    public int pieceAt(int x, int y, int z) {
        if (!isCoordinate(x) || !isCoordinate(y) || !isCoordinate(z)) {
            return BAD;
        }
        int owner = frame.owners[x + SIDE * y + LAYER * z];
        return owner == NOBODY ? NONE : owner;
    }

    public int piece(int piece, int what) {
        if (!isPiece(piece) || what < 0 || what >= PROPERTIES) {
            return BAD;
        }
        if (what == 1) {
            return frame.boxes[piece];
        }
        if (what == 9) {
            return has(frame.building, piece) ? 1 : 0;
        }
        Measures known = knownMeasures();
        if (what == 0) {
            return known.cells[piece];
        }
        if (what == 8) {
            return known.groundCells[piece];
        }
        return what < 5 ? known.smallest[AXES * piece + what - 2] : known.greatest[AXES * piece + what - 5];
    }

    // ---- ways

    public int blockers(int piece, int direction) {
        if (!isPiece(piece) || !isDirection(direction)) {
            return BAD;
        }
        return knownRelations().blockersOf(piece, direction);
    }

    public int ways(int piece, int set) {
        if (!isPiece(piece) || !isSet(set)) {
            return BAD;
        }
        Relations known = knownRelations();
        int free = 0;
        for (int direction = 0; direction < DIRECTIONS; direction++) {
            if (known.isFree(piece, direction, set)) {
                free |= 1 << direction;
            }
        }
        return free;
    }

    public int contact(int a, int b) {
        if (!isPiece(a) || !isPiece(b) || a == b) {
            return BAD;
        }
        return knownRelations().contacts[MOST_PIECES * a + b];
    }

    public int hangsTogether(int set) {
        if (!isSet(set)) {
            return BAD;
        }
        return knownRelations().isConnected(set) ? 1 : 0;
    }

    // ---- support

    public int props(int set) {
        if (!isSet(set)) {
            return BAD;
        }
        return knownRelations().propsOf(set);
    }

    public int standing(int set) {
        if (!isSet(set)) {
            return BAD;
        }
        return knownRelations().standingOf(set);
    }

    // ---- orders

    public int orders(int set) {
        if (!isSet(set)) {
            return BAD;
        }
        return knownPlanner().orderCounts[set];
    }

    public int fewestProps(int set) {
        if (!isSet(set)) {
            return BAD;
        }
        return knownPlanner().fewest[set];
    }

    public int planned(int set, int k, boolean direction) {
        if (!isSet(set) || k < 0) {
            return BAD;
        }
        Planner known = knownPlanner();
        known.plan(set);
        if (k >= known.planSize || k >= MOST_PIECES) {
            return NONE;
        }
        return direction ? known.planWays[k] : known.planPieces[k];
    }

    public int locked(int set) {
        if (!isSet(set)) {
            return BAD;
        }
        return knownRelations().lockedOf(set);
    }

    public int firstGroup(int set, boolean direction) {
        if (!isSet(set)) {
            return BAD;
        }
        Relations known = knownRelations();
        int group = known.smallestGroup(set);
        if (group == NONE) {
            return NONE;
        }
        return direction ? known.wayOfGroup(group, set) : group;
    }

    // ---- building

    public int put(int piece, int direction) {
        return step(piece, direction, false);
    }

    public int takeOut(int piece, int direction) {
        return step(piece, direction, true);
    }

    public int putAll() {
        history.remember(frame);
        int done = 0;
        for (int round = 0; round < MOST_PIECES; round++) {
            int next = nextToPut();
            if (next == NONE) {
                break;
            }
            frame.turn(next);
            done++;
        }
        return done;
    }

    // ---- what would be

    public int ifShift(int piece, int direction) {
        int fault = shiftFault(piece, direction);
        if (fault != FINE) {
            return fault;
        }
        trialFrame.copyFrom(frame);
        trialFrame.move(piece, direction);
        trialRelations.read(trialFrame);
        return Integer.bitCount(trialRelations.lockedOf(allPieces()));
    }

    // ---- history

    public int undo() {
        if (history.size == 0) {
            return STATE;
        }
        history.restore(frame);
        forgetPieces();
        return history.size;
    }

    public int count(int what) {
        switch (what) {
            case 0:
                return frame.pieces;
            case 1:
                return knownMeasures().allCells;
            case 2:
                return frame.building;
            case 3:
                return frame.steps;
            case 4:
                return knownRelations().propsOf(frame.building);
            case 5:
                return text.length;
            case 6:
                return history.size;
            default:
                return BAD;
        }
    }

    public long digest() {
        long h = 12942;
        for (int what = 0; what < COUNTS; what++) {
            h = 31 * h + count(what);
        }
        for (int piece = 0; piece < frame.pieces; piece++) {
            h = mixPiece(h, piece);
        }
        for (int i = 0; i < 2; i++) {
            int set = i == 0 ? allPieces() : frame.building;
            h = 31 * h + orders(set);
            h = 31 * h + fewestProps(set);
            for (int k = 0; k < MOST_PIECES; k++) {
                h = 31 * h + planned(set, k, false);
                h = 31 * h + planned(set, k, true);
            }
            h = 31 * h + locked(set);
            h = 31 * h + firstGroup(set, false);
            h = 31 * h + firstGroup(set, true);
            h = 31 * h + standing(set);
            h = 31 * h + hangsTogether(set);
        }
        return h;
    }

    private long mixPiece(long start, int piece) {
        long h = start;
        for (int what = 0; what < PROPERTIES; what++) {
            h = 31 * h + piece(piece, what);
        }
        for (int direction = 0; direction < DIRECTIONS; direction++) {
            h = 31 * h + blockers(piece, direction);
        }
        return h;
    }

    private int step(int piece, int direction, boolean out) {
        if (!isPiece(piece) || !isDirection(direction)) {
            return BAD;
        }
        Relations known = knownRelations();
        if (has(frame.building, piece) != out || !known.isFree(piece, direction, frame.building)) {
            return STATE;
        }
        history.remember(frame);
        frame.turn(piece);
        return known.propsOf(frame.building);
    }

    private int nextToPut() {
        Relations known = knownRelations();
        for (int piece = 0; piece < frame.pieces; piece++) {
            if (!has(frame.building, piece) && known.firstWay(piece, frame.building) != NONE) {
                return piece;
            }
        }
        return NONE;
    }

    private int shiftFault(int piece, int direction) {
        if (!isPiece(piece) || !isDirection(direction)) {
            return BAD;
        }
        return frame.canMove(piece, direction) ? FINE : STATE;
    }

    private boolean isPiece(int number) {
        return number >= 0 && number < frame.pieces;
    }

    private boolean isSet(int set) {
        return set >= 0 && set <= allPieces();
    }

    private int allPieces() {
        return (1 << frame.pieces) - 1;
    }

    /** What is known of the pieces is worked out again only when it is asked for. */
    private void forgetPieces() {
        measured = false;
        related = false;
        tabled = false;
    }

    private Measures knownMeasures() {
        if (!measured) {
            measures.read(frame);
            measured = true;
        }
        return measures;
    }

    private Relations knownRelations() {
        if (!related) {
            relations.read(frame);
            related = true;
        }
        return relations;
    }

    private Planner knownPlanner() {
        if (!tabled) {
            knownRelations();
            planner.fillTables();
            tabled = true;
        }
        return planner;
    }

    private static boolean isDirection(int direction) {
        return direction >= 0 && direction < DIRECTIONS;
    }

    private static boolean isCoordinate(int value) {
        return value >= 0 && value < SIDE;
    }

    private static boolean has(int set, int piece) {
        return ((set >> piece) & 1) == 1;
    }

    private static int coordinate(int cell, int axis) {
        if (axis == 0) {
            return cell % SIDE;
        }
        return axis == 1 ? cell / SIDE % SIDE : cell / LAYER;
    }

    private static int stride(int axis) {
        if (axis == 0) {
            return 1;
        }
        return axis == 1 ? SIDE : LAYER;
    }

    private static int neighbor(int cell, int direction) {
        int axis = direction / 2;
        int place = coordinate(cell, axis);
        if (direction % 2 == 0) {
            return place == SIDE - 1 ? OUTSIDE : cell + stride(axis);
        }
        return place == 0 ? OUTSIDE : cell - stride(axis);
    }

    /** The six numbers of a box, which are tested as they come in. */
    private static final class Box {
        static final int NUMBERS = 6;

        private final int[] numbers = new int[NUMBERS];

        boolean takeAll(int x, int y, int z, int a, int b, int c) {
            return take(0, x) && take(1, y) && take(2, z) && take(3, a) && take(4, b) && take(5, c);
        }

        /** Takes a number if it is in its range; a size is measured from the corner that came before it. */
        boolean take(int index, int value) {
            if (index < 0 || index >= NUMBERS) {
                return false;
            }
            int least = index < AXES ? 0 : 1;
            int most = index < AXES ? SIDE - 1 : SIDE - numbers[index - AXES];
            if (value < least || value > most) {
                return false;
            }
            numbers[index] = value;
            return true;
        }

        boolean contains(int cell) {
            for (int axis = 0; axis < AXES; axis++) {
                int beyond = coordinate(cell, axis) - numbers[axis];
                if (beyond < 0 || beyond >= numbers[AXES + axis]) {
                    return false;
                }
            }
            return true;
        }
    }

    /**
     * The pieces and the building, which is all that undo() restores. Of the boxes only the number
     * is kept: a piece moves as a whole, so its cells say the rest.
     */
    private static final class Frame {
        final int[] owners = new int[CELLS];
        final int[] boxes = new int[MOST_PIECES];
        int pieces;
        int building;
        int steps;

        Frame() {
            empty();
        }

        void empty() {
            for (int cell = 0; cell < CELLS; cell++) {
                owners[cell] = NOBODY;
            }
            for (int piece = 0; piece < MOST_PIECES; piece++) {
                boxes[piece] = 0;
            }
            pieces = 0;
            building = 0;
            steps = 0;
        }

        void copyFrom(Frame other) {
            System.arraycopy(other.owners, 0, owners, 0, CELLS);
            System.arraycopy(other.boxes, 0, boxes, 0, MOST_PIECES);
            pieces = other.pieces;
            building = other.building;
            steps = other.steps;
        }

        boolean meetsOther(Box box, int piece) {
            for (int cell = 0; cell < CELLS; cell++) {
                int owner = owners[cell];
                if (owner != NOBODY && owner != piece && box.contains(cell)) {
                    return true;
                }
            }
            return false;
        }

        /** Adds a box to a piece; the number behind the last piece begins a new one. */
        void addBox(Box box, int piece) {
            if (piece < 0 || piece > pieces || piece >= MOST_PIECES) {
                return;
            }
            for (int cell = 0; cell < CELLS; cell++) {
                if (box.contains(cell)) {
                    owners[cell] = piece;
                }
            }
            boxes[piece]++;
            if (piece == pieces) {
                pieces++;
            }
        }

        void remove(int piece) {
            if (piece < 0 || piece >= pieces) {
                return;
            }
            for (int cell = 0; cell < CELLS; cell++) {
                if (owners[cell] == piece) {
                    owners[cell] = NOBODY;
                } else if (owners[cell] > piece) {
                    owners[cell]--;
                }
            }
            for (int i = piece + 1; i < pieces; i++) {
                boxes[i - 1] = boxes[i];
            }
            pieces--;
            boxes[pieces] = 0;
            int before = building & ((1 << piece) - 1);
            int behind = building >> (piece + 1);
            building = before | (behind << piece);
        }

        boolean canMove(int piece, int direction) {
            for (int cell = 0; cell < CELLS; cell++) {
                if (owners[cell] == piece && !isOpen(neighbor(cell, direction), piece)) {
                    return false;
                }
            }
            return true;
        }

        private boolean isOpen(int cell, int piece) {
            return cell != OUTSIDE && (owners[cell] == NOBODY || owners[cell] == piece);
        }

        /** The cells go foremost first, so that none is laid on one of its own piece that has yet to go. */
        void move(int piece, int direction) {
            boolean toGreater = direction % 2 == 0;
            for (int i = 0; i < CELLS; i++) {
                int cell = toGreater ? CELLS - 1 - i : i;
                int next = owners[cell] == piece ? neighbor(cell, direction) : OUTSIDE;
                if (next != OUTSIDE) {
                    owners[cell] = NOBODY;
                    owners[next] = piece;
                }
            }
        }

        /** A step of the building: the piece comes if it is not there, and goes if it is. */
        void turn(int piece) {
            building ^= 1 << piece;
            steps++;
        }
    }

    /** What the cells of each piece measure. */
    private static final class Measures {
        final int[] cells = new int[MOST_PIECES];
        final int[] groundCells = new int[MOST_PIECES];
        final int[] smallest = new int[MOST_PIECES * AXES];
        final int[] greatest = new int[MOST_PIECES * AXES];
        int allCells;

        void read(Frame frame) {
            for (int piece = 0; piece < MOST_PIECES; piece++) {
                cells[piece] = 0;
                groundCells[piece] = 0;
            }
            for (int i = 0; i < MOST_PIECES * AXES; i++) {
                smallest[i] = SIDE;
                greatest[i] = -1;
            }
            allCells = 0;
            for (int cell = 0; cell < CELLS; cell++) {
                if (frame.owners[cell] != NOBODY) {
                    measure(cell, frame.owners[cell]);
                }
            }
        }

        private void measure(int cell, int piece) {
            allCells++;
            cells[piece]++;
            if (cell < LAYER) {
                groundCells[piece]++;
            }
            for (int axis = 0; axis < AXES; axis++) {
                int at = AXES * piece + axis;
                smallest[at] = Math.min(smallest[at], coordinate(cell, axis));
                greatest[at] = Math.max(greatest[at], coordinate(cell, axis));
            }
        }
    }

    /** Which pieces block, touch and carry which ones, and what follows from this for sets. */
    private static final class Relations {
        static final int LINES = 36;
        static final int UPWARD = 2;

        final int[] contacts = new int[MOST_PIECES * MOST_PIECES];
        private final int[] blocking = new int[MOST_PIECES * DIRECTIONS];
        private final int[] touching = new int[MOST_PIECES];
        private final int[] below = new int[MOST_PIECES];
        private int grounded;
        private int pieces;

        void read(Frame frame) {
            reset();
            pieces = frame.pieces;
            for (int cell = 0; cell < LAYER; cell++) {
                if (frame.owners[cell] != NOBODY) {
                    grounded |= 1 << frame.owners[cell];
                }
            }
            for (int axis = 0; axis < AXES; axis++) {
                for (int line = 0; line < LINES; line++) {
                    readLine(frame, axis, lineStart(axis, line));
                }
            }
        }

        private void reset() {
            for (int i = 0; i < MOST_PIECES * MOST_PIECES; i++) {
                contacts[i] = 0;
            }
            for (int i = 0; i < MOST_PIECES * DIRECTIONS; i++) {
                blocking[i] = 0;
            }
            for (int piece = 0; piece < MOST_PIECES; piece++) {
                touching[piece] = 0;
                below[piece] = 0;
            }
            grounded = 0;
        }

        private static int lineStart(int axis, int line) {
            if (axis == 0) {
                return SIDE * line;
            }
            return axis == 1 ? LAYER * (line / SIDE) + line % SIDE : line;
        }

        private void readLine(Frame frame, int axis, int start) {
            int stride = stride(axis);
            int behind = 0;
            int ahead = 0;
            int last = NOBODY;
            for (int i = 0; i < SIDE; i++) {
                int owner = frame.owners[start + i * stride];
                behind = block(owner, 2 * axis + 1, behind);
                ahead = block(frame.owners[start + (SIDE - 1 - i) * stride], 2 * axis, ahead);
                if (owner != NOBODY && last != NOBODY && owner != last) {
                    join(last, owner, axis);
                }
                last = owner;
            }
        }

        /** Answers the pieces that were passed, with the owner of this cell. */
        private int block(int owner, int direction, int passed) {
            if (owner == NOBODY) {
                return passed;
            }
            int self = 1 << owner;
            blocking[DIRECTIONS * owner + direction] |= passed & ~self;
            return passed | self;
        }

        private void join(int first, int second, int axis) {
            contacts[MOST_PIECES * first + second]++;
            contacts[MOST_PIECES * second + first]++;
            touching[first] |= 1 << second;
            touching[second] |= 1 << first;
            if (axis == UPWARD) {
                below[second] |= 1 << first;
            }
        }

        int blockersOf(int piece, int direction) {
            return blocking[DIRECTIONS * piece + direction];
        }

        boolean isFree(int piece, int direction, int set) {
            return (blocking[DIRECTIONS * piece + direction] & set) == 0;
        }

        int firstWay(int piece, int set) {
            for (int direction = 0; direction < DIRECTIONS; direction++) {
                if (isFree(piece, direction, set)) {
                    return direction;
                }
            }
            return NONE;
        }

        boolean isConnected(int set) {
            int reached = set & -set;
            for (int round = 0; round < pieces; round++) {
                for (int piece = 0; piece < pieces; piece++) {
                    if (has(reached, piece)) {
                        reached |= touching[piece] & set;
                    }
                }
            }
            return reached == set;
        }

        int propsOf(int set) {
            int needed = 0;
            for (int piece = 0; piece < pieces; piece++) {
                if (has(set, piece) && !has(grounded, piece) && (below[piece] & set) == 0) {
                    needed++;
                }
            }
            return needed;
        }

        int standingOf(int set) {
            int stands = grounded & set;
            for (int round = 0; round < pieces; round++) {
                for (int piece = 0; piece < pieces; piece++) {
                    if (has(set, piece) && (below[piece] & stands) != 0) {
                        stands |= 1 << piece;
                    }
                }
            }
            return stands;
        }

        int lockedOf(int set) {
            int left = set;
            for (int round = 0; round < pieces; round++) {
                for (int piece = 0; piece < pieces; piece++) {
                    if (has(left, piece) && firstWay(piece, left) != NONE) {
                        left ^= 1 << piece;
                    }
                }
            }
            return left;
        }

        /** Masks come in rising order, so of groups of one size the first one is kept. */
        int smallestGroup(int set) {
            int best = NONE;
            int bestSize = MOST_PIECES;
            for (int group = 1; group < set; group++) {
                boolean better = (group & ~set) == 0 && Integer.bitCount(group) < bestSize;
                if (better && wayOfGroup(group, set) != NONE) {
                    best = group;
                    bestSize = Integer.bitCount(group);
                }
            }
            return best;
        }

        int wayOfGroup(int group, int set) {
            for (int direction = 0; direction < DIRECTIONS; direction++) {
                if (isGroupFree(group, direction, set & ~group)) {
                    return direction;
                }
            }
            return NONE;
        }

        private boolean isGroupFree(int group, int direction, int rest) {
            for (int piece = 0; piece < pieces; piece++) {
                if (has(group, piece) && !isFree(piece, direction, rest)) {
                    return false;
                }
            }
            return true;
        }
    }

    /** The orders of all sets, and the plan of the set that was asked for last. */
    private static final class Planner {
        static final int NO_SET = -1;

        final int[] orderCounts = new int[SETS];
        final int[] fewest = new int[SETS];
        final int[] planPieces = new int[MOST_PIECES];
        final int[] planWays = new int[MOST_PIECES];
        int planSize;
        private final Relations relations;
        private final int[] propCounts = new int[SETS];
        private final boolean[] leadsOn = new boolean[SETS];
        private int plannedSet = NO_SET;

        Planner(Relations relations) {
            this.relations = relations;
        }

        void fillTables() {
            plannedSet = NO_SET;
            orderCounts[0] = 1;
            fewest[0] = 0;
            propCounts[0] = 0;
            int end = 1 << relations.pieces;
            for (int set = 1; set < end && set < SETS; set++) {
                fillRow(set);
            }
        }

        /** The piece that comes last splits the orders of a set; those before it are a smaller mask. */
        private void fillRow(int set) {
            int orderCount = 0;
            int least = MOST_PIECES;
            for (int piece = 0; piece < relations.pieces; piece++) {
                int before = set & ~(1 << piece);
                if (before != set && orderCounts[before] > 0 && relations.firstWay(piece, before) != NONE) {
                    orderCount += orderCounts[before];
                    least = Math.min(least, fewest[before]);
                }
            }
            orderCounts[set] = orderCount;
            propCounts[set] = relations.propsOf(set);
            fewest[set] = orderCount == 0 ? NONE : Math.max(least, propCounts[set]);
        }

        void plan(int set) {
            if (set == plannedSet || set < 0 || set >= SETS) {
                return;
            }
            plannedSet = set;
            planSize = 0;
            if (orderCounts[set] > 0) {
                markLeading(set);
                followLeading(set);
            }
        }

        /** Marks the subsets from which the set can be ended without more props than its fewest. */
        private void markLeading(int set) {
            leadsOn[set] = true;
            for (int part = set - 1; part >= 0; part--) {
                if ((part & ~set) == 0) {
                    leadsOn[part] = propCounts[part] <= fewest[set] && nextPlanned(set, part) != NONE;
                }
            }
        }

        private void followLeading(int set) {
            int before = 0;
            for (int k = 0; k < MOST_PIECES && before != set; k++) {
                int piece = nextPlanned(set, before);
                if (piece == NONE) {
                    return;
                }
                planPieces[k] = piece;
                planWays[k] = relations.firstWay(piece, before);
                planSize = k + 1;
                before |= 1 << piece;
            }
        }

        private int nextPlanned(int set, int before) {
            for (int piece = 0; piece < relations.pieces; piece++) {
                boolean open = has(set & ~before, piece) && leadsOn[before | (1 << piece)];
                if (open && relations.firstWay(piece, before) != NONE) {
                    return piece;
                }
            }
            return NONE;
        }
    }

    /** The remembered states, in a ring: the newest one takes the place of the oldest one. */
    private static final class History {
        int size;
        private final Frame[] states = new Frame[MOST_STATES];
        private int oldest;

        History() {
            for (int i = 0; i < MOST_STATES; i++) {
                states[i] = new Frame();
            }
        }

        void remember(Frame frame) {
            states[(oldest + size) % MOST_STATES].copyFrom(frame);
            if (size < MOST_STATES) {
                size++;
            } else {
                oldest = (oldest + 1) % MOST_STATES;
            }
        }

        void restore(Frame frame) {
            if (size > 0) {
                size--;
                frame.copyFrom(states[(oldest + size) % MOST_STATES]);
            }
        }
    }

    /** The text buffer and how it is read: sign by sign, up to the first fault. */
    private static final class Text {
        static final int WRONG_SIGN = 1;
        static final int WRONG_DIGIT = 2;
        static final int TAKEN_CELL = 3;
        static final int NINTH_PIECE = 4;

        static final int AT_START = 0;
        static final int BOX_DUE = 1;
        static final int IN_BOX = 2;
        static final int BEHIND_BOX = 3;

        int length;
        int fault;
        private final int[] codes = new int[MOST_SIGNS];
        private final Box box = new Box();
        private int place;
        private int digits;
        private int piece;

        void append(int code) {
            if (length >= 0 && length < MOST_SIGNS) {
                codes[length] = code;
                length++;
            }
        }

        /** Answers the position of the fault, or the length of the text if there is none. */
        int readInto(Frame frame) {
            frame.empty();
            place = AT_START;
            digits = 0;
            piece = 0;
            for (int i = 0; i < length && i < MOST_SIGNS; i++) {
                fault = readSign(codes[i], frame);
                if (fault != NO_FAULT) {
                    return i;
                }
            }
            fault = place == BOX_DUE || place == IN_BOX ? WRONG_SIGN : NO_FAULT;
            return length;
        }

        private int readSign(int code, Frame frame) {
            if (code == ' ' && place != IN_BOX) {
                return NO_FAULT;
            }
            return place == BEHIND_BOX ? readSeparator(code, frame) : readDigit(code, frame);
        }

        private int readDigit(int code, Frame frame) {
            if (code < '0' || code > '9') {
                return WRONG_SIGN;
            }
            if (!box.take(digits, code - '0')) {
                return WRONG_DIGIT;
            }
            digits++;
            place = IN_BOX;
            if (digits < Box.NUMBERS) {
                return NO_FAULT;
            }
            if (frame.meetsOther(box, piece)) {
                return TAKEN_CELL;
            }
            frame.addBox(box, piece);
            digits = 0;
            place = BEHIND_BOX;
            return NO_FAULT;
        }

        private int readSeparator(int code, Frame frame) {
            if (code == ';') {
                return beginPiece();
            }
            boolean full = piece >= MOST_PIECES || frame.boxes[piece] >= MOST_BOXES;
            if (code != '+' || full) {
                return WRONG_SIGN;
            }
            place = BOX_DUE;
            return NO_FAULT;
        }

        private int beginPiece() {
            if (piece >= MOST_PIECES - 1) {
                return NINTH_PIECE;
            }
            piece++;
            place = BOX_DUE;
            return NO_FAULT;
        }
    }
}
