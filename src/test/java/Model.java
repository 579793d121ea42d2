import java.util.ArrayDeque;
import java.util.ArrayList;
import java.util.Arrays;
import java.util.Deque;
import java.util.HashSet;
import java.util.List;
import java.util.Set;
import java.util.regex.Matcher;
import java.util.regex.Pattern;

/**
 * The document once more, told as plainly as it can be and as unlike FrameRaiser as it can be: pieces
 * keep their boxes, every relation is looked up cell by cell, orders are walked through one by one,
 * and the text is judged by a pattern. It is slow, and only tests use it.
 */
final class Model {
    static final int BAD = -1, STATE = -2, FULL = -3, NONE = -9;

    private static final int[][] STEPS = {{1, 0, 0}, {-1, 0, 0}, {0, 1, 0}, {0, -1, 0}, {0, 0, 1}, {0, 0, -1}};

    /** A state that undo brings back; pieces are lists of boxes that are never changed. */
    private record State(List<List<int[]>> pieces, Set<List<int[]>> building, int steps) {
    }

    // A piece is told from others by being this very list, so each list stands for one piece alone.
    private List<List<int[]>> pieces = new ArrayList<>();
    private Set<List<int[]>> building = identities();
    private int steps;
    private final StringBuilder text = new StringBuilder();
    private int faultKind;
    private final Deque<State> history = new ArrayDeque<>();

    private static Set<List<int[]>> identities() {
        return java.util.Collections.newSetFromMap(new java.util.IdentityHashMap<>());
    }

    // ---- cells

    private static boolean inSpace(int[] cell) {
        return Arrays.stream(cell).allMatch(v -> 0 <= v && v <= 5);
    }

    private static boolean isBox(int... box) {
        for (int i = 0; i < 3; i++) {
            if (box[i] < 0 || box[i] > 5 || box[i + 3] < 1 || (long) box[i] + box[i + 3] - 1 > 5) {
                return false;
            }
        }
        return true;
    }

    private static int key(int... cell) {
        return cell[0] * 100 + cell[1] * 10 + cell[2];
    }

    private static int[] unkey(int key) {
        return new int[] {key / 100, key / 10 % 10, key % 10};
    }

    private static int[] go(int[] cell, int direction, int far) {
        int[] to = cell.clone();
        for (int i = 0; i < 3; i++) {
            to[i] += far * STEPS[direction][i];
        }
        return to;
    }

    private static Set<Integer> cells(List<int[]> boxes) {
        Set<Integer> all = new HashSet<>();
        for (int[] box : boxes) {
            for (int x = box[0]; x < box[0] + box[3]; x++) {
                for (int y = box[1]; y < box[1] + box[4]; y++) {
                    for (int z = box[2]; z < box[2] + box[5]; z++) {
                        all.add(key(x, y, z));
                    }
                }
            }
        }
        return all;
    }

    private static boolean share(List<int[]> some, List<int[]> others) {
        Set<Integer> common = cells(some);
        common.retainAll(cells(others));
        return !common.isEmpty();
    }

    private boolean meets(List<int[]> boxes, int butPiece) {
        for (int i = 0; i < pieces.size(); i++) {
            if (i != butPiece && share(boxes, pieces.get(i))) {
                return true;
            }
        }
        return false;
    }

    private boolean noPiece(int piece) {
        return piece < 0 || piece >= pieces.size();
    }

    private static boolean noDirection(int direction) {
        return direction < 0 || direction > 5;
    }

    private boolean noSet(int set) {
        for (int bit = 0; bit < 32; bit++) {
            if ((set >>> bit & 1) == 1 && bit >= pieces.size()) {
                return true;
            }
        }
        return false;
    }

    private static List<Integer> members(int set) {
        List<Integer> all = new ArrayList<>();
        for (int i = 0; i < 8; i++) {
            if ((set >> i & 1) == 1) {
                all.add(i);
            }
        }
        return all;
    }

    private void record() {
        Set<List<int[]>> standing = identities();
        standing.addAll(building);
        history.addLast(new State(new ArrayList<>(pieces), standing, steps));
        if (history.size() > 8) {
            history.removeFirst();
        }
    }

    private void replace(int piece, List<int[]> boxes) {
        if (building.remove(pieces.get(piece))) {
            building.add(boxes);
        }
        pieces.set(piece, boxes);
    }

    private int buildingMask() {
        int mask = 0;
        for (int i = 0; i < pieces.size(); i++) {
            if (building.contains(pieces.get(i))) {
                mask |= 1 << i;
            }
        }
        return mask;
    }

    // ---- pieces

    int type(int code) {
        if (code < 32 || code > 126) {
            return BAD;
        }
        if (text.length() == 80) {
            return FULL;
        }
        return text.append((char) code).length();
    }

    int clearText() {
        int had = text.length();
        text.setLength(0);
        return had;
    }

    private static final String BOX = "[0-9]{6}";
    private static final String PIECE = BOX + "( *\\+ *" + BOX + "){0,3}";
    private static final Pattern FORM = Pattern.compile(" *(" + PIECE + "( *; *" + PIECE + ")*)? *");

    /** The first position at which the text, looked at up to there, has no good end any more. */
    private int formFault(String all) {
        for (int end = 0; end <= all.length(); end++) {
            Matcher matcher = FORM.matcher(all.substring(0, end));
            if (!matcher.matches() && !matcher.hitEnd()) {
                return end - 1;
            }
        }
        return FORM.matcher(all).matches() ? -1 : all.length();
    }

    int load() {
        String all = text.toString();
        List<int[]> faults = new ArrayList<>();
        int form = formFault(all);
        if (form >= 0) {
            faults.add(new int[] {form, 1});
        }
        String sound = form < 0 ? all : all.substring(0, form);
        List<List<int[]>> read = readSound(sound, faults);
        if (form >= 0 && form < all.length() && all.charAt(form) == ';' && read.size() == 8
                && sound.stripTrailing().matches(".*[0-9]{6}")) {
            faults.add(new int[] {form, 4});
        }
        faultKind = 0;
        if (!faults.isEmpty()) {
            faults.sort((p, q) -> p[0] != q[0] ? p[0] - q[0] : p[1] - q[1]);
            faultKind = faults.get(0)[1];
            return -10 - faults.get(0)[0];
        }
        record();
        pieces = read;
        building = identities();
        steps = 0;
        return pieces.size();
    }

    private static List<List<int[]>> readSound(String sound, List<int[]> faults) {
        List<List<int[]>> read = new ArrayList<>();
        Matcher token = Pattern.compile("[0-9]{1,6}|;").matcher(sound);
        List<int[]> current = new ArrayList<>();
        read.add(current);
        while (token.find()) {
            if (token.group().equals(";")) {
                current = new ArrayList<>();
                read.add(current);
                if (read.size() == 9) {
                    faults.add(new int[] {token.start(), 4});
                }
                continue;
            }
            int[] box = digits(token, faults);
            if (box == null) {
                continue;
            }
            for (List<int[]> other : read) {
                if (other != current && share(List.of(box), other)) {
                    faults.add(new int[] {token.end() - 1, 3});
                }
            }
            current.add(box);
        }
        return sound.isBlank() ? new ArrayList<>() : read;
    }

    /** The box that the digits tell; null if it is none, or if they are too few. */
    private static int[] digits(Matcher token, List<int[]> faults) {
        int[] box = new int[6];
        boolean good = token.group().length() == 6;
        for (int i = 0; i < token.group().length(); i++) {
            box[i] = token.group().charAt(i) - '0';
            boolean fits = i < 3 ? box[i] <= 5 : box[i] >= 1 && box[i] <= 6 && box[i - 3] + box[i] <= 6;
            if (!fits) {
                faults.add(new int[] {token.start() + i, 2});
                good = false;
            }
        }
        return good ? box : null;
    }

    int faultKind() {
        return faultKind;
    }

    int clear() {
        record();
        int had = pieces.size();
        pieces = new ArrayList<>();
        building = identities();
        steps = 0;
        return had;
    }

    int addPiece(int x, int y, int z, int a, int b, int c) {
        int[] box = {x, y, z, a, b, c};
        if (!isBox(box)) {
            return BAD;
        }
        if (meets(List.of(box), -1)) {
            return STATE;
        }
        if (pieces.size() == 8) {
            return FULL;
        }
        record();
        pieces.add(new ArrayList<>(List.of(box)));
        return pieces.size() - 1;
    }

    int extend(int piece, int x, int y, int z, int a, int b, int c) {
        int[] box = {x, y, z, a, b, c};
        if (noPiece(piece) || !isBox(box)) {
            return BAD;
        }
        if (meets(List.of(box), piece)) {
            return STATE;
        }
        if (pieces.get(piece).size() == 4) {
            return FULL;
        }
        record();
        List<int[]> boxes = new ArrayList<>(pieces.get(piece));
        boxes.add(box);
        replace(piece, boxes);
        return cells(boxes).size();
    }

    int drop(int piece) {
        if (noPiece(piece)) {
            return BAD;
        }
        record();
        building.remove(pieces.remove(piece));
        return pieces.size();
    }

    /** The boxes of the piece after a step, or null if it cannot be. */
    private List<int[]> shifted(int piece, int direction) {
        List<int[]> moved = new ArrayList<>();
        for (int[] box : pieces.get(piece)) {
            int[] next = box.clone();
            for (int i = 0; i < 3; i++) {
                next[i] += STEPS[direction][i];
            }
            moved.add(next);
            if (!isBox(next)) {
                return null;
            }
        }
        return meets(moved, piece) ? null : moved;
    }

    int shift(int piece, int direction) {
        if (noPiece(piece) || noDirection(direction)) {
            return BAD;
        }
        List<int[]> moved = shifted(piece, direction);
        if (moved == null) {
            return STATE;
        }
        record();
        replace(piece, moved);
        return 1;
    }

    int pieceAt(int x, int y, int z) {
        if (!inSpace(new int[] {x, y, z})) {
            return BAD;
        }
        for (int i = 0; i < pieces.size(); i++) {
            if (cells(pieces.get(i)).contains(key(x, y, z))) {
                return i;
            }
        }
        return NONE;
    }

    int piece(int piece, int what) {
        if (noPiece(piece) || what < 0 || what > 9) {
            return BAD;
        }
        Set<Integer> cells = cells(pieces.get(piece));
        if (what == 0) {
            return cells.size();
        }
        if (what == 1) {
            return pieces.get(piece).size();
        }
        if (what <= 4) {
            return cells.stream().mapToInt(cell -> unkey(cell)[what - 2]).min().getAsInt();
        }
        if (what <= 7) {
            return cells.stream().mapToInt(cell -> unkey(cell)[what - 5]).max().getAsInt();
        }
        if (what == 8) {
            return (int) cells.stream().filter(cell -> unkey(cell)[2] == 0).count();
        }
        return building.contains(pieces.get(piece)) ? 1 : 0;
    }

    // ---- ways

    private boolean blocks(int i, int k, int direction) {
        Set<Integer> obstacle = cells(pieces.get(i));
        for (int cell : cells(pieces.get(k))) {
            for (int far = 1; inSpace(go(unkey(cell), direction, far)); far++) {
                if (obstacle.contains(key(go(unkey(cell), direction, far)))) {
                    return true;
                }
            }
        }
        return false;
    }

    // blocks() is asked far too often to be worked out each time; what it was worked out for is kept with it.
    private final int[][] blockerCache = new int[8][6];
    private List<List<int[]>> blockerCacheOf = null;

    private boolean samePieces(List<List<int[]>> others) {
        if (others == null || others.size() != pieces.size()) {
            return false;
        }
        for (int i = 0; i < others.size(); i++) {
            if (others.get(i) != pieces.get(i)) {
                return false;
            }
        }
        return true;
    }

    private int blockerSet(int piece, int direction) {
        if (!samePieces(blockerCacheOf)) {
            for (int k = 0; k < pieces.size(); k++) {
                for (int d = 0; d < 6; d++) {
                    blockerCache[k][d] = 0;
                    for (int i = 0; i < pieces.size(); i++) {
                        if (i != k && blocks(i, k, d)) {
                            blockerCache[k][d] |= 1 << i;
                        }
                    }
                }
            }
            blockerCacheOf = new ArrayList<>(pieces);
        }
        return blockerCache[piece][direction];
    }

    private boolean free(int piece, int direction, int among) {
        for (int i : members(blockerSet(piece, direction))) {
            if ((among >> i & 1) == 1) {
                return false;
            }
        }
        return true;
    }

    private int smallestWay(int piece, int among) {
        for (int d = 0; d < 6; d++) {
            if (free(piece, d, among)) {
                return d;
            }
        }
        return NONE;
    }

    int blockers(int piece, int direction) {
        if (noPiece(piece) || noDirection(direction)) {
            return BAD;
        }
        return blockerSet(piece, direction);
    }

    int ways(int piece, int set) {
        if (noPiece(piece) || noSet(set)) {
            return BAD;
        }
        int all = 0;
        for (int d = 0; d < 6; d++) {
            all += free(piece, d, set) ? 1 << d : 0;
        }
        return all;
    }

    private int touches(int a, int b) {
        int pairs = 0;
        Set<Integer> others = cells(pieces.get(b));
        for (int cell : cells(pieces.get(a))) {
            for (int d = 0; d < 6; d++) {
                int[] next = go(unkey(cell), d, 1);
                pairs += inSpace(next) && others.contains(key(next)) ? 1 : 0;
            }
        }
        return pairs;
    }

    int contact(int a, int b) {
        if (noPiece(a) || noPiece(b) || a == b) {
            return BAD;
        }
        return touches(a, b);
    }

    int hangsTogether(int set) {
        if (noSet(set)) {
            return BAD;
        }
        List<Integer> left = members(set);
        Deque<Integer> open = new ArrayDeque<>();
        if (!left.isEmpty()) {
            open.add(left.remove(left.size() - 1));
        }
        while (!open.isEmpty()) {
            int from = open.remove();
            for (int i = left.size() - 1; i >= 0; i--) {
                if (touches(from, left.get(i)) > 0) {
                    open.add(left.remove(i));
                }
            }
        }
        return left.isEmpty() ? 1 : 0;
    }

    // ---- support

    private boolean onGround(int piece) {
        return cells(pieces.get(piece)).stream().anyMatch(cell -> cell % 10 == 0);
    }

    private boolean liesOn(int upper, int lower) {
        Set<Integer> base = cells(pieces.get(lower));
        return cells(pieces.get(upper)).stream().anyMatch(cell -> cell % 10 > 0 && base.contains(cell - 1));
    }

    private int propCount(int set) {
        int needed = 0;
        for (int piece : members(set)) {
            boolean carried = onGround(piece);
            for (int other : members(set)) {
                carried |= other != piece && liesOn(piece, other);
            }
            needed += carried ? 0 : 1;
        }
        return needed;
    }

    int props(int set) {
        return noSet(set) ? BAD : propCount(set);
    }

    int standing(int set) {
        if (noSet(set)) {
            return BAD;
        }
        int stands = 0;
        int before = -1;
        while (stands != before) {
            before = stands;
            for (int piece : members(set)) {
                boolean carried = onGround(piece);
                for (int other : members(stands)) {
                    carried |= other != piece && liesOn(piece, other);
                }
                stands |= carried ? 1 << piece : 0;
            }
        }
        return stands;
    }

    // ---- orders

    private int orderCount;
    private int bestProps;
    private List<Integer> bestOrder;
    private final int[] propsOfSet = new int[256];

    /** Walks through all orders in lexicographic order; the first of the best ones is kept. */
    private void walk(int set, List<Integer> before, int worst) {
        int there = before.stream().mapToInt(p -> 1 << p).sum();
        if (there == set) {
            orderCount++;
            if (bestOrder == null || worst < bestProps) {
                bestOrder = new ArrayList<>(before);
                bestProps = worst;
            }
            return;
        }
        for (int piece : members(set & ~there)) {
            if (smallestWay(piece, there) != NONE) {
                before.add(piece);
                int then = there | 1 << piece;
                if (propsOfSet[then] < 0) {
                    propsOfSet[then] = propCount(then);
                }
                walk(set, before, Math.max(worst, propsOfSet[then]));
                before.remove(before.size() - 1);
            }
        }
    }

    private int walkedSet = -1;
    private List<List<int[]>> walkedOf = null;

    private void walkAll(int set) {
        if (walkedSet == set && samePieces(walkedOf)) {
            return;
        }
        Arrays.fill(propsOfSet, -1);
        orderCount = 0;
        bestProps = 99;
        bestOrder = null;
        walk(set, new ArrayList<>(), 0);
        walkedSet = set;
        walkedOf = new ArrayList<>(pieces);
    }

    int orders(int set) {
        if (noSet(set)) {
            return BAD;
        }
        walkAll(set);
        return orderCount;
    }

    int fewestProps(int set) {
        if (noSet(set)) {
            return BAD;
        }
        walkAll(set);
        return bestOrder == null ? NONE : bestProps;
    }

    int planned(int set, int k, boolean direction) {
        if (noSet(set) || k < 0) {
            return BAD;
        }
        walkAll(set);
        if (bestOrder == null || k >= bestOrder.size()) {
            return NONE;
        }
        int before = bestOrder.subList(0, k).stream().mapToInt(p -> 1 << p).sum();
        return direction ? smallestWay(bestOrder.get(k), before) : bestOrder.get(k);
    }

    /** Takes out the greatest number first: which one is taken does not matter. */
    private int lockedIn(int set) {
        for (int piece = 7; piece >= 0; piece--) {
            if ((set >> piece & 1) == 1 && smallestWay(piece, set) != NONE) {
                return lockedIn(set & ~(1 << piece));
            }
        }
        return set;
    }

    int locked(int set) {
        return noSet(set) ? BAD : lockedIn(set);
    }

    int firstGroup(int set, boolean direction) {
        if (noSet(set)) {
            return BAD;
        }
        for (int size = 1; size < 8; size++) {
            for (int group = 1; group < 256; group++) {
                if ((group & set) != group || group == set || members(group).size() != size) {
                    continue;
                }
                for (int d = 0; d < 6; d++) {
                    boolean all = true;
                    for (int piece : members(group)) {
                        all &= free(piece, d, set & ~group);
                    }
                    if (all) {
                        return direction ? d : group;
                    }
                }
            }
        }
        return NONE;
    }

    // ---- building

    int put(int piece, int direction) {
        if (noPiece(piece) || noDirection(direction)) {
            return BAD;
        }
        if (building.contains(pieces.get(piece)) || !free(piece, direction, buildingMask())) {
            return STATE;
        }
        record();
        building.add(pieces.get(piece));
        steps++;
        return propCount(buildingMask());
    }

    int takeOut(int piece, int direction) {
        if (noPiece(piece) || noDirection(direction)) {
            return BAD;
        }
        if (!building.contains(pieces.get(piece)) || !free(piece, direction, buildingMask())) {
            return STATE;
        }
        record();
        building.remove(pieces.get(piece));
        steps++;
        return propCount(buildingMask());
    }

    int putAll() {
        record();
        int done = 0;
        boolean again = true;
        while (again) {
            again = false;
            for (int i = 0; i < pieces.size() && !again; i++) {
                if (!building.contains(pieces.get(i)) && smallestWay(i, buildingMask()) != NONE) {
                    building.add(pieces.get(i));
                    steps++;
                    done++;
                    again = true;
                }
            }
        }
        return done;
    }

    // ---- what would be

    int ifShift(int piece, int direction) {
        if (noPiece(piece) || noDirection(direction)) {
            return BAD;
        }
        List<int[]> moved = shifted(piece, direction);
        if (moved == null) {
            return STATE;
        }
        List<int[]> kept = pieces.set(piece, moved);
        int count = members(lockedIn((1 << pieces.size()) - 1)).size();
        pieces.set(piece, kept);
        return count;
    }

    // ---- history

    int undo() {
        if (history.isEmpty()) {
            return STATE;
        }
        State state = history.removeLast();
        pieces = state.pieces();
        building = state.building();
        steps = state.steps();
        return history.size();
    }

    int count(int what) {
        switch (what) {
            case 0: return pieces.size();
            case 1: return pieces.stream().mapToInt(boxes -> cells(boxes).size()).sum();
            case 2: return buildingMask();
            case 3: return steps;
            case 4: return propCount(buildingMask());
            case 5: return text.length();
            case 6: return history.size();
            default: return BAD;
        }
    }

    long digest() {
        List<Integer> values = new ArrayList<>();
        for (int i = 0; i < 7; i++) {
            values.add(count(i));
        }
        for (int i = 0; i < pieces.size(); i++) {
            for (int what = 0; what < 10; what++) {
                values.add(piece(i, what));
            }
            for (int d = 0; d < 6; d++) {
                values.add(blockers(i, d));
            }
        }
        for (int set : new int[] {(1 << pieces.size()) - 1, buildingMask()}) {
            values.add(orders(set));
            values.add(fewestProps(set));
            for (int k = 0; k < 8; k++) {
                values.add(planned(set, k, false));
                values.add(planned(set, k, true));
            }
            values.addAll(List.of(locked(set), firstGroup(set, false), firstGroup(set, true)));
            values.addAll(List.of(standing(set), hangsTogether(set)));
        }
        long h = 12942;
        for (int value : values) {
            h = 31 * h + value;
        }
        return h;
    }
}
