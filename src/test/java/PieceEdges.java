/** The boundary cases of space and of the pieces: promises 1 and 6 to 12. */
final class PieceEdges {
    private static final int TERMS = Edges.TERMS;
    private static final int BAD = Edges.BAD, STATE = Edges.STATE, FULL = Edges.FULL, NONE = Edges.NONE;
    private static final int LEAST = Edges.LEAST, MOST = Edges.MOST;
    private static final int[] NO_COORDINATES = {-1, 6, 7, 36, 256, LEAST, MOST};

    private PieceEdges() {
    }

    static void run() {
        newObject();
        space();
        terms();
        clear();
        addPiece();
        extend();
        drop();
        shift();
        pieceAt();
        piece();
    }

    private static void newObject() {
        Edges.sentence(1, "Creates a planner without pieces, with an empty building and an empty text buffer; there are no "
                + "remembered states.");
        Told x = new Told();
        for (int what = 0; what < 7; what++) {
            Edges.due(0, x.count(what), x);
        }
        for (int cell = 0; cell < 216; cell++) {
            Edges.due(NONE, x.pieceAt(cell % 6, cell / 6 % 6, cell / 36), x);
        }
        Edges.due(STATE, x.undo(), x);
        Edges.due(BAD, x.piece(0, 0), x);
        Edges.due(BAD, x.drop(0), x);
        Edges.due(0, x.clearText(), x);
        // What one object is told is not in another one.
        Edges.after(Edges::busy);
        Edges.answers(0, Edges::nothing, y -> y.count(0));
        Edges.answers(0, Edges::nothing, y -> y.count(6));
        Edges.answers(0, Edges::nothing, Told::faultKind);
    }

    private static void space() {
        Edges.sentence(TERMS, "Space consists of the cells (x, y, z) with coordinates from 0 to 5");
        for (int corner = 0; corner < 8; corner++) {
            int[] box = {5 * (corner & 1), 5 * (corner >> 1 & 1), 5 * (corner >> 2), 1, 1, 1};
            Told x = new Told();
            Edges.due(0, Edges.add(x, box), x);
            Edges.due(0, x.pieceAt(box[0], box[1], box[2]), x);
            Edges.due(1, x.count(1), x);
        }
        Told whole = new Told();
        Edges.due(0, whole.addPiece(0, 0, 0, 6, 6, 6), whole);
        Edges.due(216, whole.count(1), whole);
        for (int direction = 0; direction < 6; direction++) {
            Edges.due(STATE, whole.shift(0, direction), whole);
        }

        Edges.sentence(TERMS, "the cells with z = 0 lie on the ground.");
        Told ground = Edges.of("000111;221111;550116");
        Edges.due(1, ground.piece(0, 8), ground);
        Edges.due(0, ground.piece(1, 8), ground);
        Edges.due(1, ground.piece(2, 8), ground);
        Edges.due(1, ground.props(7), ground);
        Edges.due(5, ground.standing(7), ground);

        Edges.sentence(TERMS, "The directions are 0 to greater x, 1 to smaller x, 2 to greater y, 3 to smaller y, 4 to greater "
                + "z (up), 5 to smaller z (down).");
        int[][] steps = {{3, 2, 2}, {1, 2, 2}, {2, 3, 2}, {2, 1, 2}, {2, 2, 3}, {2, 2, 1}};
        for (int direction = 0; direction < 6; direction++) {
            Told x = Edges.of("222111");
            Edges.due(1, x.shift(0, direction), x);
            Edges.due(0, x.pieceAt(steps[direction][0], steps[direction][1], steps[direction][2]), x);
            Edges.due(NONE, x.pieceAt(2, 2, 2), x);
            Told star = Edges.of(Edges.STAR);
            Edges.due(2 << direction, star.blockers(0, direction), star);
        }
    }

    private static void terms() {
        Edges.sentence(TERMS, "There are at most 8 pieces, numbered from 0 in the order in which they were added.");
        Told x = new Told();
        for (int i = 0; i < 8; i++) {
            Edges.due(i, x.addPiece(i % 6, i / 6, 0, 1, 1, 1), x);
        }
        Edges.due(FULL, x.addPiece(5, 5, 5, 1, 1, 1), x);
        Edges.due(7, x.drop(3), x);
        Edges.due(7, x.addPiece(5, 5, 5, 1, 1, 1), x);
        Edges.due(FULL, x.addPiece(3, 0, 0, 1, 1, 1), x);
        Edges.due(7, x.pieceAt(5, 5, 5), x);

        Edges.sentence(TERMS, "A piece consists of 1 to 4 boxes");
        Told y = Edges.of("000111");
        Edges.due(1, y.piece(0, 1), y);
        for (int boxes = 2; boxes <= 4; boxes++) {
            Edges.due(boxes, y.extend(0, boxes, 0, 0, 1, 1, 1), y);
            Edges.due(boxes, y.piece(0, 1), y);
        }
        Edges.due(FULL, y.extend(0, 5, 0, 0, 1, 1, 1), y);
        Edges.due(4, y.piece(0, 1), y);

        Edges.sentence(TERMS, "it consists of the cells from (x, y, z) to (x + a - 1, y + b - 1, z + c - 1), all of which are in "
                + "space, where a, b and c are 1 or more.");
        Told box = new Told();
        box.addPiece(1, 2, 3, 3, 2, 1);
        for (int cell = 0; cell < 216; cell++) {
            int cx = cell % 6;
            int cy = cell / 6 % 6;
            int cz = cell / 36;
            boolean in = cx >= 1 && cx <= 3 && cy >= 2 && cy <= 3 && cz == 3;
            Edges.due(in ? 0 : NONE, box.pieceAt(cx, cy, cz), box);
        }

        Edges.sentence(TERMS, "The cells of a piece are those of its boxes (which can have cells in common, and need not touch).");
        Told z = Edges.of("000311+200311+555111");
        Edges.due(6, z.piece(0, 0), z);
        Edges.due(3, z.piece(0, 1), z);
        Edges.due(6, z.extend(0, 1, 0, 0, 2, 1, 1), z);
        Edges.due(4, z.piece(0, 1), z);

        Edges.sentence(TERMS, "Two pieces have no cell in common.");
        Told w = Edges.of("000111;200111");
        Edges.due(STATE, w.addPiece(0, 0, 0, 1, 1, 1), w);
        Edges.due(STATE, w.extend(0, 2, 0, 0, 1, 1, 1), w);
        Edges.due(2, w.extend(0, 1, 0, 0, 1, 1, 1), w);
        Edges.due(STATE, w.shift(0, 0), w);
        Edges.due(0, w.pieceAt(1, 0, 0), w);
        Edges.due(1, w.pieceAt(2, 0, 0), w);
        Edges.due(3, w.count(1), w);
    }

    private static void clear() {
        Edges.sentence(6, "Returns how many pieces there were.");
        Edges.answers(0, Edges::nothing, Told::clear);
        Edges.answers(1, Edges.pieces("000666"), Told::clear);
        Edges.answers(8, Edges::crowd, Told::clear);

        Edges.sentence(6, "Removes all pieces; the building is as initially. This is a change.");
        Told x = Edges.after(Edges::busy);
        long before = Edges.stateOf(x);
        Edges.due(3, x.clear(), x);
        for (int what = 0; what < 5; what++) {
            Edges.due(0, x.count(what), x);
        }
        Edges.due(21, x.count(5), x);
        Edges.due(6, x.count(6), x);
        Edges.due(2, x.faultKind(), x);
        for (int cell = 0; cell < 216; cell++) {
            Edges.due(NONE, x.pieceAt(cell % 6, cell / 6 % 6, cell / 36), x);
        }
        Edges.due(0, x.clear(), x);
        Edges.due(7, x.count(6), x);
        Edges.due(6, x.undo(), x);
        Edges.due(5, x.undo(), x);
        Edges.due(before, Edges.stateOf(x), x);
        // A piece that comes behind it has nothing of the old one with its number.
        Told y = Edges.of("000111+100111+200111+300111");
        y.put(0, 0);
        y.clear();
        Edges.due(0, y.addPiece(0, 0, 0, 1, 1, 1), y);
        Edges.due(1, y.piece(0, 1), y);
        Edges.due(0, y.piece(0, 9), y);
    }

    /** Boxes that are not in space, each of them by one number or by one pair of numbers. */
    private static int[][] noBoxes() {
        java.util.List<int[]> boxes = new java.util.ArrayList<>();
        for (int axis = 0; axis < 3; axis++) {
            for (int corner : NO_COORDINATES) {
                boxes.add(with(axis, corner, 1));
            }
            for (int size : new int[] {0, -1, -6, LEAST, MOST, 7, 256, LEAST + 1}) {
                boxes.add(with(axis, 5, size));
                boxes.add(with(axis, 1, size));
                boxes.add(with(axis, 0, size));
            }
            for (int corner = 0; corner < 6; corner++) {
                boxes.add(with(axis, corner, 7 - corner));
            }
            // The sum of these is small, or is so when it overflows.
            boxes.add(with(axis, -1, 2));
            boxes.add(with(axis, 6, -1));
            boxes.add(with(axis, MOST, MOST));
            boxes.add(with(axis, LEAST, LEAST));
            boxes.add(with(axis, LEAST, MOST));
            boxes.add(with(axis, MOST, LEAST));
        }
        return boxes.toArray(new int[0][]);
    }

    private static int[] with(int axis, int corner, int size) {
        int[] box = {5, 5, 5, 1, 1, 1};
        box[axis] = corner;
        box[axis + 3] = size;
        return box;
    }

    private static void addPiece() {
        String[] corners = {"the smallest x of its cells, 0 to 5", "the smallest y, 0 to 5", "the smallest z, 0 to 5"};
        String[] sizes = {"its size along x, so that it is in space", "its size along y", "its size along z"};
        for (int axis = 0; axis < 3; axis++) {
            int at = axis;
            Edges.sentence(7, corners[axis]);
            for (int corner = 0; corner < 6; corner++) {
                Told x = new Told();
                Edges.due(0, Edges.add(x, with(axis, corner, 1)), x);
                Edges.due(corner, x.piece(0, 2 + axis), x);
            }
            for (int corner : NO_COORDINATES) {
                Edges.refuses(BAD, Edges::busy, x -> Edges.add(x, with(at, corner, 1)));
            }
            Edges.sentence(7, sizes[axis]);
            for (int corner = 0; corner < 6; corner++) {
                int most = 6 - corner;
                int[] box = with(axis, corner, most);
                Told x = new Told();
                Edges.due(0, Edges.add(x, box), x);
                Edges.due(5, x.piece(0, 5 + axis), x);
                Edges.due(most, x.piece(0, 0), x);
                Edges.refuses(BAD, Edges::busy, y -> Edges.add(y, with(at, 6 - most, most + 1)));
            }
            for (int size : new int[] {0, -1, LEAST, MOST}) {
                Edges.refuses(BAD, Edges::busy, x -> Edges.add(x, with(at, 5, size)));
            }
        }

        Edges.sentence(7, "Returns its number");
        Edges.answers(0, Edges::nothing, x -> x.addPiece(0, 0, 0, 1, 1, 1));
        Edges.answers(3, Edges::busy, x -> x.addPiece(5, 5, 5, 1, 1, 1));
        Edges.answers(7, Edges.pieces(Edges.EIGHT.substring(0, 48)), x -> x.addPiece(5, 5, 5, 1, 1, 1));

        Edges.sentence(7, "BAD if an argument is out of range or the box is not in space");
        for (int[] box : noBoxes()) {
            Edges.refuses(BAD, Edges::nothing, x -> Edges.add(x, box));
            Edges.refuses(BAD, Edges::busy, x -> Edges.add(x, box));
        }

        Edges.sentence(7, "STATE if it has a cell of another piece");
        Edges.refuses(STATE, Edges::busy, x -> x.addPiece(0, 0, 0, 1, 1, 1));
        Edges.refuses(STATE, Edges::busy, x -> x.addPiece(0, 0, 0, 6, 6, 6));
        Edges.refuses(STATE, Edges::busy, x -> x.addPiece(4, 0, 2, 2, 2, 2));
        Edges.refuses(STATE, Edges::busy, x -> x.addPiece(0, 0, 1, 1, 6, 1));
        Edges.refuses(STATE, Edges.pieces("555111"), x -> x.addPiece(0, 5, 5, 6, 1, 1));
        // Beside another piece on every side there is room.
        Edges.answers(3, Edges::busy, x -> x.addPiece(1, 0, 0, 3, 1, 2));
        Edges.answers(3, Edges::busy, x -> x.addPiece(0, 0, 3, 6, 6, 3));

        Edges.sentence(7, "FULL if there are 8 pieces");
        Edges.refuses(FULL, Edges::crowd, x -> x.addPiece(5, 5, 5, 1, 1, 1));
        Edges.refuses(FULL, Edges::crowd, x -> x.addPiece(0, 0, 1, 6, 6, 5));

        Edges.sentence(7, "Adds a piece that consists of a box. This is a change.");
        Told x = Edges.after(Edges::busy);
        Edges.due(3, x.addPiece(5, 5, 5, 1, 1, 1), x);
        Edges.due(6, x.count(6), x);
        Edges.due(1, x.piece(3, 1), x);
        Edges.due(0, x.piece(3, 9), x);
        Edges.due(5, x.count(2), x);
    }

    private static void extend() {
        String[] corners = {"the smallest x of the cells of the box, 0 to 5", "the smallest y, 0 to 5", "the smallest z, 0 to 5"};
        String[] sizes = {"its size along x, so that it is in space", "its size along y", "its size along z"};
        for (int axis = 0; axis < 3; axis++) {
            int at = axis;
            Edges.sentence(8, corners[axis]);
            for (int corner = 0; corner < 6; corner++) {
                Told x = Edges.after(Edges::busy);
                Edges.due(3, Edges.extend(x, 0, with(axis, corner, 1)), x);
                int[] cell = with(axis, corner, 1);
                Edges.due(0, x.pieceAt(cell[0], cell[1], cell[2]), x);
            }
            for (int corner : NO_COORDINATES) {
                Edges.refuses(BAD, Edges::busy, x -> Edges.extend(x, 0, with(at, corner, 1)));
            }
            Edges.sentence(8, sizes[axis]);
            for (int corner = 0; corner < 6; corner++) {
                int most = 6 - corner;
                Told x = Edges.after(Edges::busy);
                Edges.due(2 + most, Edges.extend(x, 0, with(axis, corner, most)), x);
                Edges.due(5, x.piece(0, 5 + axis), x);
                Edges.refuses(BAD, Edges::busy, y -> Edges.extend(y, 0, with(at, 6 - most, most + 1)));
            }
            for (int size : new int[] {0, -1, LEAST, MOST}) {
                Edges.refuses(BAD, Edges::busy, x -> Edges.extend(x, 0, with(at, 5, size)));
            }
        }

        Edges.sentence(8, "Returns how many cells the piece has then");
        Edges.answers(3, Edges::busy, x -> x.extend(0, 5, 5, 5, 1, 1, 1));
        Edges.answers(2, Edges::busy, x -> x.extend(0, 0, 0, 0, 1, 1, 1));
        Edges.answers(2, Edges::busy, x -> x.extend(0, 0, 0, 0, 1, 1, 2));
        Edges.answers(216, Edges.pieces("222111"), x -> x.extend(0, 0, 0, 0, 6, 6, 6));

        Edges.sentence(8, "BAD if there is no such piece, an argument is out of range or the box is not in space");
        for (int piece : Edges.noPieces(0)) {
            Edges.refuses(BAD, Edges::nothing, x -> x.extend(piece, 5, 5, 5, 1, 1, 1));
        }
        for (int piece : Edges.noPieces(3)) {
            Edges.refuses(BAD, Edges::busy, x -> x.extend(piece, 5, 5, 5, 1, 1, 1));
        }
        for (int piece : Edges.noPieces(8)) {
            Edges.refuses(BAD, Edges::crowd, x -> x.extend(piece, 5, 5, 5, 1, 1, 1));
        }
        for (int[] box : noBoxes()) {
            Edges.refuses(BAD, Edges::busy, x -> Edges.extend(x, 2, box));
        }

        Edges.sentence(8, "STATE if it has a cell of another piece");
        Edges.refuses(STATE, Edges::busy, x -> x.extend(0, 4, 0, 0, 1, 1, 1));
        Edges.refuses(STATE, Edges::busy, x -> x.extend(0, 0, 0, 0, 6, 6, 6));
        Edges.refuses(STATE, Edges::busy, x -> x.extend(0, 0, 0, 0, 1, 1, 3));
        Edges.refuses(STATE, Edges::busy, x -> x.extend(2, 0, 0, 1, 1, 1, 1));
        // Its own cells are in nobody's way.
        Edges.answers(216, Edges.pieces("000666"), x -> x.extend(0, 0, 0, 0, 6, 6, 6));

        Edges.sentence(8, "FULL if the piece has 4 boxes");
        Edges.Scene three = Edges.pieces("500111;000111+100111+200111;505111");
        Edges.answers(4, three, x -> x.extend(1, 3, 0, 0, 1, 1, 1));
        Edges.Scene four = Edges.pieces("500111;000111+100111+200111+300111;505111");
        Edges.refuses(FULL, four, x -> x.extend(1, 5, 5, 5, 1, 1, 1));
        Edges.refuses(FULL, four, x -> x.extend(1, 0, 0, 0, 1, 1, 1));
        Edges.answers(2, four, x -> x.extend(0, 5, 1, 0, 1, 1, 1));
        Edges.answers(2, four, x -> x.extend(2, 5, 1, 0, 1, 1, 1));
        // Boxes are counted for the piece, not for its number.
        Told moved = Edges.after(four);
        moved.drop(0);
        Edges.due(FULL, moved.extend(0, 0, 0, 0, 1, 1, 1), moved);
        Edges.due(2, moved.extend(1, 5, 1, 0, 1, 1, 1), moved);

        Edges.sentence(8, "Adds a box to a piece. This is a change.");
        Told x = Edges.after(Edges::busy);
        long before = Edges.stateOf(x);
        Edges.due(2, x.extend(0, 0, 0, 0, 1, 1, 1), x);
        Edges.due(2, x.piece(0, 1), x);
        Edges.due(6, x.count(6), x);
        Edges.due(5, x.count(2), x);
        Edges.due(2, x.count(3), x);
        Edges.due(5, x.undo(), x);
        Edges.due(before, Edges.stateOf(x), x);
    }

    private static void drop() {
        Edges.sentence(9, "BAD if there is no such piece");
        for (int piece : Edges.noPieces(0)) {
            Edges.refuses(BAD, Edges::nothing, x -> x.drop(piece));
        }
        for (int piece : Edges.noPieces(3)) {
            Edges.refuses(BAD, Edges::busy, x -> x.drop(piece));
        }
        for (int piece : Edges.noPieces(8)) {
            Edges.refuses(BAD, Edges::crowd, x -> x.drop(piece));
        }

        Edges.sentence(9, "Returns how many pieces are left");
        Edges.answers(0, Edges.pieces("000111"), x -> x.drop(0));
        Edges.answers(7, Edges::crowd, x -> x.drop(0));
        Edges.answers(7, Edges::crowd, x -> x.drop(7));

        Edges.sentence(9, "Removes a piece. The numbers of the pieces behind it become smaller by 1. This is a change.");
        for (int gone = 0; gone < 8; gone++) {
            Told x = Edges.after(Edges::crowd);
            x.extend(7, 5, 5, 5, 1, 1, 1);
            int states = x.count(6);
            Edges.due(7, x.drop(gone), x);
            Edges.due(states + 1, x.count(6), x);
            for (int old = 0; old < 8; old++) {
                int now = old == gone ? NONE : old < gone ? old : old - 1;
                Edges.due(now, x.pieceAt(old % 6, old / 6, 0), x);
                if (now != NONE) {
                    Edges.due(old == 7 ? 2 : 1, x.piece(now, 1), x);
                }
            }
            Edges.due(gone == 7 ? NONE : 6, x.pieceAt(5, 5, 5), x);
            Edges.due(BAD, x.piece(7, 0), x);
            // A piece that comes behind it has nothing of the old one with its number.
            Edges.due(7, x.addPiece(0, 5, 0, 1, 1, 1), x);
            Edges.due(1, x.piece(7, 1), x);
            Edges.due(1, x.piece(7, 0), x);
        }
    }

    private static void shift() {
        Edges.sentence(10, "BAD if there is no such piece or direction");
        for (int piece : Edges.noPieces(0)) {
            Edges.refuses(BAD, Edges::nothing, x -> x.shift(piece, 0));
        }
        for (int piece : Edges.noPieces(3)) {
            Edges.refuses(BAD, Edges::busy, x -> x.shift(piece, 4));
        }
        for (int piece : Edges.noPieces(8)) {
            Edges.refuses(BAD, Edges::crowd, x -> x.shift(piece, 4));
        }
        for (int direction : Edges.NO_DIRECTIONS) {
            Edges.refuses(BAD, Edges::busy, x -> x.shift(2, direction));
        }

        Edges.sentence(10, "the direction, 0 to 5");
        for (int direction = 0; direction < 6; direction++) {
            int way = direction;
            Edges.answers(1, Edges.pieces("222111"), x -> x.shift(0, way));
        }

        Edges.sentence(10, "STATE if it would have a cell out of space, or one of another piece");
        String[] walls = {"500111", "000111", "050111", "000111", "005111", "000111"};
        String[] beside = {"222111;322111", "222111;122111", "222111;232111", "222111;212111", "222111;223111", "222111;221111"};
        for (int direction = 0; direction < 6; direction++) {
            int way = direction;
            Edges.refuses(STATE, Edges.pieces(walls[direction]), x -> x.shift(0, way));
            Edges.refuses(STATE, Edges.pieces(walls[direction] + "+222111"), x -> x.shift(0, way));
            Edges.refuses(STATE, Edges.pieces(beside[direction]), x -> x.shift(0, way));
            Edges.refuses(STATE, Edges.pieces("000666"), x -> x.shift(0, way));
            // Next to the wall there is one step, then none.
            Told y = Edges.of(new String[] {"400111", "100111", "040111", "010111", "004111", "001111"}[direction]);
            Edges.due(1, y.shift(0, direction), y);
            Edges.due(STATE, y.shift(0, direction), y);
        }
        // A cell at the end of a row is not followed by the first one of the next row.
        Edges.refuses(STATE, Edges.pieces("500111"), x -> x.shift(0, 0));
        Edges.refuses(STATE, Edges.pieces("010111"), x -> x.shift(0, 1));
        Edges.refuses(STATE, Edges.pieces("051111"), x -> x.shift(0, 2));
        Edges.refuses(STATE, Edges.pieces("001111"), x -> x.shift(0, 3));
        Edges.refuses(STATE, Edges::busy, x -> x.shift(2, 5));
        Edges.refuses(STATE, Edges::busy, x -> x.shift(0, 4));

        Edges.sentence(10, "Moves a piece by one cell. This is a change.");
        for (int direction = 0; direction < 6; direction++) {
            Told x = Edges.of("111333+222222");
            Edges.due(1, x.shift(0, direction), x);
            Edges.due(27, x.piece(0, 0), x);
            Edges.due(2, x.piece(0, 1), x);
            int axis = direction / 2;
            Edges.due(direction % 2 == 0 ? 2 : 0, x.piece(0, 2 + axis), x);
            Edges.due(direction % 2 == 0 ? 4 : 2, x.piece(0, 5 + axis), x);
            Edges.due(1, x.piece(0, 2 + (axis + 1) % 3), x);
            Edges.due(3, x.piece(0, 5 + (axis + 2) % 3), x);
            Edges.due(2, x.count(6), x);
        }

        Edges.sentence(10, "Returns 1");
        // A piece is not in its own way; another one is, in a gap of it and before it.
        Edges.answers(1, Edges.pieces("000511"), x -> x.shift(0, 0));
        Edges.answers(1, Edges.pieces("000311+020111;555111"), x -> x.shift(0, 2));
        Edges.answers(STATE, Edges.pieces("000111+200111;100111"), x -> x.shift(0, 0));
        Edges.answers(1, Edges.pieces("000111+200111;400111"), x -> x.shift(0, 0));
        Edges.answers(STATE, Edges.pieces("000111+200111;300111"), x -> x.shift(0, 0));
    }

    private static void pieceAt() {
        String[] ranges = {"- `x`: 0 to 5", "- `y`: 0 to 5", "- `z`: 0 to 5"};
        for (int axis = 0; axis < 3; axis++) {
            int at = axis;
            Edges.sentence(11, ranges[axis]);
            Told x = Edges.of("000666");
            for (int value = 0; value < 6; value++) {
                int[] cell = with(axis, value, 1);
                Edges.due(0, x.pieceAt(cell[0], cell[1], cell[2]), x);
            }
            Edges.sentence(11, "BAD if an argument is out of range");
            for (int value : NO_COORDINATES) {
                int[] cell = with(at, value, 1);
                Edges.refuses(BAD, Edges.pieces("000666"), y -> y.pieceAt(cell[0], cell[1], cell[2]));
                Edges.refuses(BAD, Edges::nothing, y -> y.pieceAt(cell[0], cell[1], cell[2]));
            }
        }

        Edges.sentence(11, "Returns the piece");
        Told x = Edges.after(Edges::crowd);
        for (int i = 0; i < 8; i++) {
            Edges.due(i, x.pieceAt(i % 6, i / 6, 0), x);
        }

        Edges.sentence(11, "NONE if there is none");
        Edges.answers(NONE, Edges::nothing, y -> y.pieceAt(0, 0, 0));
        Edges.answers(NONE, Edges::nothing, y -> y.pieceAt(5, 5, 5));
        Edges.due(NONE, x.pieceAt(2, 1, 0), x);
        Edges.due(NONE, x.pieceAt(0, 0, 1), x);
        Edges.changesNothing(Edges::busy, y -> y.pieceAt(5, 5, 5));
    }

    private static void piece() {
        Edges.sentence(12, "0 for the number of its cells, 1 for the number of its boxes, 2, 3 and 4 for its smallest x, y and z, "
                + "5, 6 and 7 for its greatest x, y and z, 8 for the number of its cells on the ground, 9 for 1 if it is in the "
                + "building and 0 if not");
        properties("000111", 1, 1, 0, 0, 0, 0, 0, 0, 1, 0);
        properties("555111", 1, 1, 5, 5, 5, 5, 5, 5, 0, 0);
        properties("000666", 216, 1, 0, 0, 0, 5, 5, 5, 36, 0);
        properties("123111+123111+123111+123111", 1, 4, 1, 2, 3, 1, 2, 3, 0, 0);
        properties("500111+050111+005111", 3, 3, 0, 0, 0, 5, 5, 5, 2, 0);
        properties("210321+211321", 12, 2, 2, 1, 0, 4, 2, 1, 6, 0);

        Edges.sentence(12, "Returns the property");
        Told x = Edges.after(Edges::busy);
        int[] in = {1, 0, 1};
        for (int i = 0; i < 3; i++) {
            Edges.due(in[i], x.piece(i, 9), x);
        }
        // What was asked for before a change is not what is answered behind it.
        x.shift(2, 4);
        Edges.due(3, x.piece(2, 4), x);
        Edges.due(3, x.piece(2, 7), x);
        x.takeOut(2, 4);
        Edges.due(0, x.piece(2, 9), x);

        Edges.sentence(12, "BAD if there is no such piece or what is out of range");
        for (int what = 0; what < 10; what++) {
            int asked = what;
            for (int piece : Edges.noPieces(0)) {
                Edges.answers(BAD, Edges::nothing, y -> y.piece(piece, asked));
            }
            for (int piece : Edges.noPieces(3)) {
                Edges.answers(BAD, Edges::busy, y -> y.piece(piece, asked));
            }
            for (int piece : Edges.noPieces(8)) {
                Edges.answers(BAD, Edges::crowd, y -> y.piece(piece, asked));
            }
        }
        for (int what : new int[] {-1, 10, 11, 16, 256, LEAST, MOST}) {
            for (int piece = 0; piece < 3; piece++) {
                int asked = piece;
                Edges.refuses(BAD, Edges::busy, y -> y.piece(asked, what));
            }
        }
        Edges.refuses(BAD, Edges::busy, y -> y.piece(3, 0));
        Edges.refuses(BAD, Edges::busy, y -> y.piece(-1, 0));
    }

    /** All properties of piece 0, before it is put up. */
    private static void properties(String text, int... want) {
        Told x = Edges.of(text);
        for (int what = 0; what < 10; what++) {
            Edges.due(want[what], x.piece(0, what), x);
        }
        x.put(0, 0);
        Edges.due(1, x.piece(0, 9), x);
    }
}
