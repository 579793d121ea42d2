import java.math.BigInteger;
import java.util.ArrayList;
import java.util.List;

/** The boundary cases of the building, of what would be, and of the history: promises 24 to 30. */
final class BuildingEdges {
    private static final int TERMS = Edges.TERMS;
    private static final int BAD = Edges.BAD, STATE = Edges.STATE, FULL = Edges.FULL, NONE = Edges.NONE;
    private static final int LEAST = Edges.LEAST, MOST = Edges.MOST;

    /** Pieces that are locked as soon as piece 1 is moved to greater x. */
    private static final String TRAP = "333111+023111+203111+230111;133111+223111+232111";

    private interface Step {
        int make(Told x, int piece, int direction);
    }

    private BuildingEdges() {
    }

    static void run() {
        calls();
        building();
        put();
        takeOut();
        putAll();
        ifShift();
        changes();
        undo();
        codes();
        count();
        digest();
    }

    private static void calls() {
        Edges.sentence(TERMS, "An object is used for at most 512 calls after it has been made");
        Told x = new Told();
        x.addPiece(0, 0, 1, 1, 1, 1);
        for (int i = 0; i < 255; i++) {
            Edges.due(1, x.put(0, i % 6), x);
            Edges.due(0, x.takeOut(0, i % 6), x);
        }
        Edges.due(510, x.count(3), x);
        Edges.due(512, x.calls(), x);
    }

    private static void building() {
        Edges.sentence(TERMS, "The building is a set of pieces that are put up, initially empty, with a number of steps, initially 0; "
                + "each successful call of put() and takeOut() is a step.");
        Edges.answers(0, Edges::nothing, x -> x.count(2));
        Edges.answers(0, Edges::nothing, x -> x.count(3));
        Told x = Edges.of(Edges.GATE);
        Edges.due(0, x.count(2), x);
        Edges.due(0, x.count(3), x);
        x.put(0, 0);
        Edges.due(1, x.count(3), x);
        x.put(0, 0);
        x.put(3, 0);
        x.put(1, 6);
        x.takeOut(1, 0);
        Edges.due(1, x.count(3), x);
        Edges.due(1, x.count(2), x);
        x.takeOut(0, 0);
        Edges.due(2, x.count(3), x);
        Edges.due(0, x.count(2), x);

        Edges.sentence(TERMS, "A piece that is removed leaves the building (without a step); the numbers of pieces change in it, too.");
        for (int set = 0; set < 256; set += 17) {
            for (int gone = 0; gone < 8; gone++) {
                Told y = Edges.of(Edges.EIGHT);
                for (int i = 0; i < 8; i++) {
                    if ((set >> i & 1) == 1) {
                        y.put(i, 4);
                    }
                }
                Edges.due(set, y.count(2), y);
                y.drop(gone);
                int behind = set >> (gone + 1) << gone;
                Edges.due(set & ((1 << gone) - 1) | behind, y.count(2), y);
                Edges.due(Integer.bitCount(set), y.count(3), y);
            }
        }
        // The number that has become free at the end is not in the building.
        Told end = Edges.of("000111;200111");
        end.putAll();
        end.drop(1);
        Edges.due(1, end.addPiece(2, 0, 0, 1, 1, 1), end);
        Edges.due(0, end.piece(1, 9), end);

        Edges.sentence(TERMS, "A piece of the building that is moved stays in it.");
        for (int direction = 0; direction < 6; direction++) {
            Told z = Edges.of("222111;555111");
            z.put(0, 0);
            Edges.due(1, z.shift(0, direction), z);
            Edges.due(1, z.count(2), z);
            Edges.due(1, z.count(3), z);
            Edges.due(1, z.piece(0, 9), z);
            Edges.due(0, z.piece(1, 9), z);
        }
    }

    private static void onlyPiecesAndDirections(Step step) {
        Edges.Scene[] scenes = {Edges::nothing, Edges::busy, Edges::crowd};
        int[] pieces = {0, 3, 8};
        for (int i = 0; i < 3; i++) {
            for (int piece : Edges.noPieces(pieces[i])) {
                Edges.refuses(BAD, scenes[i], x -> step.make(x, piece, 4));
            }
            for (int k = 0; k < pieces[i]; k++) {
                int piece = k;
                for (int direction : Edges.NO_DIRECTIONS) {
                    Edges.refuses(BAD, scenes[i], x -> step.make(x, piece, direction));
                }
            }
        }
        Edges.refuses(BAD, Edges::busy, x -> step.make(x, 3, 6));
        Edges.refuses(BAD, Edges::busy, x -> step.make(x, LEAST, MOST));
    }

    private static void put() {
        Edges.sentence(24, "BAD if there is no such piece or direction");
        onlyPiecesAndDirections(Told::put);

        Edges.sentence(24, "the direction from which it comes, 0 to 5");
        for (int i = 0; i < 6; i++) {
            int direction = i;
            Edges.answers(1, Edges.pieces("222111"), x -> x.put(0, direction));
            // It comes from there, so what is there is in its way, and nothing else is.
            Edges.Scene one = x -> {
                Edges.pieces(Edges.STAR).play(x);
                x.put(1 + direction, direction);
            };
            for (int k = 0; k < 6; k++) {
                int way = k;
                int props = direction == 5 ? 1 : 2;
                Edges.answers(way == direction ? STATE : props, one, x -> x.put(0, way));
            }
        }

        Edges.sentence(24, "STATE if it is in the building, or not free in this direction among the building");
        for (int i = 0; i < 6; i++) {
            int direction = i;
            Edges.refuses(STATE, Edges::busy, x -> x.put(0, direction));
            Edges.refuses(STATE, Edges::busy, x -> x.put(2, direction));
            Edges.Scene half = x -> {
                Edges.pieces(Edges.LOCK).play(x);
                x.put(1, 0);
            };
            Edges.refuses(STATE, half, x -> x.put(0, direction));
        }
        Edges.refuses(STATE, Edges::busy, x -> x.put(1, 4));
        Edges.refuses(STATE, Edges::busy, x -> x.put(1, 1));
        // A piece that is not in the building is in nobody's way.
        Edges.answers(0, Edges.pieces("000111;500111"), x -> x.put(0, 0));

        Edges.sentence(24, "Returns how many props the building needs then");
        Told x = Edges.of("003111;002111;001111;000111;555111");
        Edges.due(1, x.put(0, 0), x);
        Edges.due(2, x.put(4, 0), x);
        Edges.due(2, x.put(1, 0), x);
        Edges.due(2, x.put(3, 0), x);
        Edges.due(1, x.put(2, 0), x);
    }

    private static void takeOut() {
        Edges.sentence(25, "BAD if there is no such piece or direction");
        onlyPiecesAndDirections(Told::takeOut);

        Edges.sentence(25, "the direction to which it goes, 0 to 5");
        for (int i = 0; i < 6; i++) {
            int direction = i;
            Edges.Scene two = x -> {
                Edges.pieces(Edges.STAR).play(x);
                x.put(0, 0);
                x.put(1 + direction, direction);
            };
            int props = direction == 5 ? 0 : 1;
            for (int k = 0; k < 6; k++) {
                int way = k;
                Edges.answers(way == direction ? STATE : props, two, x -> x.takeOut(0, way));
            }
        }

        Edges.sentence(25, "STATE if it is not in the building, or not free in this direction among the building");
        for (int i = 0; i < 6; i++) {
            int direction = i;
            Edges.refuses(STATE, Edges::busy, x -> x.takeOut(1, direction));
            Edges.refuses(STATE, Edges.pieces("222111"), x -> x.takeOut(0, direction));
        }
        Edges.refuses(STATE, Edges::busy, x -> x.takeOut(0, 4));
        Edges.refuses(STATE, Edges::busy, x -> x.takeOut(2, 5));
        Edges.Scene gone = x -> {
            Edges.busy(x);
            x.takeOut(2, 4);
        };
        Edges.refuses(STATE, gone, x -> x.takeOut(2, 4));

        Edges.sentence(25, "Returns how many props the building needs then");
        Told x = Edges.of("003111;002111;001111;000111");
        x.putAll();
        Edges.due(0, x.count(4), x);
        Edges.due(1, x.takeOut(3, 0), x);
        Edges.due(2, x.takeOut(1, 0), x);
        Edges.due(1, x.takeOut(0, 0), x);
        Edges.due(0, x.takeOut(2, 0), x);
    }

    private static void putAll() {
        Edges.sentence(26, "Returns how many pieces were put up (possibly 0).");
        Edges.answers(0, Edges::nothing, Told::putAll);
        Edges.answers(1, Edges.pieces("000666"), Told::putAll);
        Edges.answers(1, Edges::busy, Told::putAll);
        Edges.answers(6, Edges::crowd, Told::putAll);
        Edges.answers(8, Edges.pieces(Edges.EIGHT), Told::putAll);
        Edges.answers(8, Edges::chain, Told::putAll);
        Edges.answers(1, Edges.pieces(Edges.LOCK), Told::putAll);
        Told again = Edges.of(Edges.LOCK);
        again.putAll();
        Edges.due(0, again.putAll(), again);
        Edges.due(1, again.count(2), again);

        Edges.sentence(26, "Puts up pieces as long as it is possible: each time the piece with the smallest number of those that are "
                + "not in the building and are free in some direction among the building.");
        // By number the middle comes too late; taken first, it lets all others come.
        Told late = Edges.of("520112+020112+250112+200112;220111+225111;221111;555111");
        Edges.due(3, late.putAll(), late);
        Edges.due(11, late.count(2), late);
        Edges.due(0, late.putAll(), late);
        Told early = Edges.of("221111;220111+225111;520112+020112+250112+200112;555111");
        Edges.due(4, early.putAll(), early);
        Edges.due(15, early.count(2), early);

        Edges.sentence(26, "Each of them is a step. This is one change.");
        Told x = Edges.after(Edges::crowd);
        long before = Edges.stateOf(x);
        Edges.due(3, x.count(6), x);
        Edges.due(6, x.putAll(), x);
        Edges.due(8, x.count(3), x);
        Edges.due(4, x.count(6), x);
        Edges.due(0, x.putAll(), x);
        Edges.due(8, x.count(3), x);
        Edges.due(5, x.count(6), x);
        Edges.due(4, x.undo(), x);
        Edges.due(255, x.count(2), x);
        Edges.due(3, x.undo(), x);
        Edges.due(before, Edges.stateOf(x), x);
    }

    private static void ifShift() {
        Edges.sentence(27, "the error code that shift() would return");
        onlyPiecesAndDirections(Told::ifShift);
        String[] walls = {"500111", "000111", "050111", "000111", "005111", "000111"};
        String[] beside = {"222111;322111", "222111;122111", "222111;232111", "222111;212111", "222111;223111", "222111;221111"};
        for (int i = 0; i < 6; i++) {
            int direction = i;
            Edges.refuses(STATE, Edges.pieces(walls[i]), x -> x.ifShift(0, direction));
            Edges.refuses(STATE, Edges.pieces(beside[i]), x -> x.ifShift(0, direction));
        }
        Edges.Scene[] scenes = {Edges::nothing, Edges::busy, Edges::crowd, Edges::chain};
        for (Edges.Scene scene : scenes) {
            for (int piece = -1; piece <= 8; piece++) {
                for (int direction = -1; direction <= 6; direction++) {
                    Told shifted = Edges.after(scene);
                    Told asked = Edges.after(scene);
                    int answer = shifted.shift(piece, direction);
                    int all = (1 << shifted.count(0)) - 1;
                    int want = answer < 0 ? answer : Integer.bitCount(shifted.locked(all));
                    Edges.due(want, asked.ifShift(piece, direction), asked);
                }
            }
        }

        Edges.sentence(27, "the direction, 0 to 5");
        for (int i = 0; i < 6; i++) {
            int direction = i;
            Edges.answers(0, Edges.pieces("222111"), x -> x.ifShift(0, direction));
        }

        Edges.sentence(27, "Returns the number");
        Edges.answers(2, Edges.pieces(TRAP), x -> x.ifShift(1, 0));
        Edges.answers(0, Edges.pieces(TRAP), x -> x.ifShift(1, 2));
        Edges.answers(2, Edges.pieces(Edges.LOCK + ";555111"), x -> x.ifShift(2, 1));
        Edges.answers(0, Edges.pieces("222111"), x -> x.ifShift(0, 0));

        Edges.sentence(27, "Tells how many pieces would be locked in the set of all pieces if a piece were moved by one cell. Nothing "
                + "changes.");
        // All pieces count, whether they are in the building or not.
        Edges.Scene built = x -> {
            Edges.pieces(TRAP).play(x);
            x.put(1, 0);
        };
        Edges.answers(2, built, x -> x.ifShift(1, 0));
        Edges.changesNothing(built, x -> x.ifShift(1, 0));
        Edges.changesNothing(Edges::busy, x -> x.ifShift(2, 4));
        Edges.changesNothing(Edges::crowd, x -> x.ifShift(7, 4));
    }

    // ---- history

    /** Calls that are changes, on the pieces 000111 and 200111, of which the first one is in the building. */
    private static final Edges.Call[] CHANGES = {
        Told::load, Told::clear, x -> x.addPiece(5, 5, 5, 1, 1, 1), x -> x.extend(0, 5, 5, 5, 1, 1, 1),
        x -> x.drop(0), x -> x.shift(0, 4), x -> x.put(1, 4), x -> x.takeOut(0, 4), Told::putAll};

    private static void pair(Told x) {
        Edges.type(x, "000111;200111");
        x.load();
        x.put(0, 4);
    }

    private static void changes() {
        Edges.sentence(TERMS, "Changes are the successful calls of load, clear, addPiece, extend, drop, shift, put, takeOut and "
                + "putAll.");
        for (Edges.Call change : CHANGES) {
            Told x = Edges.after(BuildingEdges::pair);
            Edges.due(2, x.count(6), x);
            change.make(x);
            Edges.due(3, x.count(6), x);
        }
        Edges.Call[] others = {
            x -> x.type('0'), Told::faultKind, x -> x.pieceAt(0, 0, 0), x -> x.piece(0, 0), x -> x.blockers(0, 0),
            x -> x.ways(0, 3), x -> x.contact(0, 1), x -> x.hangsTogether(3), x -> x.props(3), x -> x.standing(3),
            x -> x.orders(3), x -> x.fewestProps(3), x -> x.planned(3, 0, false), x -> x.locked(3),
            x -> x.firstGroup(3, false), x -> x.ifShift(0, 4), x -> x.count(0), Told::digest, Told::clearText};
        for (Edges.Call other : others) {
            Told x = Edges.after(BuildingEdges::pair);
            other.make(x);
            Edges.due(2, x.count(6), x);
        }
        Edges.Call[] refused = {
            x -> x.addPiece(0, 0, 0, 1, 1, 1), x -> x.extend(0, 2, 0, 0, 1, 1, 1), x -> x.drop(2), x -> x.shift(0, 5),
            x -> x.put(0, 4), x -> x.takeOut(1, 4), x -> x.type(31), x -> x.ifShift(0, 5)};
        for (Edges.Call call : refused) {
            Edges.changesNothing(BuildingEdges::pair, call);
        }

        Edges.sentence(TERMS, "Each change records the state before it: the pieces and the building with its steps.");
        for (Edges.Call change : CHANGES) {
            Told x = Edges.after(BuildingEdges::pair);
            long before = Edges.stateOf(x);
            change.make(x);
            Edges.due(2, x.undo(), x);
            Edges.due(before, Edges.stateOf(x), x);
            Edges.due(13, x.count(5), x);
            Edges.due(0, x.pieceAt(0, 0, 0), x);
            Edges.due(1, x.pieceAt(2, 0, 0), x);
            Edges.due(NONE, x.pieceAt(5, 5, 5), x);
        }
        freshAnswers(BuildingEdges::pair);
        freshAnswers(Edges::busy);
        freshAnswers(Edges::crowd);
        freshAnswers(Edges::chain);
    }

    /** Each call that changes pieces or the building, where much is known of them, and much of it becomes wrong. */
    private static void freshAnswers(Edges.Scene scene) {
        for (Edges.Call change : CHANGES) {
            Edges.leavesNothingOld(scene, change);
        }
        for (int i = 0; i < 8; i++) {
            int piece = i;
            Edges.leavesNothingOld(scene, x -> x.drop(piece));
            for (int k = 0; k < 6; k++) {
                int direction = k;
                Edges.leavesNothingOld(scene, x -> x.shift(piece, direction));
                Edges.leavesNothingOld(scene, x -> x.ifShift(piece, direction));
                Edges.leavesNothingOld(scene, x -> x.put(piece, direction));
                Edges.leavesNothingOld(scene, x -> x.takeOut(piece, direction));
            }
        }
        Edges.leavesNothingOld(scene, Told::undo);
        Edges.Scene shifted = x -> {
            scene.play(x);
            x.shift(0, 4);
            x.shift(1, 4);
        };
        Edges.leavesNothingOld(shifted, Told::undo);
    }

    private static void undo() {
        Edges.sentence(28, "STATE if there is none");
        Edges.refusesUndo(Edges::nothing);
        Edges.refusesUndo(Edges.text("000111"));
        Edges.refusesUndo(x -> {
            Edges.busy(x);
            for (int i = 0; i < 5; i++) {
                x.undo();
            }
        });
        Edges.refusesUndo(x -> {
            for (int i = 0; i < 8; i++) {
                x.addPiece(i % 6, i / 6, 0, 1, 1, 1);
            }
            x.drop(0);
            for (int i = 0; i < 8; i++) {
                x.undo();
            }
        });
        for (int changes : new int[] {1, 7, 8, 9, 20}) {
            Told x = new Told();
            for (int i = 0; i < changes; i++) {
                x.clear();
            }
            for (int left = Math.min(8, changes) - 1; left >= 0; left--) {
                Edges.due(left, x.undo(), x);
            }
            Edges.due(STATE, x.undo(), x);
            Edges.due(STATE, x.undo(), x);
            Edges.due(0, x.count(6), x);
        }

        Edges.sentence(28, "Returns how many states are still remembered");
        Told eight = new Told();
        for (int i = 0; i < 8; i++) {
            eight.putAll();
        }
        Edges.due(7, eight.undo(), eight);
        Edges.due(7, eight.count(6), eight);
        eight.putAll();
        Edges.due(8, eight.count(6), eight);
        Edges.due(7, eight.undo(), eight);

        Edges.sentence(28, "Restores the latest remembered state, and removes it.");
        Told y = Edges.after(Edges::busy);
        Edges.due(4, y.undo(), y);
        Edges.due(4, y.count(2), y);
        Edges.due(1, y.count(3), y);
        Edges.due(3, y.undo(), y);
        Edges.due(0, y.count(2), y);
        Edges.due(2, y.undo(), y);
        Edges.due(2, y.count(0), y);
        // A change behind it takes the place of what was undone, which cannot come back.
        Edges.due(2, y.addPiece(5, 5, 5, 1, 1, 1), y);
        Edges.due(2, y.undo(), y);
        Edges.due(NONE, y.pieceAt(5, 5, 5), y);
        Edges.due(NONE, y.pieceAt(0, 0, 2), y);
        Edges.due(2, y.count(0), y);

        Edges.sentence(TERMS, "At most 8 recorded states are remembered: when one more is recorded, the oldest one is dropped; undo "
                + "restores the latest one and removes it.");
        for (int changes = 1; changes <= 24; changes++) {
            overflow(changes);
        }
        toAndFro();

        Edges.sentence(TERMS, "(What faultKind() returns stays.)");
        Told x = Edges.of("000111");
        Edges.type(x, "9");
        x.load();
        Edges.due(0, x.undo(), x);
        Edges.due(2, x.faultKind(), x);
        x.clearText();
        x.load();
        Edges.due(0, x.undo(), x);
        Edges.due(0, x.faultKind(), x);
    }

    /** Of so many changes the latest eight come back, in their order, and no other one. */
    private static void overflow(int changes) {
        Told x = new Told();
        x.addPiece(0, 0, 1, 1, 1, 1);
        for (int i = 1; i < changes; i++) {
            step(x);
            Edges.due(Math.min(8, i + 1), x.count(6), x);
        }
        int kept = Math.min(8, changes);
        for (int k = 1; k <= kept; k++) {
            Edges.due(kept - k, x.undo(), x);
            int stepsThen = changes - 1 - k;
            Edges.due(Math.max(0, stepsThen), x.count(3), x);
            Edges.due(stepsThen < 0 ? 0 : stepsThen % 2, x.count(2), x);
            Edges.due(stepsThen < 0 ? 0 : 1, x.count(0), x);
        }
        Edges.due(STATE, x.undo(), x);
    }

    private static void step(Told x) {
        if (x.count(2) == 0) {
            x.put(0, 0);
        } else {
            x.takeOut(0, 0);
        }
    }

    /** Forward and back past the limit, against a list of the numbers of steps. */
    private static void toAndFro() {
        int[] moves = {5, -3, 4, -1, 9, -8, -1, 3, -2, 12, -4, 2, -8, -1, 8, -8, 1, -1};
        Told x = Edges.of("000111");
        x.undo();
        x.addPiece(0, 0, 1, 1, 1, 1);
        List<Integer> remembered = new ArrayList<>();
        // The state without the piece is the first one that is remembered.
        remembered.add(-1);
        int steps = 0;
        for (int move : moves) {
            for (int i = 0; i < Math.abs(move); i++) {
                if (move > 0 && steps >= 0) {
                    remembered.add(steps);
                    if (remembered.size() > 8) {
                        remembered.remove(0);
                    }
                    step(x);
                    steps++;
                } else if (move > 0) {
                    remembered.add(steps);
                    x.addPiece(0, 0, 1, 1, 1, 1);
                    steps = 0;
                } else if (remembered.isEmpty()) {
                    Edges.due(STATE, x.undo(), x);
                } else {
                    steps = remembered.remove(remembered.size() - 1);
                    Edges.due(remembered.size(), x.undo(), x);
                }
                Edges.due(Math.max(0, steps), x.count(3), x);
                Edges.due(steps < 0 ? 0 : 1, x.count(0), x);
            }
        }
    }

    // ---- error codes

    private static void codes() {
        Edges.sentence(TERMS, "BAD (-1: an argument is out of its range, or there is no such piece; also a set that contains something "
                + "else than pieces), STATE (-2: the call is not possible now, as the method says) and FULL (-3: there is no room).");
        Told x = new Told();
        Edges.due(-1, FrameRaiser.BAD, x);
        Edges.due(-2, FrameRaiser.STATE, x);
        Edges.due(-3, FrameRaiser.FULL, x);
        Edges.due(-1, x.drop(0), x);
        Edges.due(-1, x.orders(1), x);
        Edges.due(-2, x.undo(), x);

        Edges.sentence(TERMS, "If several of them apply to a call, the first one in this order is returned.");
        Edges.Scene full = x0 -> {
            Edges.pieces(Edges.EIGHT).play(x0);
            x0.extend(0, 0, 0, 1, 1, 1, 1);
            x0.extend(0, 0, 0, 2, 1, 1, 1);
            x0.extend(0, 0, 0, 3, 1, 1, 1);
            Edges.type(x0, " ".repeat(80));
        };
        Edges.refuses(BAD, full, y -> y.type(31));
        Edges.refuses(BAD, full, y -> y.type(127));
        Edges.refuses(BAD, full, y -> y.addPiece(0, 0, 0, 7, 1, 1));
        Edges.refuses(BAD, full, y -> y.addPiece(5, 5, 5, 1, 1, 0));
        Edges.refuses(STATE, full, y -> y.addPiece(0, 0, 0, 1, 1, 1));
        Edges.refuses(FULL, full, y -> y.addPiece(5, 5, 5, 1, 1, 1));
        Edges.refuses(BAD, full, y -> y.extend(0, 0, 0, 0, 7, 1, 1));
        Edges.refuses(BAD, full, y -> y.extend(0, 5, 5, 5, 2, 1, 1));
        Edges.refuses(BAD, full, y -> y.extend(8, 0, 0, 0, 1, 1, 1));
        Edges.refuses(STATE, full, y -> y.extend(0, 1, 0, 0, 1, 1, 1));
        Edges.refuses(FULL, full, y -> y.extend(0, 5, 5, 5, 1, 1, 1));
        Edges.refuses(BAD, Edges::busy, y -> y.addPiece(0, 0, 0, 1, 1, 7));
        Edges.refuses(BAD, Edges::busy, y -> y.extend(3, 0, 0, 0, 1, 1, 1));
        Edges.refuses(BAD, Edges::busy, y -> y.extend(0, 4, 0, 0, 3, 1, 1));

        Edges.sentence(TERMS, "A call that returns an error code changes nothing.");
        for (Edges.Scene scene : new Edges.Scene[] {Edges::busy, full}) {
            Edges.refuses(BAD, scene, y -> y.drop(8));
            Edges.refuses(STATE, scene, y -> y.shift(0, 1));
            Edges.refuses(STATE, scene, y -> y.addPiece(0, 0, 0, 6, 6, 6));
            Edges.refuses(BAD, scene, y -> y.put(8, 0));
            Edges.refuses(BAD, scene, y -> y.count(7));
        }

        Edges.sentence(TERMS, "NONE (-9) is no error code; it means that there is no such thing, and is returned only if no error code "
                + "applies.");
        Edges.due(-9, FrameRaiser.NONE, x);
        Edges.due(-9, x.pieceAt(5, 5, 5), x);
        Edges.refuses(BAD, Edges::nothing, y -> y.pieceAt(6, 5, 5));
        Edges.refuses(BAD, Edges.pieces(Edges.LOCK), y -> y.fewestProps(7));
        Edges.refuses(BAD, Edges.pieces(Edges.LOCK), y -> y.planned(7, 0, false));
        Edges.refuses(BAD, Edges.pieces(Edges.LOCK), y -> y.planned(3, -1, false));
        Edges.refuses(BAD, Edges.pieces(Edges.LOCK), y -> y.planned(7, 8, true));
        Edges.refuses(BAD, Edges.pieces(Edges.LOCK), y -> y.firstGroup(4, false));
        Edges.refuses(BAD, Edges::nothing, y -> y.firstGroup(1, true));
    }

    private static void count() {
        Edges.sentence(29, "0 for the pieces, 1 for the cells of all pieces, 2 for the set of the pieces in the building, 3 for the steps "
                + "of the building, 4 for the props that the building needs, 5 for the characters of the text buffer, 6 for the "
                + "remembered states");
        counts(Edges::nothing, 0, 0, 0, 0, 0, 0, 0);
        counts(Edges::busy, 3, 9, 5, 2, 0, 21, 5);
        counts(Edges::crowd, 8, 8, 129, 2, 0, 0, 3);
        counts(Edges.pieces("000666"), 1, 216, 0, 0, 0, 0, 1);
        counts(x -> {
            Edges.pieces("000111+000222+111111;555111").play(x);
            x.put(1, 5);
            Edges.type(x, " ".repeat(80));
        }, 2, 9, 2, 1, 1, 80, 2);

        Edges.sentence(29, "Returns the count (for 2 the bit mask)");
        Told x = Edges.of(Edges.EIGHT);
        x.putAll();
        Edges.due(255, x.count(2), x);
        x.takeOut(0, 4);
        Edges.due(254, x.count(2), x);
        Edges.due(9, x.count(3), x);

        Edges.sentence(29, "BAD if what is out of range");
        for (int what : new int[] {-1, 7, 8, 16, 256, LEAST, MOST}) {
            Edges.refuses(BAD, Edges::nothing, y -> y.count(what));
            Edges.refuses(BAD, Edges::busy, y -> y.count(what));
        }
    }

    private static void counts(Edges.Scene scene, int... want) {
        Told x = Edges.after(scene);
        for (int what = 0; what < 7; what++) {
            Edges.due(want[what], x.count(what), x);
        }
    }

    // ---- digest

    private static void digest() {
        Edges.Scene[] scenes = {Edges::nothing, Edges::busy, Edges::crowd, Edges::chain, Edges.pieces(Edges.LOCK),
            Edges.pieces(Edges.STAR), Edges.pieces("000666"), Edges.text("x")};

        Edges.sentence(30, "for each of these values v, in this order: count(0) to count(6); for each piece piece() for 0 to 9, and "
                + "blockers() for the directions 0 to 5; then, for the set of all pieces and then for the building: orders(), "
                + "fewestProps(), planned(set, k, false) and planned(set, k, true) for k from 0 to 7, locked(), firstGroup(set, "
                + "false), firstGroup(set, true), standing() and hangsTogether().");
        for (Edges.Scene scene : scenes) {
            Told x = Edges.after(scene);
            long h = 12942;
            for (long value : values(x)) {
                h = 31 * h + value;
            }
            Edges.due(h, x.digest(), x);
            Edges.changesNothing(scene, Told::digest);
        }

        Edges.sentence(30, "h is 12942 at first; then h becomes 31 * h + v (long arithmetic that overflows)");
        // The number without overflow is far too great for a long; its lowest 64 bits are due.
        for (Edges.Scene scene : scenes) {
            Told x = Edges.after(scene);
            BigInteger exact = BigInteger.valueOf(12942);
            for (long value : values(x)) {
                exact = exact.multiply(BigInteger.valueOf(31)).add(BigInteger.valueOf(value));
            }
            if (exact.bitLength() < 200) {
                Edges.fail("the digest does not overflow");
            }
            Edges.due(exact.longValue(), x.digest(), x);
        }

        Edges.sentence(30, "Returns h.");
        Told x = wholeSpace();
        Edges.due(1827746563573025839L, x.digest(), x);
        Edges.due(1827746563573025839L, x.digest(), x);
    }

    /** The third run of ../shared/tests, whose digest is told there. */
    private static Told wholeSpace() {
        Told x = new Told();
        x.putAll();
        x.clear();
        x.addPiece(0, 0, 0, 6, 6, 6);
        for (int i = 0; i < 3; i++) {
            x.extend(0, 1, 1, 1, 1, 1, 1);
        }
        x.put(0, 5);
        x.takeOut(0, 0);
        return x;
    }

    private static List<Long> values(Told x) {
        List<Long> values = new ArrayList<>();
        for (int what = 0; what <= 6; what++) {
            values.add((long) x.count(what));
        }
        int pieces = x.count(0);
        for (int piece = 0; piece < pieces; piece++) {
            for (int what = 0; what <= 9; what++) {
                values.add((long) x.piece(piece, what));
            }
            for (int direction = 0; direction <= 5; direction++) {
                values.add((long) x.blockers(piece, direction));
            }
        }
        for (int set : new int[] {(1 << pieces) - 1, x.count(2)}) {
            values.add((long) x.orders(set));
            values.add((long) x.fewestProps(set));
            for (int k = 0; k <= 7; k++) {
                values.add((long) x.planned(set, k, false));
                values.add((long) x.planned(set, k, true));
            }
            values.add((long) x.locked(set));
            values.add((long) x.firstGroup(set, false));
            values.add((long) x.firstGroup(set, true));
            values.add((long) x.standing(set));
            values.add((long) x.hangsTogether(set));
        }
        return values;
    }
}
