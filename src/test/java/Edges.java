import java.util.ArrayList;
import java.util.List;

/** What the tests of the boundary cases share: the sentence that is tested, and what a call may not change. */
final class Edges {
    static final int BAD = -1, STATE = -2, FULL = -3, NONE = -9;
    static final int LEAST = Integer.MIN_VALUE, MOST = Integer.MAX_VALUE;

    /** Where the document says what belongs to no promise alone. */
    static final int TERMS = 0;

    /** Neither a direction nor, as each of them is far from 0 to 7, anything else that is small. */
    static final int[] NO_DIRECTIONS = {-1, 6, 7, 8, 32, 256, LEAST, MOST};

    private static final int MOST_SHOWN = 40;

    /** Calls that bring a new object to where a test begins. */
    interface Scene {
        void play(Told x);
    }

    interface Call {
        long make(Told x);
    }

    record Sentence(int promise, String quote) {
    }

    private static final List<Sentence> sentences = new ArrayList<>();
    private static final List<Sentence> broken = new ArrayList<>();
    private static int wrong = 0;

    private Edges() {
    }

    // ---- sentences

    /** Begins the test of a sentence, told in the document's own words. */
    static void sentence(int promise, String quote) {
        sentences.add(new Sentence(promise, quote));
    }

    static List<Sentence> sentences() {
        return sentences;
    }

    static int wrong() {
        return wrong;
    }

    static void fail(String what) {
        wrong++;
        Sentence now = sentences.get(sentences.size() - 1);
        if (!broken.contains(now)) {
            broken.add(now);
            String where = now.promise() == TERMS ? "Terms" : "Promise " + now.promise();
            System.out.println(where + ", \"" + now.quote() + "\" does not hold:");
        }
        if (wrong <= MOST_SHOWN) {
            System.out.println("    " + what);
        }
    }

    static void due(long want, long got, Told x) {
        if (want != got) {
            fail(x.latest() + ", call " + x.calls() + ", answered " + got + ", due is " + want);
        }
    }

    /** One answer of an object that has just played the scene. */
    static void answers(long want, Scene scene, Call call) {
        Told x = after(scene);
        long got = call.make(x);
        due(want, got, x);
    }

    // ---- what may not change

    /** The call answers this error code and changes nothing. */
    static void refuses(int code, Scene scene, Call call) {
        answers(code, scene, call);
        changesNothing(scene, call);
    }

    /** For undo(), which is refused only where no states are remembered. */
    static void refusesUndo(Scene scene) {
        answers(STATE, scene, Told::undo);
        compare(scene, Told::undo, true);
    }

    static void changesNothing(Scene scene, Call call) {
        changes(scene, call, true);
    }

    /** For load(), which may change what faultKind() answers. */
    static void changesOnlyFault(Scene scene, Call call) {
        changes(scene, call, false);
    }

    /**
     * A call is made on one of two objects that are alike. It is tried with few remembered states and
     * with as many as there can be, for then one more of them would push one out; and with answers that
     * were asked for before it, for it could spoil what is kept of them.
     */
    private static void changes(Scene scene, Call call, boolean withFault) {
        for (int i = 0; i < 4; i++) {
            int remembered = i % 2 == 1 ? 8 : 0;
            boolean asked = i >= 2;
            Scene before = x -> {
                for (int k = 0; k < remembered; k++) {
                    x.putAll();
                }
                scene.play(x);
                if (asked) {
                    x.digest();
                }
            };
            compare(before, call, withFault);
        }
    }

    /** What is answered behind a call does not rest on what was asked before it. */
    static void leavesNothingOld(Scene scene, Call call) {
        Told plain = after(scene);
        call.make(plain);
        Told asked = after(scene);
        lookShortly(asked);
        call.make(asked);
        String made = asked.latest();
        List<Long> want = lookShortly(plain);
        if (!lookShortly(asked).equals(want)) {
            fail("behind " + made + " something is answered as before it");
        }
    }

    private static List<Long> lookShortly(Told x) {
        List<Long> seen = new ArrayList<>();
        seen.add(x.digest());
        int pieces = x.count(0);
        for (int i = 0; i < pieces * pieces; i++) {
            seen.add((long) x.contact(i / pieces, i % pieces));
        }
        return seen;
    }

    private static void compare(Scene before, Call call, boolean withFault) {
        for (int undos = 0; undos <= 9; undos++) {
            List<Long> plain = lookBack(after(before), undos, withFault);
            Told tried = after(before);
            call.make(tried);
            String made = tried.latest();
            if (!lookBack(tried, undos, withFault).equals(plain)) {
                fail(made + " has changed what is seen behind " + undos + " calls of undo");
                return;
            }
        }
        Told plain = after(before);
        Told tried = after(before);
        call.make(tried);
        String made = tried.latest();
        if (!reread(plain).equals(reread(tried))) {
            fail(made + " has changed the text buffer");
        }
    }

    private static List<Long> lookBack(Told x, int undos, boolean withFault) {
        List<Long> seen = new ArrayList<>();
        for (int i = 0; i < undos; i++) {
            seen.add((long) x.undo());
        }
        if (withFault) {
            seen.add((long) x.faultKind());
        }
        look(x, seen);
        return seen;
    }

    private static List<Long> reread(Told x) {
        List<Long> seen = new ArrayList<>();
        seen.add((long) x.load());
        seen.add((long) x.faultKind());
        look(x, seen);
        return seen;
    }

    /** All that can be seen of an object: the digest tells everything but contacts, and which cells a piece has. */
    private static void look(Told x, List<Long> seen) {
        seen.addAll(lookShortly(x));
        for (int cell = 0; cell < 216; cell++) {
            seen.add((long) x.pieceAt(cell % 6, cell / 6 % 6, cell / 36));
        }
    }

    /** All that undo() restores, as one number; text, fault and remembered states do not count. */
    static long stateOf(Told x) {
        long h = 17;
        for (int what = 0; what < 5; what++) {
            h = 31 * h + x.count(what);
        }
        for (int piece = 0; piece < x.count(0); piece++) {
            for (int what = 0; what < 10; what++) {
                h = 31 * h + x.piece(piece, what);
            }
        }
        return h;
    }

    // ---- scenes

    static Told after(Scene scene) {
        Told x = new Told();
        scene.play(x);
        return x;
    }

    static void nothing(Told x) {
    }

    static void type(Told x, String text) {
        for (int i = 0; i < text.length(); i++) {
            x.type(text.charAt(i));
        }
    }

    static Scene text(String text) {
        return x -> type(x, text);
    }

    /** The pieces of a text, which is cleared behind them, with no remembered state but the one before them. */
    static Scene pieces(String text) {
        return x -> {
            type(x, text);
            x.load();
            x.clearText();
        };
    }

    static Told of(String text) {
        return after(pieces(text));
    }

    /** Two posts and a beam on them. */
    static final String GATE = "000112;400112;002511";

    /** Eight single cells on the ground. */
    static final String EIGHT = "000111;100111;200111;300111;400111;500111;010111;110111";

    /** Two pieces that share a cube of eight cells as on a chess board: neither gets out. */
    static final String LOCK = "000111+110111+101111+011111;100111+010111+001111+111111";

    /** A cell, with another one behind it in each direction, in the order of the directions. */
    static final String STAR = "222111;522111;022111;252111;202111;225111;220111";

    /** Pieces, a building with steps, a text and a fault, none of which is as in a new object. */
    static void busy(Told x) {
        type(x, "9");
        x.load();
        x.clearText();
        type(x, GATE + " ");
        x.addPiece(0, 0, 0, 1, 1, 2);
        x.addPiece(4, 0, 0, 1, 1, 2);
        x.addPiece(0, 0, 2, 5, 1, 1);
        x.put(2, 4);
        x.put(0, 0);
    }

    /** Eight pieces, of which some are put up. */
    static void crowd(Told x) {
        pieces(EIGHT).play(x);
        x.put(7, 4);
        x.put(0, 4);
    }

    static int add(Told x, int[] box) {
        return x.addPiece(box[0], box[1], box[2], box[3], box[4], box[5]);
    }

    static int extend(Told x, int piece, int[] box) {
        return x.extend(piece, box[0], box[1], box[2], box[3], box[4], box[5]);
    }

    /** Eight pieces that come out only one by one, each of them behind the one with the next greater number. */
    static void chain(Told x) {
        chain(x, false);
    }

    /** The same pieces, with their numbers turned round if this is wanted. */
    static void chain(Told x, boolean turned) {
        String[] pieces = {"430332011335", "302023333411", "303232323342", "234021204500", "034520321404", "235530141030",
            "154304050352", "324300403054"};
        for (int i = 0; i < pieces.length; i++) {
            scatter(x, pieces[turned ? pieces.length - 1 - i : i], 0, 0, 0);
        }
    }

    /** Adds a piece of single cells, each told by its three digits, and moved by these numbers. */
    static void scatter(Told x, String cells, int byX, int byY, int byZ) {
        int piece = x.count(0);
        for (int i = 0; i + 2 < cells.length(); i += 3) {
            int cx = cells.charAt(i) - '0' + byX;
            int cy = cells.charAt(i + 1) - '0' + byY;
            int cz = cells.charAt(i + 2) - '0' + byZ;
            if (i == 0) {
                x.addPiece(cx, cy, cz, 1, 1, 1);
            } else {
                x.extend(piece, cx, cy, cz, 1, 1, 1);
            }
        }
    }

    /** Numbers that are no pieces when there are so many; the great ones are small again if bits are lost. */
    static int[] noPieces(int many) {
        return new int[] {-1, -2, many, Math.max(many, 8), 32, 256, 65536, LEAST, MOST};
    }

    /** Sets with something else than pieces when there are so many. */
    static int[] noSets(int many) {
        int all = (1 << many) - 1;
        return new int[] {1 << many, all | 1 << many, 256, 1 << 30, -1, -2, ~all, LEAST, LEAST | all, MOST};
    }
}
