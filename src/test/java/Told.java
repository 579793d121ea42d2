/**
 * A FrameRaiser that can name its latest call, and counts its calls: what is answered behind the 512th
 * one is free, so that no test may rest on it.
 */
final class Told {
    static final int MOST_CALLS = 512;

    private final FrameRaiser real = new FrameRaiser();
    private int calls = 0;
    private String name = "new FrameRaiser";
    private Object[] arguments = {};

    private void tell(String method, Object... given) {
        calls++;
        if (calls > MOST_CALLS) {
            throw new IllegalStateException("a test makes more than " + MOST_CALLS + " calls of one object");
        }
        name = method;
        arguments = given;
    }

    String latest() {
        String list = java.util.Arrays.toString(arguments);
        return name + "(" + list.substring(1, list.length() - 1) + ")";
    }

    int calls() {
        return calls;
    }

    int type(int code) {
        tell("type", code);
        return real.type(code);
    }

    int clearText() {
        tell("clearText");
        return real.clearText();
    }

    int load() {
        tell("load");
        return real.load();
    }

    int faultKind() {
        tell("faultKind");
        return real.faultKind();
    }

    int clear() {
        tell("clear");
        return real.clear();
    }

    int addPiece(int x, int y, int z, int a, int b, int c) {
        tell("addPiece", x, y, z, a, b, c);
        return real.addPiece(x, y, z, a, b, c);
    }

    int extend(int piece, int x, int y, int z, int a, int b, int c) {
        tell("extend", piece, x, y, z, a, b, c);
        return real.extend(piece, x, y, z, a, b, c);
    }

    int drop(int piece) {
        tell("drop", piece);
        return real.drop(piece);
    }

    int shift(int piece, int direction) {
        tell("shift", piece, direction);
        return real.shift(piece, direction);
    }

    int pieceAt(int x, int y, int z) {
        tell("pieceAt", x, y, z);
        return real.pieceAt(x, y, z);
    }

    int piece(int piece, int what) {
        tell("piece", piece, what);
        return real.piece(piece, what);
    }

    int blockers(int piece, int direction) {
        tell("blockers", piece, direction);
        return real.blockers(piece, direction);
    }

    int ways(int piece, int set) {
        tell("ways", piece, set);
        return real.ways(piece, set);
    }

    int contact(int a, int b) {
        tell("contact", a, b);
        return real.contact(a, b);
    }

    int hangsTogether(int set) {
        tell("hangsTogether", set);
        return real.hangsTogether(set);
    }

    int props(int set) {
        tell("props", set);
        return real.props(set);
    }

    int standing(int set) {
        tell("standing", set);
        return real.standing(set);
    }

    int orders(int set) {
        tell("orders", set);
        return real.orders(set);
    }

    int fewestProps(int set) {
        tell("fewestProps", set);
        return real.fewestProps(set);
    }

    int planned(int set, int k, boolean direction) {
        tell("planned", set, k, direction);
        return real.planned(set, k, direction);
    }

    int locked(int set) {
        tell("locked", set);
        return real.locked(set);
    }

    int firstGroup(int set, boolean direction) {
        tell("firstGroup", set, direction);
        return real.firstGroup(set, direction);
    }

    int put(int piece, int direction) {
        tell("put", piece, direction);
        return real.put(piece, direction);
    }

    int takeOut(int piece, int direction) {
        tell("takeOut", piece, direction);
        return real.takeOut(piece, direction);
    }

    int putAll() {
        tell("putAll");
        return real.putAll();
    }

    int ifShift(int piece, int direction) {
        tell("ifShift", piece, direction);
        return real.ifShift(piece, direction);
    }

    int undo() {
        tell("undo");
        return real.undo();
    }

    int count(int what) {
        tell("count", what);
        return real.count(what);
    }

    long digest() {
        tell("digest");
        return real.digest();
    }
}
