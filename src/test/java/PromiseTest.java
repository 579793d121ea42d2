/** Each promise of the document by itself: ordinary inputs, the edges that it names, and wrong inputs. */
public final class PromiseTest {
    private static final int BAD = -1, STATE = -2, FULL = -3, NONE = -9;
    private static final int LEAST = Integer.MIN_VALUE, MOST = Integer.MAX_VALUE;

    private static int wrong = 0;
    private static int promise = 0;
    private static int row = 0;

    public static void main(String[] args) {
        newObject();
        type();
        clearText();
        load();
        faultKind();
        clear();
        addPiece();
        extend();
        drop();
        shift();
        pieceAt();
        piece();
        blockers();
        ways();
        contact();
        hangsTogether();
        props();
        standing();
        orders();
        fewestProps();
        planned();
        locked();
        firstGroup();
        put();
        takeOut();
        putAll();
        ifShift();
        undo();
        count();
        digest();
        if (wrong != 0) {
            System.exit(1);
        }
    }

    private static void begin(int number) {
        promise = number;
        row = 0;
    }

    private static void due(long want, long got) {
        row++;
        if (want != got) {
            wrong++;
            System.out.println("promise " + promise + ", check " + row + ": answered " + got + ", due is " + want);
        }
    }

    private static FrameRaiser fresh() {
        return new FrameRaiser();
    }

    /** A planner that has read this text; a text with a fault leaves it without pieces. */
    private static FrameRaiser of(String text) {
        FrameRaiser x = fresh();
        write(x, text);
        x.load();
        return x;
    }

    private static void write(FrameRaiser x, String text) {
        x.clearText();
        for (int i = 0; i < text.length(); i++) {
            x.type(text.charAt(i));
        }
    }

    private static int add(FrameRaiser x, int... b) {
        return x.addPiece(b[0], b[1], b[2], b[3], b[4], b[5]);
    }

    // Two posts and a beam on them.
    private static final String GATE = "000112;400112;002511";
    // A and B share a cube of eight cells as on a chess board: neither gets out.
    private static final String LOCK_A = "000111+110111+101111+011111", LOCK_B = "100111+010111+001111+111111";

    // Neither the cell 0 in the middle nor its floor and lid 2 can come last, for the ring 1 is around them.
    private static final String CAGE = "221111;520112+020112+250112+200112;220111+225111";
    // Piece 1 is locked with piece 0 when it is shifted to greater x.
    private static final String TRAP_OPEN = "333111+023111+203111+230111;133111+223111+232111";
    private static final String TRAP_SHUT = "333111+023111+203111+230111;233111+323111+332111";

    private static FrameRaiser lockedPair() {
        return of(LOCK_A + ";" + LOCK_B);
    }

    private static void newObject() {
        begin(1);
        FrameRaiser x = fresh();
        for (int what = 0; what < 7; what++) {
            due(0, x.count(what));
        }
        due(STATE, x.undo());
        due(0, x.faultKind());
        due(0, x.clearText());
        for (int cell = 0; cell < 216; cell++) {
            due(NONE, x.pieceAt(cell % 6, cell / 6 % 6, cell / 36));
        }
        add(x, 0, 0, 0, 1, 1, 1);
        due(0, fresh().count(0));
    }

    private static void type() {
        begin(2);
        FrameRaiser x = fresh();
        due(1, x.type(32));
        due(2, x.type(126));
        due(BAD, x.type(31));
        due(BAD, x.type(127));
        due(BAD, x.type(-1));
        due(BAD, x.type(LEAST));
        due(BAD, x.type(MOST));
        for (int i = 3; i <= 80; i++) {
            due(i, x.type('a'));
        }
        due(FULL, x.type('a'));
        due(FULL, x.type(32));
        due(BAD, x.type(31));
        due(80, x.count(5));
        due(0, x.count(6));
    }

    private static void clearText() {
        begin(3);
        FrameRaiser x = fresh();
        due(0, x.clearText());
        write(x, "000111");
        due(6, x.clearText());
        due(0, x.count(5));
        due(0, x.clearText());
        due(0, x.count(6));
        due(0, x.load());
        due(1, x.type('x'));
    }

    private static void loads(int want, int kind, String text) {
        FrameRaiser x = fresh();
        add(x, 5, 5, 5, 1, 1, 1);
        x.put(0, 0);
        write(x, text);
        long before = x.digest();
        due(want, x.load());
        due(kind, x.faultKind());
        due(text.length(), x.count(5));
        if (want < 0) {
            due(before, x.digest());
        } else {
            due(want, x.count(0));
            due(0, x.count(2));
            due(0, x.count(3));
            due(3, x.count(6));
        }
    }

    private static final String EIGHT = "000111;100111;200111;300111;400111;500111;010111;110111";

    private static void load() {
        begin(4);
        loads(0, 0, "");
        loads(0, 0, "   ");
        loads(1, 0, "000666");
        loads(1, 0, "555111");
        loads(2, 0, "  000111  +  000222  ;  500111  ");
        loads(8, 0, EIGHT);
        loads(8, 0, EIGHT + "  ");
        loads(8, 0, EIGHT + "+120111");
        loads(1, 0, "000111+000111+000111+000111");
        wrongSigns();
        wrongDigits();
        takenCells();
        ninthPieces();
        FrameRaiser x = of(GATE);
        due(3, x.load());
        due(3, x.count(0));
        due(2, x.count(6));
        due(1, x.pieceAt(4, 0, 1));
        due(2, x.pieceAt(4, 0, 2));
        // What was known of the pieces before is not told of those that were read.
        due(4, x.blockers(0, 4));
        due(6, x.orders(7));
        write(x, "000111;300111;005131");
        due(3, x.load());
        due(5, x.count(1));
        due(2, x.blockers(0, 0));
        due(4, x.blockers(0, 4));
        due(0, x.blockers(1, 4));
        write(x, CAGE);
        due(3, x.load());
        due(2, x.orders(7));
    }

    private static void wrongSigns() {
        loads(-10, 1, "a");
        loads(-10, 1, ";");
        loads(-10, 1, "+");
        loads(-12, 1, "  ;000111");
        loads(-12, 1, "  +000111");
        loads(-11, 1, "0");
        loads(-15, 1, "00011");
        loads(-15, 1, "00011;");
        loads(-15, 1, "00011 ");
        loads(-13, 1, "000 111");
        loads(-13, 1, "000/11");
        loads(-13, 1, "000:11");
        loads(-16, 1, "0001111");
        loads(-17, 1, "000111 000111");
        loads(-16, 1, "000111,");
        loads(-17, 1, "000111;");
        loads(-19, 1, "000111;  ");
        loads(-17, 1, "000111+");
        loads(-18, 1, "000111+ ");
        loads(-17, 1, "000111;;");
        loads(-18, 1, "000111; +100111");
        loads(-17, 1, "000111++");
        loads(-17, 1, "000111+;100111");
        loads(-37, 1, "000111+000111+000111+000111+000111");
        loads(-38, 1, "000111+000111+000111+000111 +x");
        loads(-44, 1, "500111;000111+000111+000111+000111+");
        loads(-65, 1, EIGHT + "x");
        loads(-66, 1, EIGHT + "+");
        loads(-66, 1, EIGHT + "+;");
    }

    private static void wrongDigits() {
        loads(-10, 2, "600111");
        loads(-11, 2, "090111");
        loads(-12, 2, "006111");
        loads(-13, 2, "000011");
        loads(-14, 2, "000101");
        loads(-15, 2, "000110");
        loads(-13, 2, "000711");
        loads(-13, 2, "100611");
        loads(-14, 2, "050121");
        loads(-15, 2, "003114");
        loads(-11, 2, "06x");
        loads(-10, 2, "9");
        loads(-11, 1, "0x9");
        loads(-17, 2, "000111;700111");
        loads(-10, 2, "66666666666666");
    }

    private static void takenCells() {
        loads(-22, 3, "000111;000111");
        loads(-22, 3, "000666;555111");
        loads(-29, 3, "000111;100111+000111");
        loads(-22, 3, "000111;000111x");
        loads(-22, 1, "000111;00011x");
        loads(-22, 2, "000111;000110");
        loads(1, 0, "000222+111222");
        loads(1, 0, "555111");
    }

    private static void ninthPieces() {
        loads(-65, 4, EIGHT + ";");
        loads(-65, 4, EIGHT + ";210111");
        loads(-65, 4, EIGHT + ";000111");
        loads(-65, 4, EIGHT + ";;x");
        loads(-67, 4, EIGHT + "  ; ");
        loads(-72, 4, EIGHT + "+120111;");
        loads(-64, 2, EIGHT.substring(0, 54) + "9;");
        loads(-64, 3, EIGHT.substring(0, 49) + "000111;");
    }

    private static void faultKind() {
        begin(5);
        FrameRaiser x = fresh();
        due(0, x.faultKind());
        write(x, "x");
        due(0, x.faultKind());
        due(-10, x.load());
        due(1, x.faultKind());
        x.clearText();
        due(1, x.faultKind());
        due(0, x.addPiece(0, 0, 0, 1, 1, 1));
        due(1, x.faultKind());
        due(0, x.undo());
        due(1, x.faultKind());
        due(0, x.load());
        due(0, x.faultKind());
        write(x, "9");
        due(-10, x.load());
        due(2, x.faultKind());
        due(0, x.undo());
        due(2, x.faultKind());
        due(0, x.clear());
        due(2, x.faultKind());
    }

    private static void clear() {
        begin(6);
        FrameRaiser x = of(GATE);
        x.put(0, 0);
        due(9, x.count(1));
        due(3, x.clear());
        for (int what = 0; what < 5; what++) {
            due(0, x.count(what));
        }
        due(20, x.count(5));
        due(3, x.count(6));
        due(NONE, x.pieceAt(0, 0, 0));
        due(0, x.clear());
        due(4, x.count(6));
        due(0, x.addPiece(0, 0, 0, 6, 6, 6));
        due(1, x.piece(0, 1));
        due(1, x.orders(1));
        due(1, x.clear());
        due(1, x.orders(0));
        due(BAD, x.orders(1));
    }

    private static void addPiece() {
        begin(7);
        FrameRaiser x = fresh();
        due(0, add(x, 0, 0, 0, 1, 2, 3));
        due(6, x.piece(0, 0));
        due(1, add(x, 5, 5, 5, 1, 1, 1));
        due(2, add(x, 0, 5, 0, 6, 1, 5));
        int[] good = {3, 3, 3, 1, 1, 1};
        for (int i = 0; i < 6; i++) {
            for (int value : new int[] {-1, i < 3 ? 6 : 0, i < 3 ? 7 : 4, LEAST, MOST}) {
                int[] box = good.clone();
                box[i] = value;
                due(BAD, add(x, box));
            }
        }
        due(BAD, add(x, 5, 0, 0, 2, 1, 1));
        due(STATE, add(x, 0, 1, 2, 6, 4, 1));
        due(STATE, add(x, 0, 0, 0, 6, 6, 6));
        due(3, x.count(6));
        due(3, add(x, 3, 3, 3, 3, 1, 3));
        for (int i = 4; i < 8; i++) {
            due(i, add(x, i - 3, 0, 0, 1, 1, 1));
        }
        due(FULL, add(x, 5, 0, 0, 1, 1, 1));
        due(STATE, add(x, 0, 0, 0, 1, 1, 1));
        due(BAD, add(x, 0, 0, 0, 7, 1, 1));
        due(8, x.count(0));
        due(8, x.count(6));
    }

    private static void extend() {
        begin(8);
        FrameRaiser x = of("000111;300111");
        due(2, x.extend(0, 1, 0, 0, 1, 1, 1));
        due(2, x.piece(0, 1));
        due(4, x.extend(0, 0, 0, 0, 2, 2, 1));
        due(STATE, x.extend(0, 2, 0, 0, 2, 1, 1));
        due(STATE, x.extend(1, 0, 0, 0, 4, 1, 1));
        due(BAD, x.extend(2, 5, 5, 5, 1, 1, 1));
        due(BAD, x.extend(-1, 5, 5, 5, 1, 1, 1));
        due(BAD, x.extend(LEAST, 5, 5, 5, 1, 1, 1));
        due(BAD, x.extend(0, 5, 5, 5, 2, 1, 1));
        due(BAD, x.extend(0, 5, 6, 5, 1, 1, 1));
        due(BAD, x.extend(0, 5, 5, 5, 1, 1, MOST));
        due(BAD, x.extend(0, 5, 5, 5, 1, 0, 1));
        due(3, x.count(6));
        due(5, x.extend(0, 5, 5, 5, 1, 1, 1));
        due(FULL, x.extend(0, 5, 5, 5, 1, 1, 1));
        due(STATE, x.extend(0, 3, 0, 0, 1, 1, 1));
        due(BAD, x.extend(0, 6, 0, 0, 1, 1, 1));
        due(4, x.piece(0, 1));
        due(4, x.count(6));
        x.put(1, 0);
        due(2, x.extend(1, 3, 1, 0, 1, 1, 1));
        due(2, x.count(2));
        due(1, x.count(3));
    }

    private static void drop() {
        begin(9);
        FrameRaiser x = of("000111+000111;100112;200113;300114+300111+300111");
        x.put(0, 4);
        x.put(2, 4);
        x.put(3, 4);
        due(BAD, x.drop(4));
        due(BAD, x.drop(-1));
        due(BAD, x.drop(LEAST));
        due(4, x.count(6));
        due(3, x.drop(1));
        due(7, x.count(2));
        due(3, x.count(3));
        due(1, x.pieceAt(2, 0, 2));
        due(NONE, x.pieceAt(1, 0, 0));
        due(3, x.piece(1, 0));
        due(1, x.piece(1, 1));
        due(3, x.piece(2, 1));
        due(2, x.piece(0, 1));
        due(2, x.drop(0));
        due(3, x.count(2));
        due(3, x.count(3));
        due(1, x.drop(1));
        due(1, x.count(2));
        due(0, x.drop(0));
        due(0, x.count(2));
        due(BAD, x.drop(0));
        due(8, x.count(6));
        due(0, add(x, 0, 0, 0, 1, 1, 1));
        due(1, x.piece(0, 1));
    }

    private static void shift() {
        begin(10);
        FrameRaiser x = of("000311+020111;444111");
        x.put(1, 0);
        due(BAD, x.shift(2, 0));
        due(BAD, x.shift(-1, 0));
        due(BAD, x.shift(0, 6));
        due(BAD, x.shift(0, -1));
        due(STATE, x.shift(0, 1));
        due(STATE, x.shift(0, 3));
        due(STATE, x.shift(0, 5));
        due(2, x.count(6));
        int[][] axes = {{0, 2, 5}, {2, 3, 6}, {4, 4, 7}};
        for (int[] axis : axes) {
            due(1, x.shift(0, axis[0]));
            due(1, x.piece(0, axis[1]));
            due(1, x.shift(0, axis[0] + 1));
            due(0, x.piece(0, axis[1]));
        }
        for (int i = 0; i < 3; i++) {
            due(1, x.shift(0, 0));
        }
        due(STATE, x.shift(0, 0));
        due(4, x.piece(0, 0));
        due(2, x.piece(0, 1));
        due(0, x.pieceAt(3, 2, 0));
        due(0, x.pieceAt(5, 0, 0));
        due(NONE, x.pieceAt(2, 0, 0));
        due(1, x.shift(1, 0));
        due(STATE, x.shift(1, 0));
        due(2, x.count(2));
        due(1, x.count(3));
        FrameRaiser y = of("000111+200111;100111;020111");
        due(STATE, y.shift(0, 0));
        due(STATE, y.shift(1, 1));
        due(1, y.shift(0, 2));
        due(STATE, y.shift(0, 2));
        due(1, y.shift(1, 0));
        due(1, y.pieceAt(2, 0, 0));
    }

    private static void pieceAt() {
        begin(11);
        FrameRaiser x = of("012111;500123");
        due(0, x.pieceAt(0, 1, 2));
        due(NONE, x.pieceAt(2, 1, 0));
        due(1, x.pieceAt(5, 0, 0));
        due(1, x.pieceAt(5, 1, 2));
        due(NONE, x.pieceAt(5, 2, 2));
        due(NONE, x.pieceAt(5, 1, 3));
        due(NONE, x.pieceAt(4, 0, 0));
        due(NONE, x.pieceAt(5, 5, 5));
        for (int value : new int[] {-1, 6, LEAST, MOST}) {
            due(BAD, x.pieceAt(value, 0, 0));
            due(BAD, x.pieceAt(0, value, 0));
            due(BAD, x.pieceAt(0, 0, value));
        }
    }

    private static void piece() {
        begin(12);
        FrameRaiser x = of("120211+341123");
        int[] due = {8, 2, 1, 2, 0, 3, 5, 3, 2, 0};
        for (int what = 0; what < 10; what++) {
            due(due[what], x.piece(0, what));
        }
        x.put(0, 0);
        due(1, x.piece(0, 9));
        due(BAD, x.piece(0, 10));
        due(BAD, x.piece(0, -1));
        due(BAD, x.piece(1, 0));
        due(BAD, x.piece(-1, 0));
        due(BAD, x.piece(LEAST, MOST));
        FrameRaiser y = of("000111;345111");
        due(BAD, y.piece(0, 10));
        due(BAD, y.piece(0, -1));
        due(BAD, y.piece(1, -1));
        due(3, y.piece(1, 2));
        due(5, y.piece(1, 7));
        due(0, y.piece(0, 7));
        x.extend(0, 0, 0, 0, 6, 6, 1);
        due(42, x.piece(0, 0));
        due(36, x.piece(0, 8));
        due(0, x.piece(0, 2));
        due(5, x.piece(0, 5));
    }

    private static void blockers() {
        begin(13);
        FrameRaiser x = of("222111;522111;022111;252111;202111;225111;220111");
        due(1 << 1, x.blockers(0, 0));
        due(1 << 2, x.blockers(0, 1));
        due(1 << 3, x.blockers(0, 2));
        due(1 << 4, x.blockers(0, 3));
        due(1 << 5, x.blockers(0, 4));
        due(1 << 6, x.blockers(0, 5));
        due(1 | 1 << 2, x.blockers(1, 1));
        due(0, x.blockers(1, 0));
        due(0, x.blockers(1, 2));
        due(BAD, x.blockers(7, 0));
        due(BAD, x.blockers(-1, 0));
        due(BAD, x.blockers(0, 6));
        due(BAD, x.blockers(0, -1));
        due(BAD, x.blockers(LEAST, MOST));
        FrameRaiser y = of("000111+500111;200111");
        due(2, y.blockers(0, 0));
        due(2, y.blockers(0, 1));
        due(1, y.blockers(1, 0));
        due(0, y.blockers(0, 2));
    }

    private static void ways() {
        begin(14);
        FrameRaiser x = of("222111;522111;022111;252111;202111;225111;220111");
        due(63, x.ways(0, 0));
        due(63, x.ways(0, 1));
        due(0, x.ways(0, 127));
        due(0, x.ways(0, 126));
        due(62, x.ways(0, 2));
        due(63 - 1 - 16, x.ways(0, 2 + 32));
        due(63 - 2, x.ways(1, 127));
        due(BAD, x.ways(7, 0));
        due(BAD, x.ways(-1, 0));
        due(BAD, x.ways(0, 128));
        due(BAD, x.ways(0, -1));
        due(BAD, x.ways(0, LEAST));
        due(63, of("000111+200111").ways(0, 1));
    }

    private static void contact() {
        begin(15);
        FrameRaiser x = of("000221;001221;200111+112111;555111");
        due(4, x.contact(0, 1));
        due(4, x.contact(1, 0));
        due(1, x.contact(0, 2));
        due(1, x.contact(2, 1));
        due(0, x.contact(0, 3));
        due(BAD, x.contact(0, 0));
        due(BAD, x.contact(0, 4));
        due(BAD, x.contact(4, 0));
        due(BAD, x.contact(-1, 0));
        due(BAD, x.contact(MOST, LEAST));
        FrameRaiser y = of("000111+200111;100111;111111;122111");
        due(2, y.contact(0, 1));
        due(0, y.contact(1, 2));
        due(0, y.contact(2, 3));
        due(0, y.contact(0, 3));
        FrameRaiser z = of("111111;011111;211111;101111;121111;110111;112111");
        for (int other = 1; other < 7; other++) {
            due(1, z.contact(0, other));
            due(1, z.contact(other, 0));
        }
        due(0, z.contact(1, 2));
    }

    private static void hangsTogether() {
        begin(16);
        FrameRaiser x = of("500111;000111;400111;100111;300111;200111;055111");
        due(1, x.hangsTogether(0));
        for (int piece = 0; piece < 7; piece++) {
            due(1, x.hangsTogether(1 << piece));
        }
        due(1, x.hangsTogether(63));
        due(0, x.hangsTogether(127));
        due(0, x.hangsTogether(63 - 32));
        due(0, x.hangsTogether(3));
        due(1, x.hangsTogether(1 + 4));
        due(BAD, x.hangsTogether(128));
        due(BAD, x.hangsTogether(-1));
        due(BAD, x.hangsTogether(LEAST));
        due(1, fresh().hangsTogether(0));
        due(BAD, fresh().hangsTogether(1));
        due(1, of("000111+400111;100111;300111").hangsTogether(7));
        due(0, of("000111;110111").hangsTogether(3));
    }

    private static void props() {
        begin(17);
        FrameRaiser x = of("000111;001111;002111;333111;334111+350111");
        due(0, x.props(0));
        due(0, x.props(1));
        due(1, x.props(2));
        due(0, x.props(3));
        due(1, x.props(5));
        due(1, x.props(6));
        due(2, x.props(4 + 8 + 1));
        due(0, x.props(16));
        due(1, x.props(31));
        due(BAD, x.props(32));
        due(BAD, x.props(-1));
        due(BAD, x.props(LEAST));
        due(1, of("001111+002111").props(1));
    }

    private static void standing() {
        begin(18);
        FrameRaiser x = of("003111;002111;001111;000111;555111");
        due(15, x.standing(31));
        due(0, x.standing(7));
        due(8, x.standing(8 + 2));
        due(0, x.standing(0));
        due(BAD, x.standing(32));
        due(BAD, x.standing(-1));
        FrameRaiser y = of("001111+013111;002111+012111");
        due(0, y.props(3));
        due(0, y.standing(3));
        due(0, of("001111+002111").standing(1));
    }

    private static void orders() {
        begin(19);
        due(1, fresh().orders(0));
        due(BAD, fresh().orders(1));
        FrameRaiser x = of(EIGHT);
        due(40320, x.orders(255));
        due(BAD, x.orders(256));
        due(BAD, x.orders(-1));
        due(BAD, x.orders(LEAST));
        due(24, x.orders(15));
        FrameRaiser y = lockedPair();
        due(0, y.orders(3));
        due(1, y.orders(1));
        due(1, y.orders(2));
        due(1, y.orders(0));
        due(2, y.addPiece(5, 5, 5, 1, 1, 1));
        due(0, y.orders(7));
        due(2, y.orders(5));
        // The cell in the middle of six others cannot come last; any of the others can.
        FrameRaiser z = of("222111;522111;022111;252111;202111;225111;220111");
        due(5040 - 720, z.orders(127));
        due(720, z.orders(126));
        due(720, z.orders(127 - 64));
        due(1, z.shift(6, 0));
        due(5040, z.orders(127));
        due(1, z.undo());
        due(5040 - 720, z.orders(127));
        due(2, of(CAGE).orders(7));
        due(2, of(CAGE).orders(5));
    }

    private static void fewestProps() {
        begin(20);
        FrameRaiser x = of(GATE);
        due(0, x.fewestProps(7));
        due(0, x.fewestProps(0));
        due(1, x.fewestProps(4));
        due(0, x.fewestProps(6));
        due(BAD, x.fewestProps(8));
        due(BAD, x.fewestProps(-1));
        due(NONE, lockedPair().fewestProps(3));
        FrameRaiser y = of("001112;003111;004111;000111");
        due(0, y.fewestProps(15));
        due(1, y.fewestProps(7));
        due(1, y.fewestProps(6));
        due(2, y.fewestProps(1 + 4));
        // Each of these two carries the other one: whichever comes first needs a prop.
        FrameRaiser z = of("001111+013111;002111+012111");
        due(0, z.props(3));
        due(1, z.fewestProps(3));
        due(0, of(CAGE).fewestProps(7));
        due(1, of(CAGE).fewestProps(3));
        FrameRaiser w = of("001111;021111;041111");
        due(3, w.fewestProps(7));
        due(2, w.fewestProps(5));
    }

    private static void planOf(FrameRaiser x, int set, int[] pieces, int[] ways) {
        for (int k = 0; k < pieces.length; k++) {
            due(pieces[k], x.planned(set, k, false));
            due(ways[k], x.planned(set, k, true));
        }
        for (int k : new int[] {pieces.length, 8, 9, MOST}) {
            due(NONE, x.planned(set, k, false));
            due(NONE, x.planned(set, k, true));
        }
    }

    private static void planned() {
        begin(21);
        FrameRaiser x = of(GATE);
        planOf(x, 7, new int[] {0, 1, 2}, new int[] {0, 0, 0});
        planOf(x, 6, new int[] {1, 2}, new int[] {0, 0});
        planOf(x, 0, new int[0], new int[0]);
        due(BAD, x.planned(8, 0, false));
        due(BAD, x.planned(-1, 0, true));
        due(BAD, x.planned(7, -1, false));
        due(BAD, x.planned(7, LEAST, true));
        due(BAD, x.planned(8, MOST, true));
        planOf(lockedPair(), 3, new int[0], new int[0]);
        planOf(of(CAGE), 7, new int[] {2, 0, 1}, new int[] {0, 0, 4});
        planOf(of(CAGE), 3, new int[] {0, 1}, new int[] {0, 4});
        // The roof comes behind what carries it, though its number is the smallest one.
        planOf(of("002111;001111;000111"), 7, new int[] {2, 1, 0}, new int[] {0, 0, 0});
        planOf(of("001111+013111;002111+012111"), 3, new int[] {0, 1}, new int[] {0, 0});
        planOf(of("000111;100111;010111"), 7, new int[] {0, 1, 2}, new int[] {0, 0, 0});
        planOf(of("100111+010111;000111"), 3, new int[] {0, 1}, new int[] {0, 1});
        FrameRaiser y = of("000111;001111");
        planOf(y, 3, new int[] {0, 1}, new int[] {0, 0});
        y.drop(0);
        due(NONE, y.planned(1, 1, false));
        y.undo();
        planOf(y, 3, new int[] {0, 1}, new int[] {0, 0});
    }

    private static void locked() {
        begin(22);
        due(0, fresh().locked(0));
        due(BAD, fresh().locked(1));
        FrameRaiser x = lockedPair();
        due(3, x.locked(3));
        due(0, x.locked(1));
        due(0, x.locked(2));
        due(0, x.locked(0));
        add(x, 0, 0, 2, 2, 2, 1);
        add(x, 5, 5, 5, 1, 1, 1);
        due(3, x.locked(15));
        due(0, x.locked(14));
        due(BAD, x.locked(16));
        due(BAD, x.locked(-1));
        due(BAD, x.locked(LEAST));
        // The middle one comes out only when another one is out.
        due(0, of("222111;522111;022111;252111;202111;225111;220111").locked(127));
        due(3, of(TRAP_SHUT).locked(3));
        due(0, of(TRAP_OPEN).locked(3));
    }

    /** Two locked pairs beside each other along x, the pieces 0 and 3 and the pieces 1 and 2. */
    private static FrameRaiser twoPairs(boolean outerNumbersFirst) {
        FrameRaiser x = fresh();
        int outer = outerNumbersFirst ? 0 : 2;
        int inner = 2 - outer;
        scatter(x, outer, "000110101011");
        scatter(x, inner, "000110101011");
        scatter(x, inner, "100010001111");
        scatter(x, outer, "100010001111");
        return x;
    }

    /** Adds a piece of single cells, each told by its three digits and moved along x. */
    private static void scatter(FrameRaiser x, int byX, String cells) {
        int piece = x.count(0);
        for (int i = 0; i + 2 < cells.length(); i += 3) {
            int cx = cells.charAt(i) - '0' + byX;
            int cy = cells.charAt(i + 1) - '0';
            int cz = cells.charAt(i + 2) - '0';
            if (i == 0) {
                x.addPiece(cx, cy, cz, 1, 1, 1);
            } else {
                x.extend(piece, cx, cy, cz, 1, 1, 1);
            }
        }
    }

    private static void group(FrameRaiser x, int set, int group, int way) {
        due(group, x.firstGroup(set, false));
        due(way, x.firstGroup(set, true));
    }

    private static void firstGroup() {
        begin(23);
        group(fresh(), 0, NONE, NONE);
        group(fresh(), 1, BAD, BAD);
        FrameRaiser x = of(GATE);
        group(x, 0, NONE, NONE);
        group(x, 1, NONE, NONE);
        group(x, 7, 1, 1);
        group(x, 6, 2, 0);
        group(x, 5, 1, 0);
        group(x, 3, 1, 1);
        group(x, 8, BAD, BAD);
        group(x, -1, BAD, BAD);
        group(x, LEAST, BAD, BAD);
        group(lockedPair(), 3, NONE, NONE);
        FrameRaiser y = twoPairs(true);
        due(4, y.count(0));
        due(15, y.locked(15));
        group(y, 15, 6, 0);
        group(y, 9, NONE, NONE);
        group(y, 11, 2, 0);
        group(twoPairs(false), 15, 6, 1);
        // Only the fifth piece comes out alone: fewer pieces go before smaller masks.
        add(y, 0, 5, 5, 1, 1, 1);
        group(y, 31, 16, 0);
        // The middle one alone is blocked all around; the smallest of the others is not.
        FrameRaiser z = of("222111;522111;022111;252111;202111;225111;220111");
        group(z, 127, 2, 0);
        group(z, 127 - 2, 1, 0);
        group(z, 127 - 64, 1, 5);
    }

    private static void put() {
        begin(24);
        FrameRaiser x = of("001111;000111;002111");
        due(BAD, x.put(3, 0));
        due(BAD, x.put(-1, 0));
        due(BAD, x.put(0, 6));
        due(BAD, x.put(0, -1));
        due(BAD, x.put(LEAST, MOST));
        due(1, x.count(6));
        due(1, x.put(0, 4));
        due(1, x.count(2));
        due(1, x.count(3));
        due(STATE, x.put(0, 4));
        due(STATE, x.put(0, 0));
        due(STATE, x.put(1, 4));
        due(STATE, x.put(2, 5));
        due(1, x.count(3));
        due(2, x.count(6));
        due(0, x.put(1, 5));
        due(0, x.put(2, 4));
        due(7, x.count(2));
        due(3, x.count(3));
        due(4, x.count(6));
        due(BAD, x.put(0, 6));
        FrameRaiser y = lockedPair();
        due(0, y.put(1, 5));
        for (int direction = 0; direction < 6; direction++) {
            due(STATE, y.put(0, direction));
        }
    }

    private static void takeOut() {
        begin(25);
        FrameRaiser x = of("001111;000111;002111");
        due(STATE, x.takeOut(0, 0));
        due(3, x.putAll());
        due(BAD, x.takeOut(3, 0));
        due(BAD, x.takeOut(-1, 0));
        due(BAD, x.takeOut(0, 6));
        due(BAD, x.takeOut(0, -1));
        due(BAD, x.takeOut(MOST, LEAST));
        due(STATE, x.takeOut(1, 4));
        due(STATE, x.takeOut(0, 4));
        due(STATE, x.takeOut(0, 5));
        due(2, x.count(6));
        due(1, x.takeOut(1, 5));
        due(5, x.count(2));
        due(4, x.count(3));
        due(3, x.count(6));
        due(STATE, x.takeOut(1, 5));
        due(1, x.takeOut(0, 5));
        due(0, x.takeOut(2, 5));
        due(0, x.count(2));
        due(6, x.count(3));
        due(3, x.count(0));
    }

    private static void putAll() {
        begin(26);
        FrameRaiser x = of(GATE);
        due(1, x.put(2, 0));
        due(2, x.putAll());
        due(7, x.count(2));
        due(3, x.count(3));
        due(3, x.count(6));
        due(0, x.putAll());
        due(3, x.count(3));
        due(4, x.count(6));
        due(3, x.undo());
        due(2, x.undo());
        due(4, x.count(2));
        due(1, x.count(3));
        FrameRaiser y = lockedPair();
        due(1, y.putAll());
        due(1, y.count(2));
        due(0, y.putAll());
        due(1, y.count(3));
        // In the order of the numbers the middle one comes too late.
        FrameRaiser z = of("520112+020112+250112+200112;220111+225111;221111;555111");
        due(3, z.putAll());
        due(11, z.count(2));
        due(1, z.takeOut(1, 4));
        due(1, z.putAll());
        due(11, z.count(2));
        due(5, z.count(3));
        due(0, fresh().putAll());
    }

    private static void ifShift() {
        begin(27);
        FrameRaiser x = of(TRAP_OPEN);
        x.put(0, 0);
        long before = x.digest();
        due(2, x.ifShift(1, 0));
        due(0, x.ifShift(1, 2));
        due(0, x.ifShift(0, 0));
        due(STATE, x.ifShift(0, 1));
        due(BAD, x.ifShift(2, 0));
        due(BAD, x.ifShift(-1, 0));
        due(BAD, x.ifShift(0, 6));
        due(BAD, x.ifShift(0, -1));
        due(BAD, x.ifShift(LEAST, MOST));
        due(before, x.digest());
        due(0, x.locked(3));
        due(1, x.shift(1, 0));
        due(3, x.locked(3));
        due(0, x.ifShift(1, 1));
        FrameRaiser y = of("000111;100111;500111");
        due(STATE, y.ifShift(0, 0));
        due(STATE, y.ifShift(0, 1));
        due(STATE, y.ifShift(2, 0));
        due(0, y.ifShift(2, 1));
        due(1, y.count(6));
        FrameRaiser z = lockedPair();
        due(2, z.addPiece(5, 5, 5, 1, 1, 1));
        due(2, z.ifShift(2, 1));
    }

    private static void undo() {
        begin(28);
        FrameRaiser x = fresh();
        due(STATE, x.undo());
        long[] before = new long[16];
        int[] answers = {0, 1, 2, 2, 1, 2, 1, 2, 0};
        for (int i = 0; i < answers.length; i++) {
            before[i] = stateOf(x);
            due(answers[i], changeNumber(x, i));
            due(Math.min(8, i + 1), x.count(6));
        }
        for (int i = answers.length - 1; i >= 1; i--) {
            due(i - 1, x.undo());
            due(before[i], stateOf(x));
            due(i - 1, x.count(6));
        }
        due(STATE, x.undo());
        due(before[1], stateOf(x));
        due(1, x.count(0));
        FrameRaiser y = of(GATE);
        due(0, y.undo());
        due(0, y.count(0));
        due(20, y.count(5));
        due(3, y.load());
        due(1, y.put(2, 0));
        due(0, y.put(0, 1));
        due(3, y.clear());
        due(3, y.undo());
        due(5, y.count(2));
        due(2, y.count(3));
        due(2, y.undo());
        due(4, y.count(2));
        due(1, y.count(3));
        due(0, y.put(1, 0));
        due(3, y.count(6));
    }

    /** Each kind of change once; the answers stand in undo(). */
    private static int changeNumber(FrameRaiser x, int i) {
        switch (i) {
            case 0: return x.addPiece(0, 0, 0, 1, 1, 1);
            case 1: return x.addPiece(2, 0, 0, 1, 1, 1);
            case 2: return x.extend(0, 0, 1, 0, 1, 1, 1);
            case 3: return x.putAll();
            case 4: return x.shift(1, 4);
            case 5: return x.takeOut(0, 1) + 1;
            case 6: return x.drop(0);
            case 7: return x.put(0, 0) == STATE ? x.clear() + 1 : 0;
            default: return x.load();
        }
    }

    /** What undo brings back, as one number, with few calls: an object is used for at most 512 of them. */
    private static long stateOf(FrameRaiser x) {
        long h = 7;
        int pieces = x.count(0);
        for (int piece = 0; piece < pieces; piece++) {
            for (int what = 0; what < 8; what++) {
                h = 31 * h + x.piece(piece, what);
            }
        }
        return 31 * (31 * (31 * h + x.count(2)) + x.count(3)) + x.count(4);
    }

    private static void count() {
        begin(29);
        FrameRaiser x = of(GATE);
        x.put(2, 0);
        x.put(0, 1);
        x.takeOut(0, 1);
        int[] want = {3, 9, 4, 3, 1, 20, 4};
        for (int what = 0; what < 7; what++) {
            due(want[what], x.count(what));
        }
        due(BAD, x.count(7));
        due(BAD, x.count(-1));
        due(BAD, x.count(LEAST));
        due(BAD, x.count(MOST));
        x.extend(2, 2, 0, 1, 1, 1, 2);
        due(10, x.count(1));
    }

    private static void digest() {
        begin(30);
        due(spelledDigest(fresh()), fresh().digest());
        for (String text : new String[] {GATE, CAGE, EIGHT, TRAP_OPEN, TRAP_SHUT, "000666", ""}) {
            FrameRaiser x = of(text);
            due(spelledDigest(x), x.digest());
            due(x.digest(), x.digest());
            x.putAll();
            due(spelledDigest(x), x.digest());
            x.takeOut(0, 4);
            due(spelledDigest(x), x.digest());
            x.drop(1);
            due(spelledDigest(x), x.digest());
            x.undo();
            due(spelledDigest(x), x.digest());
        }
        due(spelledDigest(lockedPair()), lockedPair().digest());
        due(4026331626815545625L, gateOfFour().digest());
    }

    /** The first run of ../shared/tests, whose digest is told there. */
    private static FrameRaiser gateOfFour() {
        FrameRaiser x = fresh();
        add(x, 0, 0, 0, 1, 1, 2);
        add(x, 4, 0, 0, 1, 1, 2);
        add(x, 0, 0, 2, 5, 1, 1);
        add(x, 2, 0, 0, 1, 1, 2);
        x.put(2, 4);
        x.put(0, 0);
        x.takeOut(2, 4);
        x.putAll();
        x.drop(2);
        x.undo();
        return x;
    }

    private static long spelledDigest(FrameRaiser x) {
        java.util.List<Integer> values = new java.util.ArrayList<>();
        for (int what = 0; what <= 6; what++) {
            values.add(x.count(what));
        }
        for (int piece = 0; piece < x.count(0); piece++) {
            for (int what = 0; what <= 9; what++) {
                values.add(x.piece(piece, what));
            }
            for (int direction = 0; direction <= 5; direction++) {
                values.add(x.blockers(piece, direction));
            }
        }
        for (int set : new int[] {(1 << x.count(0)) - 1, x.count(2)}) {
            values.add(x.orders(set));
            values.add(x.fewestProps(set));
            for (int k = 0; k <= 7; k++) {
                values.add(x.planned(set, k, false));
                values.add(x.planned(set, k, true));
            }
            values.add(x.locked(set));
            values.add(x.firstGroup(set, false));
            values.add(x.firstGroup(set, true));
            values.add(x.standing(set));
            values.add(x.hangsTogether(set));
        }
        long h = 12942;
        for (int value : values) {
            h = 31 * h + value;
        }
        return h;
    }
}
