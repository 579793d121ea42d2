/** The boundary cases of the text buffer and of reading it: promises 2 to 5. */
final class TextEdges {
    private static final int TERMS = Edges.TERMS;
    private static final int[] NO_CODES = {31, 127, 0, -1, 128, 255, 256 + 48, 65536 + 48, Edges.LEAST, Edges.MOST};

    private TextEdges() {
    }

    static void run() {
        type();
        clearText();
        load();
        faultKind();
        form();
        wrongSigns();
        wrongDigits();
        takenCells();
        ninthPiece();
        severalFaults();
    }

    private static String spaces(int many) {
        return " ".repeat(many);
    }

    /** The text stands in the buffer of an object that has pieces, a building and an older fault. */
    private static Edges.Scene busyWith(String text) {
        return x -> {
            Edges.busy(x);
            x.clearText();
            Edges.type(x, text);
        };
    }

    private static void reads(int pieces, String text) {
        Told x = Edges.after(busyWith(text));
        Edges.due(pieces, x.load(), x);
        Edges.due(0, x.faultKind(), x);
        Edges.due(pieces, x.count(0), x);
    }

    private static void faulty(int position, int kind, String text) {
        Told x = Edges.after(busyWith(text));
        Edges.due(-10 - position, x.load(), x);
        Edges.due(kind, x.faultKind(), x);
        Edges.changesOnlyFault(busyWith(text), Told::load);
    }

    private static void type() {
        Edges.sentence(2, "its code, 32 to 126");
        Told x = new Told();
        Edges.due(1, x.type(32), x);
        Edges.due(2, x.type(126), x);
        Edges.due(3, x.type(33), x);
        Edges.due(4, x.type(125), x);

        Edges.sentence(2, "BAD if code is out of range");
        for (int code : NO_CODES) {
            Edges.refuses(Edges.BAD, Edges::nothing, y -> y.type(code));
            Edges.refuses(Edges.BAD, Edges::busy, y -> y.type(code));
        }

        Edges.sentence(2, "Returns how many characters the text buffer has then");
        Told full = new Told();
        for (int i = 1; i <= 80; i++) {
            Edges.due(i, full.type(32 + i), full);
        }

        Edges.sentence(2, "FULL if it has 80");
        Edges.due(Edges.FULL, full.type(32), full);
        Edges.due(80, full.count(5), full);
        Edges.answers(80, Edges.text(spaces(79)), y -> y.type(32));
        for (int code : new int[] {32, 126, '0', ';'}) {
            Edges.refuses(Edges.FULL, Edges.text(Edges.EIGHT + spaces(25)), y -> y.type(code));
            Edges.refuses(Edges.FULL, busyWith(spaces(80)), y -> y.type(code));
        }
        Edges.due(80, full.clearText(), full);
        Edges.due(1, full.type(32), full);

        Edges.sentence(TERMS, "The text buffer has at most 80 characters with codes from 32 to 126.");
        Told kept = Edges.after(Edges.text("000111" + spaces(73) + "~"));
        Edges.due(80, kept.count(5), kept);
        Edges.due(Edges.FULL, kept.type(32), kept);
        Edges.due(Edges.BAD, kept.type(127), kept);
        Edges.due(-89, kept.load(), kept);

        Edges.sentence(2, "Appends a character to the text buffer.");
        Told order = Edges.after(Edges.text("0123"));
        Edges.due(5, order.type('4'), order);
        Edges.due(6, order.type('x'), order);
        Edges.due(-15, order.load(), order);
        Edges.due(0, order.count(6), order);
    }

    private static void clearText() {
        Edges.sentence(3, "Returns how many characters it had.");
        Edges.answers(0, Edges::nothing, Told::clearText);
        Edges.answers(1, Edges.text(" "), Told::clearText);
        Edges.answers(80, Edges.text(spaces(80)), Told::clearText);

        Edges.sentence(3, "Empties the text buffer.");
        Told x = Edges.after(Edges::busy);
        long before = Edges.stateOf(x);
        Edges.due(21, x.clearText(), x);
        Edges.due(0, x.clearText(), x);
        Edges.due(0, x.count(5), x);
        Edges.due(5, x.count(6), x);
        Edges.due(2, x.faultKind(), x);
        Edges.due(before, Edges.stateOf(x), x);
        Edges.due(0, x.load(), x);
        // Nothing of the old text comes back behind the new one.
        Told y = Edges.after(Edges.text("000111;200111"));
        y.clearText();
        Edges.type(y, "000111");
        Edges.due(1, y.load(), y);
    }

    private static void load() {
        Edges.sentence(4, "Reads the text buffer, which stays, as pieces, which replace all present ones; the building is as "
                + "initially. This is a change.");
        Told x = Edges.after(Edges::busy);
        long before = Edges.stateOf(x);
        Edges.due(3, x.load(), x);
        Edges.due(21, x.count(5), x);
        Edges.due(0, x.count(2), x);
        Edges.due(0, x.count(3), x);
        Edges.due(6, x.count(6), x);
        Edges.due(3, x.load(), x);
        Edges.due(7, x.count(6), x);
        Edges.due(6, x.undo(), x);
        Edges.due(5, x.undo(), x);
        Edges.due(before, Edges.stateOf(x), x);
        // None of the old pieces is in the way of a new one, nor stays behind it.
        Told y = Edges.after(busyWith("000666"));
        Edges.due(1, y.load(), y);
        Edges.due(216, y.count(1), y);
        Told z = Edges.after(busyWith("555111"));
        Edges.due(1, z.load(), z);
        Edges.due(Edges.NONE, z.pieceAt(0, 0, 0), z);
        Edges.due(1, z.count(1), z);

        Edges.sentence(4, "Returns the number of pieces");
        reads(0, "");
        reads(1, "000111");
        reads(8, Edges.EIGHT);
        reads(8, Edges.EIGHT + spaces(25));

        Edges.sentence(4, "-10 minus the position of the fault if there is one (then nothing but what faultKind() returns is "
                + "changed)");
        faulty(0, 1, "x");
        faulty(0, 2, "6");
        faulty(79, 1, spaces(79) + "x");
        faulty(80, 1, "000111;" + spaces(73));
        faulty(80, 1, spaces(79) + "0");
    }

    private static void faultKind() {
        Edges.sentence(5, "Returns 1 to 4");
        String[] texts = {"x", "6", "000111;000111", Edges.EIGHT + ";"};
        for (int kind = 1; kind <= 4; kind++) {
            Told x = Edges.after(Edges.text(texts[kind - 1]));
            x.load();
            Edges.due(kind, x.faultKind(), x);
            Edges.due(kind, x.faultKind(), x);
        }

        Edges.sentence(5, "0 if it found none, or there was no such call");
        Edges.answers(0, Edges::nothing, Told::faultKind);
        Edges.answers(0, Edges.text("x"), Told::faultKind);
        for (String text : texts) {
            Told x = Edges.after(Edges.text(text));
            x.load();
            x.clearText();
            Edges.due(0, x.load(), x);
            Edges.due(0, x.faultKind(), x);
        }

        Edges.sentence(5, "Returns the number of the fault that the latest call of load() found.");
        Told x = Edges.after(Edges.text("x"));
        x.load();
        x.clearText();
        Edges.type(x, "6");
        Edges.due(1, x.faultKind(), x);
        x.clear();
        x.addPiece(0, 0, 0, 1, 1, 1);
        x.putAll();
        x.drop(0);
        Edges.due(1, x.faultKind(), x);
        x.load();
        Edges.due(2, x.faultKind(), x);
    }

    private static void form() {
        Edges.sentence(TERMS, "It can be read as pieces that are separated by semicolons; a piece is 1 to 4 boxes that are "
                + "separated by plus signs; a box is six digits, directly one behind the other: x, y, z from 0 to 5 and "
                + "a, b, c from 1 to 6, as in 000611.");
        reads(1, "000611");
        reads(1, "000666");
        reads(1, "555111");
        reads(2, "000111;555111");
        reads(1, "000111+555111");
        Told four = Edges.after(busyWith("000111+200111+400111+020111;500111"));
        Edges.due(2, four.load(), four);
        Edges.due(4, four.piece(0, 1), four);
        Edges.due(1, four.piece(1, 1), four);
        Told all = Edges.after(busyWith("123311"));
        Edges.due(1, all.load(), all);
        Edges.due(0, all.pieceAt(1, 2, 3), all);
        Edges.due(0, all.pieceAt(3, 2, 3), all);
        Edges.due(Edges.NONE, all.pieceAt(4, 2, 3), all);
        all.clear();
        all.clearText();
        Edges.type(all, "012123");
        Edges.due(1, all.load(), all);
        int[] due = {6, 1, 0, 1, 2, 0, 2, 4, 0, 0};
        for (int what = 0; what < 10; what++) {
            Edges.due(due[what], all.piece(0, what), all);
        }
        for (int at = 1; at < 6; at++) {
            faulty(at, 1, "000111".substring(0, at) + " " + "000111".substring(at));
        }

        Edges.sentence(TERMS, "Any number of spaces can stand at the beginning, at the end, and before and behind semicolons "
                + "and plus signs.");
        reads(2, "000111+200111;400111");
        reads(1, " 000111");
        reads(1, spaces(74) + "000111");
        reads(1, "000111 ");
        reads(1, "000111" + spaces(74));
        reads(2, "000111 ;200111");
        reads(2, "000111; 200111");
        reads(1, "000111 +200111");
        reads(1, "000111+ 200111");
        reads(2, "000111" + spaces(33) + ";" + spaces(34) + "200111");
        reads(1, "000111" + spaces(34) + "+" + spaces(33) + "200111");

        Edges.sentence(TERMS, "A text without any other characters than spaces has no pieces.");
        reads(0, "");
        reads(0, " ");
        reads(0, spaces(80));
    }

    private static void wrongSigns() {
        Edges.sentence(TERMS, "1 a character that cannot stand at its place (its index");
        for (char sign : new char[] {'!', '/', ':', 'a', '~', ',', '-', '.'}) {
            faulty(0, 1, sign + "00111");
            faulty(3, 1, "000" + sign + "11");
            faulty(6, 1, "000111" + sign);
            faulty(7, 1, "000111;" + sign);
            faulty(7, 1, "000111 " + sign + "000111");
        }
        faulty(6, 1, "0001111");
        faulty(7, 1, "000111 000111");
        faulty(5, 1, "00011;");
        faulty(5, 1, "00011+");
        faulty(5, 1, "00011 ");

        Edges.sentence(TERMS, "also a fifth box's plus sign");
        String four = "000111+000111+000111+000111";
        reads(1, four);
        faulty(27, 1, four + "+000111");
        faulty(27, 1, four + "+");
        faulty(29, 1, four + "  + 000111");
        faulty(34, 1, "200111;" + four + "+000111");
        reads(2, four + ";200111+220111+240111+202111");
        faulty(55, 1, four + ";200111+220111+240111+202111+");

        Edges.sentence(TERMS, "a semicolon or a plus sign with no box before it or behind the sign before it");
        for (String sign : new String[] {";", "+"}) {
            faulty(0, 1, sign);
            faulty(0, 1, sign + "000111");
            faulty(2, 1, "  " + sign + "000111");
            for (String before : new String[] {";", "+"}) {
                faulty(7, 1, "000111" + before + sign);
                faulty(7, 1, "000111" + before + sign + "200111");
                faulty(9, 1, "000111" + before + "  " + sign + "200111");
            }
        }

        Edges.sentence(TERMS, "the end of the text where a box must begin or go on (the length of the text)");
        for (int digits = 1; digits < 6; digits++) {
            faulty(digits, 1, "000111".substring(0, digits));
            faulty(7 + digits, 1, "000111;" + "200111".substring(0, digits));
            faulty(7 + digits, 1, "000111+" + "200111".substring(0, digits));
        }
        for (String sign : new String[] {";", "+"}) {
            faulty(7, 1, "000111" + sign);
            faulty(10, 1, "000111" + sign + "   ");
            faulty(80, 1, spaces(73) + "000111" + sign);
        }
        faulty(80, 1, spaces(75) + "00011");
    }

    private static void wrongDigits() {
        Edges.sentence(TERMS, "2 a digit that is out of its range");
        for (int at = 0; at < 6; at++) {
            for (char digit : at < 3 ? new char[] {'6', '7', '8', '9'} : new char[] {'0', '7', '8', '9'}) {
                StringBuilder box = new StringBuilder("000111");
                box.setCharAt(at, digit);
                faulty(at, 2, box.toString());
                faulty(7 + at, 2, "555111;" + box);
                faulty(7 + at, 2, "555111+" + box);
            }
        }

        Edges.sentence(TERMS, "or makes the box leave space (its index; x, y, z before a, b, c)");
        for (int axis = 0; axis < 3; axis++) {
            for (int corner = 0; corner < 6; corner++) {
                StringBuilder box = new StringBuilder("000111");
                box.setCharAt(axis, (char) ('0' + corner));
                box.setCharAt(axis + 3, (char) ('0' + 6 - corner));
                reads(1, box.toString());
                box.setCharAt(axis + 3, (char) ('0' + 7 - corner));
                faulty(axis + 3, 2, box.toString());
            }
        }
        faulty(3, 2, "555666");
        faulty(4, 2, "555166");
        faulty(5, 2, "555116");
        faulty(2, 2, "556666");
    }

    private static void takenCells() {
        Edges.sentence(TERMS, "3 a box with a cell of another piece (the index of its last digit)");
        faulty(12, 3, "000111;000111");
        faulty(12, 3, "222111;000666");
        faulty(12, 3, "000222;111111");
        faulty(15, 3, "000222;   111511");
        faulty(79, 3, "000111;" + spaces(67) + "000111");
        faulty(19, 3, "000111;200111+000111");
        faulty(19, 3, "000111;200111;000111");
        faulty(19, 3, "000111+200111;200111");
        reads(2, "000111;100111");
        // A box of the same piece is no box of another one.
        reads(1, "000111+000111");
        reads(2, "000111;200111+200222");
        // Pieces that were there before are replaced, so they are in nobody's way.
        reads(1, "000112");
    }

    private static void ninthPiece() {
        Edges.sentence(TERMS, "4 a semicolon behind the eighth piece (its index, whatever follows it)");
        reads(8, Edges.EIGHT);
        for (String rest : new String[] {"", " ", "210111", "000111", "9", "x", ";", "+"}) {
            faulty(55, 4, Edges.EIGHT + ";" + rest);
        }
        faulty(58, 4, Edges.EIGHT + "   ;");
        faulty(79, 4, Edges.EIGHT + spaces(24) + ";");
        faulty(62, 4, Edges.EIGHT + "+120111;");
        reads(8, Edges.EIGHT + "+120111");
        reads(7, Edges.EIGHT.substring(0, 48));
        faulty(49, 1, Edges.EIGHT.substring(0, 49));
    }

    private static void severalFaults() {
        Edges.sentence(TERMS, "The text is read from left to right; its fault is the one with the smallest position");
        faulty(0, 2, "6x");
        faulty(1, 1, "0x6");
        faulty(0, 2, "666000");
        faulty(2, 2, "006011");
        faulty(3, 2, "000011x");
        faulty(12, 3, "000111;000111x");
        faulty(12, 3, "000111;000111;");
        faulty(7, 2, "000111;600111;000111");
        faulty(11, 2, "000111;000101");
        faulty(12, 1, "000111;00011");
        faulty(48, 1, Edges.EIGHT.substring(0, 48) + "x010111;210111;");
        faulty(54, 3, Edges.EIGHT.substring(0, 49) + "000111;");
        faulty(54, 2, Edges.EIGHT.substring(0, 49) + "110119;");
        faulty(55, 4, Edges.EIGHT + ";600111");

        Edges.sentence(TERMS, "and of those at the same position the one with the smallest number");
        // The last digit lets the box leave space, and the box would have a cell of another piece.
        faulty(12, 2, "005111;005112");
        faulty(12, 2, "004112;004113");
        // A sign that cannot stand here, and a semicolon behind the eighth piece.
        faulty(56, 1, Edges.EIGHT + "+;");
    }
}
