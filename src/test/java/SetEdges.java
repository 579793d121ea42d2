/** The boundary cases of ways, support and orders: promises 13 to 23. */
final class SetEdges {
    private static final int TERMS = Edges.TERMS;
    private static final int BAD = Edges.BAD, NONE = Edges.NONE;
    private static final int LEAST = Edges.LEAST, MOST = Edges.MOST;

    /** The middle cell 0 and its floor and lid 2 are held by the ring 1 around them, unless that comes last. */
    private static final String CAGE = "221111;520112+020112+250112+200112;220111+225111";

    /** Two pieces, each of which lies on the other one, above the ground. */
    private static final String CIRCLE = "001111+013111;002111+012111";

    private interface SetCall {
        long make(Told x, int set);
    }

    private SetEdges() {
    }

    static void run() {
        sets();
        blockers();
        ways();
        contact();
        hangsTogether();
        props();
        standing();
        orders();
        fewestProps();
        planned();
        locked();
        firstGroup();
    }

    // ---- sets

    private static void sets() {
        Edges.sentence(TERMS, "A set of pieces is told as a bit mask (bit i for piece i).");
        Told x = Edges.after(Edges::crowd);
        for (int i = 0; i < 8; i++) {
            Edges.due(1 << i, x.standing(1 << i), x);
        }
        Edges.due(255, x.standing(255), x);
        Edges.due(129, x.count(2), x);

        String noSet = "BAD if it is no set of pieces";
        onlySets(14, "BAD if there is no such piece, or set is no set of pieces", (y, set) -> y.ways(0, set), false);
        onlySets(16, noSet, Told::hangsTogether, true);
        onlySets(17, noSet, Told::props, true);
        onlySets(18, noSet, Told::standing, true);
        onlySets(19, noSet, Told::orders, true);
        onlySets(20, noSet, Told::fewestProps, true);
        onlySets(21, "BAD if it is no set of pieces, or k is negative", (y, set) -> y.planned(set, 0, false), true);
        onlySets(21, "BAD if it is no set of pieces, or k is negative", (y, set) -> y.planned(set, 0, true), true);
        onlySets(22, noSet, Told::locked, true);
        onlySets(23, noSet, (y, set) -> y.firstGroup(set, false), true);
        onlySets(23, noSet, (y, set) -> y.firstGroup(set, true), true);
    }

    /** The call refuses what is no set, of no, three and eight pieces, and takes each set of them. */
    private static void onlySets(int promise, String quote, SetCall call, boolean withoutPieces) {
        Edges.sentence(promise, quote);
        Edges.Scene[] scenes = {Edges::nothing, Edges::busy, Edges::crowd};
        int[] pieces = {0, 3, 8};
        for (int i = withoutPieces ? 0 : 1; i < 3; i++) {
            for (int set : Edges.noSets(pieces[i])) {
                Edges.refuses(BAD, scenes[i], x -> call.make(x, set));
            }
            Told x = Edges.after(scenes[i]);
            for (int set = 0; set < 1 << pieces[i]; set++) {
                long answer = call.make(x, set);
                if (answer == BAD) {
                    Edges.fail(x.latest() + " answered BAD for a set of " + pieces[i] + " pieces");
                }
            }
        }
        Edges.changesNothing(Edges::busy, x -> call.make(x, 7));
        Edges.changesNothing(Edges::busy, x -> call.make(x, 0));
    }

    /** A call with a piece refuses what is no piece. */
    private static void onlyPieces(Edges.Scene scene, int many, SetCall call) {
        for (int piece : Edges.noPieces(many)) {
            Edges.refuses(BAD, scene, x -> call.make(x, piece));
        }
    }

    // ---- ways

    private static void blockers() {
        Edges.sentence(13, "BAD if there is no such piece or direction");
        onlyPieces(Edges::nothing, 0, (x, piece) -> x.blockers(piece, 0));
        onlyPieces(Edges::busy, 3, (x, piece) -> x.blockers(piece, 5));
        onlyPieces(Edges::crowd, 8, (x, piece) -> x.blockers(piece, 0));
        for (int direction : Edges.NO_DIRECTIONS) {
            for (int i = 0; i < 3; i++) {
                int piece = i;
                Edges.refuses(BAD, Edges::busy, x -> x.blockers(piece, direction));
            }
            Edges.refuses(BAD, Edges::crowd, x -> x.blockers(7, direction));
        }

        Edges.sentence(13, "the direction, 0 to 5");
        Told star = Edges.of(Edges.STAR);
        for (int direction = 0; direction < 6; direction++) {
            Edges.due(2 << direction, star.blockers(0, direction), star);
            Edges.due(0, star.blockers(direction + 1, direction), star);
            int opposite = direction ^ 1;
            Edges.due(1 | 2 << opposite, star.blockers(direction + 1, opposite), star);
        }

        Edges.sentence(13, "Returns the set of the other pieces that block it in this direction");
        // Its own cells, before it and behind it, do not count.
        Edges.answers(0, Edges.pieces("000111+300111"), x -> x.blockers(0, 0));
        Edges.answers(0, Edges.pieces("000666"), x -> x.blockers(0, 0));
        Edges.answers(2, Edges.pieces("000111+500111;200111"), x -> x.blockers(0, 0));
        Edges.answers(2, Edges.pieces("000111+500111;200111"), x -> x.blockers(0, 1));
        Told row = Edges.of("000111;100111;200111;300111;400111;500111");
        Edges.due(62, row.blockers(0, 0), row);
        Edges.due(0, row.blockers(0, 1), row);
        Edges.due(31, row.blockers(5, 1), row);
        Edges.due(0, row.blockers(5, 0), row);
        Edges.changesNothing(Edges::busy, x -> x.blockers(2, 5));

        Edges.sentence(TERMS, "A piece i blocks a piece k in a direction if from some cell of k one comes to some cell of i by going "
                + "on in this direction.");
        // From one end of space to the other one, through other pieces, and from one cell of several.
        Edges.answers(2, Edges.pieces("000111;500111"), x -> x.blockers(0, 0));
        Edges.answers(1, Edges.pieces("005111;000111"), x -> x.blockers(1, 4));
        Edges.answers(6, Edges.pieces("000111;200111;400111"), x -> x.blockers(0, 0));
        Edges.answers(2, Edges.pieces("000111+333111;353111"), x -> x.blockers(0, 2));
        // Beside the line is not on it, and a line ends with space.
        Edges.answers(0, Edges.pieces("000111;510111"), x -> x.blockers(0, 0));
        Edges.answers(0, Edges.pieces("500111;010111"), x -> x.blockers(0, 0));
        Edges.answers(0, Edges.pieces("050111;001111"), x -> x.blockers(0, 2));
        Edges.answers(0, Edges.pieces("550111;001111"), x -> x.blockers(0, 0));
    }

    private static void ways() {
        Edges.sentence(14, "BAD if there is no such piece, or set is no set of pieces");
        onlyPieces(Edges::nothing, 0, (x, piece) -> x.ways(piece, 0));
        onlyPieces(Edges::busy, 3, (x, piece) -> x.ways(piece, 7));
        onlyPieces(Edges::crowd, 8, (x, piece) -> x.ways(piece, 255));
        for (int set : Edges.noSets(3)) {
            Edges.refuses(BAD, Edges::busy, x -> x.ways(3, set));
        }

        Edges.sentence(14, "the set of pieces among which it is looked at (the piece itself does not matter)");
        Told star = Edges.of(Edges.STAR);
        for (int set = 0; set < 128; set++) {
            Edges.due(63 & ~(set >> 1), star.ways(0, set), star);
        }
        Edges.answers(63, Edges.pieces("000111+200111"), x -> x.ways(0, 1));
        Edges.answers(63, Edges.pieces("000111+200111"), x -> x.ways(0, 0));

        Edges.sentence(14, "Returns the set of the directions, as a bit mask (bit d for direction d)");
        Edges.due(0, star.ways(0, 127), star);
        Edges.due(63, star.ways(0, 0), star);
        for (int direction = 0; direction < 6; direction++) {
            Edges.due(1 << direction, star.ways(0, 127 & ~(2 << direction)), star);
        }

        Edges.sentence(TERMS, "A piece k is free in a direction among a set of pieces if no piece of the set other than k blocks it in "
                + "this direction.");
        Told row = Edges.of("000111;200111;400111");
        Edges.due(62, row.ways(0, 7), row);
        Edges.due(62, row.ways(0, 4), row);
        Edges.due(62, row.ways(0, 2), row);
        Edges.due(63, row.ways(0, 1), row);
        Edges.due(63, row.ways(0, 0), row);
        Edges.due(60, row.ways(1, 5), row);
    }

    private static void contact() {
        Edges.sentence(15, "BAD if there is no such piece, or both are the same");
        onlyPieces(Edges::nothing, 0, (x, piece) -> x.contact(piece, 0));
        onlyPieces(Edges::busy, 3, (x, piece) -> x.contact(piece, 0));
        onlyPieces(Edges::busy, 3, (x, piece) -> x.contact(0, piece));
        onlyPieces(Edges::crowd, 8, (x, piece) -> x.contact(piece, 7));
        onlyPieces(Edges::crowd, 8, (x, piece) -> x.contact(7, piece));
        onlyPieces(Edges::busy, 3, (x, piece) -> x.contact(piece, piece));
        for (int i = 0; i < 8; i++) {
            int piece = i;
            Edges.refuses(BAD, Edges::crowd, x -> x.contact(piece, piece));
        }

        Edges.sentence(15, "Returns the contact");
        Edges.answers(0, Edges.pieces("000111;555111"), x -> x.contact(0, 1));
        Edges.answers(36, Edges.pieces("000366;300366"), x -> x.contact(0, 1));
        Edges.answers(36, Edges.pieces("000366;300366"), x -> x.contact(1, 0));
        Edges.answers(12, Edges.pieces(Edges.LOCK), x -> x.contact(0, 1));
        Edges.changesNothing(Edges::busy, x -> x.contact(0, 2));

        Edges.sentence(TERMS, "Two pieces touch if a cell of one of them and a cell of the other one are neighbors (one step in some "
                + "direction away from each other); their contact is the number of such pairs of cells.");
        for (String other : new String[] {"322111", "122111", "232111", "212111", "223111", "221111"}) {
            Told x = Edges.of("222111;" + other);
            Edges.due(1, x.contact(0, 1), x);
            Edges.due(1, x.contact(1, 0), x);
            Edges.due(1, x.hangsTogether(3), x);
        }
        // Two steps away, across an edge or a corner, or at the other end of a row they are no neighbors.
        for (String other : new String[] {"422111", "332111", "323111", "233111", "333111", "112111", "022111"}) {
            Told x = Edges.of("222111;" + other);
            Edges.due(0, x.contact(0, 1), x);
            Edges.due(0, x.hangsTogether(3), x);
        }
        for (String ends : new String[] {"500111;010111", "050111;001111", "550111;001111", "000111;500111", "000111;005111"}) {
            Told x = Edges.of(ends);
            Edges.due(0, x.contact(0, 1), x);
            Edges.due(0, x.hangsTogether(3), x);
        }
        // A cell counts once for each neighbor; cells that two boxes have in common count once.
        Edges.answers(2, Edges.pieces("000111+200111;100111"), x -> x.contact(0, 1));
        Edges.answers(1, Edges.pieces("000111+000111;100111+100211"), x -> x.contact(0, 1));
    }

    private static void hangsTogether() {
        Edges.sentence(TERMS, "(The empty set does, too.)");
        Edges.answers(1, Edges::nothing, x -> x.hangsTogether(0));
        Edges.answers(1, Edges::crowd, x -> x.hangsTogether(0));

        Edges.sentence(TERMS, "A set of pieces hangs together if one can get from each of its pieces to each other one by pieces of the "
                + "set that touch.");
        Told alone = Edges.of("000111+555111;200111;400111");
        for (int i = 0; i < 3; i++) {
            Edges.due(1, alone.hangsTogether(1 << i), alone);
        }
        Edges.due(0, alone.hangsTogether(7), alone);
        // A chain of eight whose numbers go to and fro; a piece that is not of the set is no way.
        Told chain = Edges.of("100111;500111;300111;000111;510111;400111;200111;520111");
        Edges.due(1, chain.hangsTogether(255), chain);
        for (int i : new int[] {0, 1, 2, 4, 5, 6}) {
            Edges.due(0, chain.hangsTogether(255 & ~(1 << i)), chain);
        }
        Edges.due(1, chain.hangsTogether(255 & ~8), chain);
        Edges.due(1, chain.hangsTogether(127), chain);
        // Cells of one piece need not touch: it joins what is at each of them.
        Edges.answers(1, Edges.pieces("000111+400111;100111;300111"), x -> x.hangsTogether(7));

        Edges.sentence(16, "Returns 1 if it does, else 0");
        Edges.answers(1, Edges::busy, x -> x.hangsTogether(7));
        Edges.answers(0, Edges::busy, x -> x.hangsTogether(3));
    }

    // ---- support

    private static void props() {
        Edges.sentence(TERMS, "In a set of pieces, a piece of the set is supported if one of its cells lies on the ground, or directly "
                + "above a cell of another piece of the set.");
        Edges.answers(0, Edges.pieces("000111"), x -> x.props(1));
        Edges.answers(1, Edges.pieces("001111"), x -> x.props(1));
        Edges.answers(0, Edges.pieces("001665+000111"), x -> x.props(1));
        Edges.answers(0, Edges.pieces("000111;001611"), x -> x.props(3));
        // Not its own cell, not a piece outside of the set, nothing with a gap between, beside or above.
        Edges.answers(1, Edges.pieces("001112+003111"), x -> x.props(1));
        Edges.answers(1, Edges.pieces("000111;001111"), x -> x.props(2));
        Edges.answers(1, Edges.pieces("000111;002111"), x -> x.props(3));
        Edges.answers(1, Edges.pieces("000112;101111"), x -> x.props(3));
        Edges.answers(1, Edges.pieces("003111;002111"), x -> x.props(3));
        Edges.answers(1, Edges.pieces("000111;005111"), x -> x.props(3));
        // A piece that needs a prop itself still carries others.
        Edges.answers(1, Edges.pieces("001111;002111;003111"), x -> x.props(7));
        Edges.answers(0, Edges.pieces(CIRCLE), x -> x.props(3));

        Edges.sentence(TERMS, "Each piece of the set that is not supported needs a prop.");
        Told x = Edges.of("001111;021111;041111;201111;221111;241111;401111;421111");
        Edges.due(8, x.props(255), x);
        for (int set = 0; set < 256; set++) {
            Edges.due(Integer.bitCount(set), x.props(set), x);
        }

        Edges.sentence(17, "Returns the number");
        Edges.answers(0, Edges::nothing, y -> y.props(0));
        Edges.answers(0, Edges::busy, y -> y.props(0));
        Edges.answers(0, Edges::busy, y -> y.props(7));
        Edges.answers(1, Edges::busy, y -> y.props(4));
    }

    private static void standing() {
        Edges.sentence(TERMS, "A piece of the set stands if one of its cells lies on the ground, or directly above a cell of another "
                + "piece of the set that stands (and only what follows from this stands).");
        // What carries comes behind what is carried, by number.
        Told tower = Edges.of("005111;004111;003111;002111;001111;000111");
        Edges.due(63, tower.standing(63), tower);
        for (int gone = 0; gone < 6; gone++) {
            int above = (1 << gone) - 1;
            Edges.due(63 & ~above & ~(1 << gone), tower.standing(63 & ~(1 << gone)), tower);
        }
        Edges.answers(0, Edges.pieces(CIRCLE), x -> x.standing(3));
        Edges.answers(7, Edges.pieces(CIRCLE + ";000111"), x -> x.standing(7));
        Edges.answers(0, Edges.pieces("001112+003111"), x -> x.standing(1));
        Edges.answers(1, Edges.pieces("000111;002111"), x -> x.standing(3));
        Edges.answers(1, Edges.pieces("000111;101111"), x -> x.standing(3));
        Edges.answers(1, Edges.pieces("000112;101111"), x -> x.standing(3));

        Edges.sentence(18, "Returns the set of those that stand");
        Edges.answers(0, Edges::nothing, x -> x.standing(0));
        Edges.answers(0, Edges::crowd, x -> x.standing(0));
        Edges.answers(255, Edges::crowd, x -> x.standing(255));
        Edges.answers(0, Edges::busy, x -> x.standing(4));
    }

    // ---- orders

    private static void orders() {
        Edges.sentence(19, "Returns the number (1 for the empty set)");
        Edges.answers(1, Edges::nothing, x -> x.orders(0));
        Edges.answers(1, Edges::crowd, x -> x.orders(0));
        Edges.answers(1, Edges::crowd, x -> x.orders(128));
        Edges.answers(40320, Edges::crowd, x -> x.orders(255));
        Edges.answers(0, Edges.pieces(Edges.LOCK), x -> x.orders(3));
        Edges.answers(1, Edges.pieces(Edges.LOCK), x -> x.orders(2));

        Edges.sentence(TERMS, "The pieces of a set can be put up in an order if each of them, when it comes, is free in some direction "
                + "among those that came before it.");
        // The middle cannot come last; without one of the others it can.
        Told star = Edges.of(Edges.STAR);
        Edges.due(5040 - 720, star.orders(127), star);
        for (int gone = 1; gone < 7; gone++) {
            Edges.due(720, star.orders(127 & ~(1 << gone)), star);
        }
        Edges.answers(2, Edges.pieces(CAGE), x -> x.orders(7));
        // Only the order of the first two is free.
        Edges.answers(2, Edges::chain, x -> x.orders(255));
        // Locked pieces in the set leave no order, whatever else is in it.
        Edges.answers(0, Edges.pieces(Edges.LOCK + ";555111"), x -> x.orders(7));
        Edges.answers(2, Edges.pieces(Edges.LOCK + ";555111"), x -> x.orders(5));
    }

    private static void fewestProps() {
        Edges.sentence(TERMS, "The props of an order are the greatest number of props that are needed at the same time, looking at the "
                + "pieces that are there after each piece that comes.");
        // None is needed in the end, but one on the way, in each order.
        Edges.answers(0, Edges.pieces(CIRCLE), x -> x.props(3));
        Edges.answers(1, Edges.pieces(CIRCLE), x -> x.fewestProps(3));
        Edges.answers(0, Edges.pieces("002111;001111;000111"), x -> x.fewestProps(7));
        Edges.answers(1, Edges.pieces("002111;001111"), x -> x.fewestProps(3));

        Edges.sentence(20, "Returns the number");
        Edges.answers(0, Edges::nothing, x -> x.fewestProps(0));
        Edges.answers(0, Edges::crowd, x -> x.fewestProps(0));
        Edges.answers(0, Edges::crowd, x -> x.fewestProps(255));
        Edges.answers(8, Edges.pieces("001111;021111;041111;201111;221111;241111;401111;421111"), x -> x.fewestProps(255));

        Edges.sentence(20, "NONE if the pieces of the set cannot be put up");
        Edges.answers(NONE, Edges.pieces(Edges.LOCK), x -> x.fewestProps(3));
        Edges.answers(NONE, Edges.pieces(Edges.LOCK + ";555111"), x -> x.fewestProps(7));
        Edges.answers(0, Edges.pieces(Edges.LOCK), x -> x.fewestProps(1));
        Edges.answers(0, Edges.pieces(Edges.LOCK), x -> x.fewestProps(0));
        Edges.changesNothing(Edges.pieces(Edges.LOCK), x -> x.fewestProps(3));
    }

    private static void plan(Edges.Scene scene, int set, String pieces, String ways) {
        Told x = Edges.after(scene);
        for (int k = 0; k < pieces.length(); k++) {
            Edges.due(pieces.charAt(k) - '0', x.planned(set, k, false), x);
            Edges.due(ways.charAt(k) - '0', x.planned(set, k, true), x);
        }
        for (int k : new int[] {pieces.length(), 8, 9, 256, MOST}) {
            Edges.due(NONE, x.planned(set, k, false), x);
            Edges.due(NONE, x.planned(set, k, true), x);
        }
    }

    private static void planned() {
        Edges.sentence(TERMS, "The plan of a set is, of all orders in which its pieces can be put up and that have the fewest props, the "
                + "lexicographically smallest one (compared piece by piece, by their numbers).");
        plan(Edges::crowd, 255, "01234567", "00000000");
        plan(Edges.pieces("002111;001111;000111"), 7, "210", "000");
        plan(Edges.pieces(CIRCLE), 3, "01", "00");
        plan(Edges.pieces(CAGE), 7, "201", "004");
        // One prop is needed in the end, so one may be needed before; two may not.
        plan(Edges.pieces("001111;000111;555111"), 7, "012", "000");
        plan(Edges.pieces("555111;001111;000111"), 7, "021", "000");
        plan(Edges.pieces("005111;001111;333111;000111"), 7, "012", "000");
        plan(Edges.pieces("005111;001111;333111;000111"), 15, "0132", "0000");

        Edges.sentence(21, "the index of the step, 0 or more");
        Edges.answers(0, Edges::busy, x -> x.planned(7, 0, false));
        Edges.answers(2, Edges::busy, x -> x.planned(7, 2, false));
        Edges.answers(7, Edges::crowd, x -> x.planned(255, 7, false));

        Edges.sentence(21, "whether the smallest direction is asked for in which the piece is free among those before it, or else the "
                + "piece");
        // Only those before it count.
        plan(Edges.pieces(Edges.STAR), 127, "0123456", "0010000");
        plan(Edges.pieces("000111;100111;200111"), 7, "012", "000");
        plan(Edges.pieces("200111;100111;000111"), 7, "012", "011");

        Edges.sentence(21, "Returns the piece or the direction");
        Told turns = Edges.of("002111;001111;000111");
        for (int i = 0; i < 2; i++) {
            // The plan of another set in between is not mistaken for this one.
            Edges.due(2, turns.planned(7, 0, false), turns);
            Edges.due(0, turns.planned(3, 0, false), turns);
            Edges.due(0, turns.planned(7, 2, false), turns);
            Edges.due(NONE, turns.planned(3, 2, false), turns);
        }
        // Nor is the plan of the pieces as they were.
        turns.drop(2);
        Edges.due(0, turns.planned(3, 0, false), turns);
        turns.shift(1, 5);
        turns.shift(0, 5);
        Edges.due(1, turns.planned(3, 0, false), turns);
        turns.undo();
        Edges.due(0, turns.planned(3, 0, false), turns);

        Edges.sentence(21, "NONE if the pieces of the set cannot be put up, or there are not so many");
        plan(Edges.pieces(Edges.LOCK), 3, "", "");
        plan(Edges::nothing, 0, "", "");
        plan(Edges::crowd, 0, "", "");
        plan(Edges::crowd, 128, "7", "0");
        plan(Edges::busy, 6, "12", "00");
        Edges.changesNothing(Edges::busy, x -> x.planned(7, 3, false));
        Edges.changesNothing(Edges.pieces(Edges.LOCK), x -> x.planned(3, 0, true));

        Edges.sentence(21, "BAD if it is no set of pieces, or k is negative");
        for (int k : new int[] {-1, -2, -9, -256, LEAST}) {
            for (boolean direction : new boolean[] {false, true}) {
                Edges.refuses(BAD, Edges::nothing, x -> x.planned(0, k, direction));
                Edges.refuses(BAD, Edges::busy, x -> x.planned(7, k, direction));
                Edges.refuses(BAD, Edges.pieces(Edges.LOCK), x -> x.planned(3, k, direction));
                Edges.refuses(BAD, Edges::busy, x -> x.planned(8, k, direction));
            }
        }
        Edges.refuses(BAD, Edges::busy, x -> x.planned(8, 9, false));
        Edges.refuses(BAD, Edges::busy, x -> x.planned(-1, MOST, true));
    }

    private static void locked() {
        Edges.sentence(TERMS, "A piece can be taken out of a set if it is free in some direction among the set.");
        Told star = Edges.of(Edges.STAR);
        Edges.due(0, star.ways(0, 127), star);
        Edges.due(0, star.locked(127), star);
        Edges.answers(3, Edges.pieces(Edges.LOCK), x -> x.locked(3));

        Edges.sentence(TERMS, "The locked pieces of a set are those that are left when, as long as there is one, a piece that can be "
                + "taken out is taken out.");
        Edges.answers(0, Edges.pieces(CAGE), x -> x.locked(7));
        Told chain = Edges.after(Edges::chain);
        for (int last = 7; last >= 2; last--) {
            for (int piece = 0; piece < last; piece++) {
                Edges.due(0, chain.ways(piece, (2 << last) - 1), chain);
            }
        }
        Edges.due(0, chain.locked(255), chain);
        Edges.answers(3, Edges.pieces(Edges.LOCK + ";002222;555111"), x -> x.locked(15));
        Edges.answers(12, Edges.pieces("555111;005111;" + Edges.LOCK), x -> x.locked(15));

        Edges.sentence(TERMS, "(Which one is taken out first does not matter.)");
        // The same pieces with other numbers.
        Edges.answers(0, x -> Edges.chain(x, true), x -> x.locked(255));
        Edges.answers(0, x -> Edges.chain(x, false), x -> x.locked(255));
        Edges.answers(6, Edges.pieces("555111;" + Edges.LOCK + ";002222"), x -> x.locked(15));

        Edges.sentence(22, "Returns the set of these pieces");
        Edges.answers(0, Edges::nothing, x -> x.locked(0));
        Edges.answers(0, Edges::crowd, x -> x.locked(255));
        Edges.answers(0, Edges.pieces(Edges.LOCK), x -> x.locked(0));
        Edges.answers(0, Edges.pieces(Edges.LOCK), x -> x.locked(1));
        Edges.answers(0, Edges.pieces(Edges.LOCK), x -> x.locked(2));
    }

    private static void group(Edges.Scene scene, int set, int group, int way) {
        Edges.answers(group, scene, x -> x.firstGroup(set, false));
        Edges.answers(way, scene, x -> x.firstGroup(set, true));
    }

    /** Two locked pairs beside each other along x: the pieces 0 and 2, and the pieces 1 and 3. */
    private static void pairs(Told x, int first) {
        int second = 2 - first;
        Edges.scatter(x, "000110101011", first, 0, 0);
        Edges.scatter(x, "000110101011", second, 0, 0);
        Edges.scatter(x, "100010001111", first, 0, 0);
        Edges.scatter(x, "100010001111", second, 0, 0);
    }

    /** Four pieces without a group, and four more above them, with even and odd numbers. */
    private static void fours(Told x) {
        for (String cells : new String[] {"001110210300", "010111311100", "200310201101", "211011301000"}) {
            Edges.scatter(x, cells, 0, 0, 0);
            Edges.scatter(x, cells, 0, 0, 3);
        }
    }

    private static void firstGroup() {
        Edges.sentence(TERMS, "A group of a set is a subset of it, neither empty nor the whole set, all of whose pieces are free in one "
                + "common direction among the pieces of the set that do not belong to it.");
        group(Edges::nothing, 0, NONE, NONE);
        group(Edges::crowd, 0, NONE, NONE);
        for (int i = 0; i < 8; i++) {
            group(Edges::crowd, 1 << i, NONE, NONE);
        }
        group(Edges.pieces("000111;555111"), 3, 1, 0);
        // Each piece of a pair is free from the other pair, but only both of them together come out.
        group(x -> pairs(x, 0), 15, 5, 1);
        group(x -> pairs(x, 2), 15, 5, 0);
        group(x -> pairs(x, 0), 5, NONE, NONE);
        group(x -> pairs(x, 0), 10, NONE, NONE);

        Edges.sentence(TERMS, "The first group of a set is the one with the fewest pieces; of several the one with the smallest bit mask; "
                + "its direction is the smallest one in which it is free.");
        Edges.Scene withCell = x -> {
            pairs(x, 0);
            x.addPiece(0, 5, 5, 1, 1, 1);
        };
        group(withCell, 31, 16, 0);
        group(withCell, 15, 5, 1);
        group(Edges.pieces(Edges.STAR), 127, 2, 0);
        group(Edges.pieces(Edges.STAR), 126, 2, 0);
        for (int direction = 0; direction < 6; direction++) {
            group(Edges.pieces(Edges.STAR), 127 & ~(2 << direction), 1, direction);
        }
        group(Edges::crowd, 255, 1, 1);
        group(Edges::crowd, 192, 64, 1);
        group(Edges::crowd, 129, 1, 0);
        // No first group can be greater than half of the set, for the other half would come out as well.
        group(SetEdges::fours, 255, 85, 0);
        group(SetEdges::fours, 85, NONE, NONE);
        group(SetEdges::fours, 170, NONE, NONE);
        group(Edges::chain, 255, 128, 2);

        Edges.sentence(23, "whether its direction is asked for, or else the group");
        group(Edges.pieces("100111;000111"), 3, 1, 0);
        group(Edges.pieces("000111;100111"), 3, 1, 1);

        Edges.sentence(23, "Returns the direction, or the group as a set");
        group(Edges::busy, 7, 1, 1);
        group(Edges::busy, 6, 2, 0);

        Edges.sentence(23, "NONE if there is no group");
        group(Edges.pieces(Edges.LOCK), 3, NONE, NONE);
        group(Edges.pieces(Edges.LOCK), 1, NONE, NONE);
        group(Edges.pieces(Edges.LOCK), 0, NONE, NONE);
        Edges.changesNothing(Edges.pieces(Edges.LOCK), x -> x.firstGroup(3, true));
    }
}
