import java.util.ArrayList;
import java.util.Arrays;
import java.util.List;
import java.util.Map;
import java.util.TreeMap;

/** Long runs of calls, each answered by FrameRaiser and by the Model; the same runs every time. */
public final class ModelTest {
    private static final int CALLS = 512;
    private static final int[] EDGES = {-1, 8, 6, 256, 1 << 30, Integer.MIN_VALUE, Integer.MAX_VALUE, -2, 255};

    private static long seed;
    private static int wrong = 0;
    private static final Map<String, Map<String, Integer>> seen = new TreeMap<>();

    public static void main(String[] args) {
        int runs = args.length > 0 ? Integer.parseInt(args[0]) : 120;
        for (int run = 0; run < runs && wrong < 10; run++) {
            seed = 7919L * run + 12345;
            new Run(run).go();
        }
        if (args.length > 1) {
            seen.forEach((call, kinds) -> System.out.println(call + " " + kinds));
        }
        mustHaveSeen();
        if (wrong != 0) {
            System.exit(1);
        }
    }

    /** Runs that never come to what a promise speaks of would prove nothing. */
    private static void mustHaveSeen() {
        String[] due = {
            "load -", "load +", "faultKind 1", "faultKind 2", "faultKind 3", "faultKind 4", "type -3", "addPiece -2",
            "addPiece -3", "extend -2", "extend -3", "shift -2", "shift 1", "pieceAt -9", "orders 0", "fewestProps -9",
            "fewestProps +", "planned -9", "locked +", "firstGroup -9",
            "group of 1", "group of 2", "group of 3", "put -2", "takeOut -2", "takeOut +",
            "putAll +", "ifShift -2", "ifShift +", "undo -2", "undo +"};
        for (String pair : due) {
            String[] parts = pair.split(" (?=[^ ]*$)");
            if (!seen.getOrDefault(parts[0], Map.of()).containsKey(parts[1])) {
                wrong++;
                System.out.println("no run came to " + pair);
            }
        }
    }

    private static void note(String call, long answer) {
        String kind = answer >= -9 && answer <= 0 || call.equals("faultKind") || call.equals("shift")
                ? Long.toString(answer) : answer > 0 ? "+" : "-";
        seen.computeIfAbsent(call, c -> new TreeMap<>()).merge(kind, 1, Integer::sum);
    }

    private static int pick(int bound) {
        seed = seed * 6364136223846793005L + 1442695040888963407L;
        return (int) ((seed >>> 33) % bound);
    }

    private static final class Run {
        private final int number;
        private final FrameRaiser real = new FrameRaiser();
        private final Model model = new Model();
        private final List<String> calls = new ArrayList<>();
        private final boolean crowded;
        private final boolean writing;
        private final boolean jammed;

        Run(int number) {
            this.number = number;
            crowded = number % 4 == 1;
            writing = number % 4 == 2;
            jammed = number % 4 == 3;
        }

        void go() {
            while (calls.size() < CALLS && wrong < 10) {
                int choice = pick(100);
                if (jammed && choice < 4) {
                    jam();
                } else if (writing && choice < 40) {
                    writeText();
                } else {
                    call(choice);
                }
            }
        }

        private void same(String name, long got, long due, Object... args) {
            String text = name + Arrays.toString(args);
            calls.add(text + " = " + got);
            note(name, due);
            if (got != due) {
                wrong++;
                System.out.println("run " + number + ", call " + calls.size() + ": " + text + " answered " + got
                        + ", due is " + due);
            }
        }

        private int edgeOr(int usual) {
            return pick(40) == 0 ? EDGES[pick(EDGES.length)] : usual;
        }

        private int somePiece() {
            return edgeOr(pick(Math.max(1, model.count(0))));
        }

        private int someDirection() {
            return edgeOr(pick(6));
        }

        private int someSet() {
            int all = (1 << model.count(0)) - 1;
            return edgeOr(pick(3) == 0 ? all : pick(all + 1));
        }

        private int[] someBox() {
            int[] box = new int[6];
            boolean small = crowded || pick(4) > 0;
            for (int i = 0; i < 3; i++) {
                box[i] = crowded ? pick(4) : pick(6);
                int room = 6 - box[i];
                box[i + 3] = 1 + pick(small ? Math.min(room, pick(3) == 0 ? 3 : 1) : room);
            }
            if (pick(20) == 0) {
                box[pick(6)] = pick(3) == 0 ? EDGES[pick(EDGES.length)] : pick(9) - 1;
            }
            return box;
        }

        /** Pieces of scattered cells, so close together that many of them are locked. */
        private void jam() {
            same("clear", real.clear(), model.clear());
            List<int[]> pieces = new ArrayList<>();
            switch (pick(4)) {
                case 0 -> deal(pieces, 3 + pick(4), 0, 3, 3, 3);
                case 1 -> deal(pieces, 8, 0, 4, 4, 4);
                case 2 -> {
                    for (int corner : shuffled(27).subList(0, 2 + pick(3))) {
                        deal(pieces, 2, 2 * (corner % 3 + 6 * (corner / 3 % 3) + 36 * (corner / 9)), 2, 2, 2);
                    }
                }
                default -> {
                    deal(pieces, 3, 0, 3, 2, 2);
                    deal(pieces, 3, pick(2) == 0 ? 3 : 36 * (2 + pick(3)), 3, 2, 2);
                    deal(pieces, pick(3), 12, 6, 2, 2);
                }
            }
            for (int i : shuffled(pieces.size())) {
                build(pieces.get(i));
            }
            for (int i = 0; i < 12; i++) {
                ask(50 + pick(50));
            }
        }

        /** Deals four cells each of a region to some pieces; two in a cube of eight get them as on a chess board. */
        private void deal(List<int[]> pieces, int many, int corner, int a, int b, int c) {
            List<Integer> order = shuffled(a * b * c);
            if (a * b * c == 8 && pick(4) > 0) {
                order = List.of(0, 3, 5, 6, 1, 2, 4, 7);
            }
            for (int i = 0; i < many; i++) {
                int[] cells = new int[4];
                for (int j = 0; j < 4; j++) {
                    int cell = order.get(4 * i + j);
                    cells[j] = corner + cell % a + 6 * (cell / a % b) + 36 * (cell / a / b);
                }
                pieces.add(cells);
            }
        }

        private void build(int[] cells) {
            int p = model.count(0);
            for (int i = 0; i < cells.length; i++) {
                int x = cells[i] % 6;
                int y = cells[i] / 6 % 6;
                int z = cells[i] / 36;
                if (i == 0) {
                    same("addPiece", real.addPiece(x, y, z, 1, 1, 1), model.addPiece(x, y, z, 1, 1, 1), x, y, z);
                } else {
                    same("extend", real.extend(p, x, y, z, 1, 1, 1), model.extend(p, x, y, z, 1, 1, 1), p, x, y, z);
                }
            }
        }

        private List<Integer> shuffled(int size) {
            List<Integer> order = new ArrayList<>();
            for (int i = 0; i < size; i++) {
                order.add(pick(i + 1), i);
            }
            return order;
        }

        private void call(int choice) {
            if (choice < 50) {
                change(choice);
            } else {
                ask(choice);
            }
        }

        private void change(int choice) {
            int p = somePiece();
            int d = someDirection();
            int[] b = someBox();
            if (choice < 14) {
                same("addPiece", real.addPiece(b[0], b[1], b[2], b[3], b[4], b[5]),
                        model.addPiece(b[0], b[1], b[2], b[3], b[4], b[5]), Arrays.toString(b));
            } else if (choice < 28) {
                same("extend", real.extend(p, b[0], b[1], b[2], b[3], b[4], b[5]),
                        model.extend(p, b[0], b[1], b[2], b[3], b[4], b[5]), p, Arrays.toString(b));
            } else if (choice < 29) {
                same("drop", real.drop(p), model.drop(p), p);
            } else if (choice < 32) {
                same("shift", real.shift(p, d), model.shift(p, d), p, d);
            } else if (choice < 40) {
                same("put", real.put(p, d), model.put(p, d), p, d);
            } else if (choice < 45) {
                same("takeOut", real.takeOut(p, d), model.takeOut(p, d), p, d);
            } else if (choice < 46) {
                same("putAll", real.putAll(), model.putAll());
            } else if (choice < 49) {
                for (int left = pick(pick(12) == 0 ? 10 : 2); left >= 0; left--) {
                    same("undo", real.undo(), model.undo());
                }
            } else if (pick(6) == 0) {
                same("clear", real.clear(), model.clear());
            }
        }

        private void ask(int choice) {
            int p = somePiece();
            int q = somePiece();
            int d = someDirection();
            int set = someSet();
            int k = edgeOr(pick(9));
            int what = edgeOr(pick(11));
            boolean way = pick(2) == 0;
            int x = edgeOr(pick(6));
            int y = edgeOr(pick(6));
            int z = edgeOr(pick(6));
            switch (choice % 17) {
                case 0 -> same("pieceAt", real.pieceAt(x, y, z), model.pieceAt(x, y, z), x, y, z);
                case 1 -> same("piece", real.piece(p, what), model.piece(p, what), p, what);
                case 2 -> same("blockers", real.blockers(p, d), model.blockers(p, d), p, d);
                case 3 -> same("ways", real.ways(p, set), model.ways(p, set), p, set);
                case 4 -> same("contact", real.contact(p, q), model.contact(p, q), p, q);
                case 5 -> same("hangsTogether", real.hangsTogether(set), model.hangsTogether(set), set);
                case 6 -> same("props", real.props(set), model.props(set), set);
                case 7 -> same("standing", real.standing(set), model.standing(set), set);
                case 8 -> same("orders", real.orders(set), model.orders(set), set);
                case 9 -> same("fewestProps", real.fewestProps(set), model.fewestProps(set), set);
                case 10 -> same("planned", real.planned(set, k, way), model.planned(set, k, way), set, k, way);
                case 11 -> same("locked", real.locked(set), model.locked(set), set);
                case 12 -> {
                    same("firstGroup", real.firstGroup(set, way), model.firstGroup(set, way), set, way);
                    int group = model.firstGroup(set, false);
                    seen.computeIfAbsent("group of", c -> new TreeMap<>())
                            .merge(Integer.toString(group < 0 ? group : Integer.bitCount(group)), 1, Integer::sum);
                }
                case 13 -> same("ifShift", real.ifShift(p, d), model.ifShift(p, d), p, d);
                case 14 -> same("count", real.count(k), model.count(k), k);
                case 15 -> same("faultKind", real.faultKind(), model.faultKind());
                default -> same("digest", real.digest(), model.digest());
            }
        }

        private void writeText() {
            if (pick(5) > 0) {
                same("clearText", real.clearText(), model.clearText());
            }
            String text = someText();
            for (int i = 0; i < text.length(); i++) {
                same("type", real.type(text.charAt(i)), model.type(text.charAt(i)), (int) text.charAt(i));
            }
            if (pick(10) == 0) {
                int code = pick(2) == 0 ? 31 + 96 * pick(2) : EDGES[pick(EDGES.length)];
                same("type", real.type(code), model.type(code), code);
            }
            same("load", real.load(), model.load());
            same("faultKind", real.faultKind(), model.faultKind());
        }

        private String someText() {
            StringBuilder text = new StringBuilder(spaces());
            int boxes = pick(3) == 0 ? 9 + pick(4) : pick(6);
            boolean manyPieces = pick(2) == 0;
            for (int i = 0; i < boxes; i++) {
                if (i > 0) {
                    text.append(spaces()).append(pick(manyPieces ? 9 : 2) == 0 ? '+' : ';').append(spaces());
                }
                for (int number : goodBox(i)) {
                    text.append(number);
                }
            }
            text.append(spaces());
            if (pick(2) == 0 && text.length() > 0) {
                spoil(text);
            }
            return text.toString();
        }

        private void spoil(StringBuilder text) {
            int at = pick(text.length());
            String signs = "0123456789;+ ;+ /:a~!";
            switch (pick(3)) {
                case 0 -> text.setCharAt(at, signs.charAt(pick(signs.length())));
                case 1 -> text.deleteCharAt(at);
                default -> text.insert(at, signs.charAt(pick(signs.length())));
            }
        }

        private int[] goodBox(int i) {
            if (pick(8) == 0) {
                return new int[] {i == 0 ? 0 : pick(i), 0, 0, 1 + pick(3), 1 + pick(6), 1 + pick(6)};
            }
            return new int[] {i % 6, i / 6 + 2 * pick(2), pick(6), 1, 1, 1};
        }

        private String spaces() {
            return pick(6) == 0 ? " ".repeat(1 + pick(2)) : "";
        }
    }
}
