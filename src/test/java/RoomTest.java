import com.sun.management.ThreadMXBean;
import java.lang.management.ManagementFactory;
import java.lang.reflect.Array;
import java.lang.reflect.Field;
import java.lang.reflect.Modifier;
import java.util.Collections;
import java.util.IdentityHashMap;
import java.util.Set;

/** The room that an object takes: little when it is made, and nothing more in any call. */
public final class RoomTest {
    private static final int MOST_OBJECTS = 100;
    private static final int MOST_ELEMENTS = 6000;

    private static int objects = 0;
    private static int elements = 0;

    public static void main(String[] args) throws IllegalAccessException {
        boolean good = true;
        weigh(new FrameRaiser(), Collections.newSetFromMap(new IdentityHashMap<>()));
        if (objects > MOST_OBJECTS || elements > MOST_ELEMENTS) {
            good = false;
            System.out.println("a new object is " + objects + " objects with " + elements + " fields and elements");
        }
        ThreadMXBean threads = (ThreadMXBean) ManagementFactory.getThreadMXBean();
        FrameRaiser x = new FrameRaiser();
        calls(x);
        threads.getCurrentThreadAllocatedBytes();
        long before = threads.getCurrentThreadAllocatedBytes();
        long between = threads.getCurrentThreadAllocatedBytes();
        calls(x);
        long after = threads.getCurrentThreadAllocatedBytes();
        if (after - between > between - before) {
            good = false;
            System.out.println("calls took " + (after - between) + " bytes");
        }
        if (!good) {
            System.exit(1);
        }
    }

    private static void weigh(Object object, Set<Object> known) throws IllegalAccessException {
        if (object == null || !known.add(object)) {
            return;
        }
        objects++;
        if (object.getClass().isArray()) {
            elements += Array.getLength(object);
            for (int i = 0; object instanceof Object[] row && i < row.length; i++) {
                weigh(row[i], known);
            }
            return;
        }
        for (Field field : object.getClass().getDeclaredFields()) {
            if (!Modifier.isStatic(field.getModifiers())) {
                elements++;
                field.setAccessible(true);
                if (!field.getType().isPrimitive()) {
                    weigh(field.get(object), known);
                }
            }
        }
    }

    /** Every method of the face, with answers of every kind. */
    private static void calls(FrameRaiser x) {
        for (int i = -1; i < 9; i++) {
            x.addPiece(i, 0, 0, 1, 1, 1 + i % 4);
            x.extend(i, i, 1, 1, 1, 3, 2);
            x.shift(i, i);
            x.ifShift(i, 4);
            x.put(i, 4);
            x.takeOut(i, 4);
            x.pieceAt(i, 0, 0);
            x.piece(i, i);
            x.blockers(i, i);
            x.ways(i, 3);
            x.contact(i, 0);
            x.hangsTogether(i);
            x.props(i);
            x.standing(i);
            x.orders(i);
            x.fewestProps(i);
            x.planned(7, i, true);
            x.locked(i);
            x.firstGroup(31, false);
            x.putAll();
            x.count(i);
            x.digest();
            x.drop(i - 4);
            x.undo();
        }
        x.clear();
        for (int i = 0; i < 82; i++) {
            x.type("000111;200111+220111 ".charAt(i % 21));
            x.load();
            x.faultKind();
            x.digest();
        }
        x.clearText();
    }
}
