import com.sun.management.ThreadMXBean;
import java.lang.management.ManagementFactory;
import java.lang.reflect.Array;
import java.lang.reflect.Field;
import java.lang.reflect.Modifier;
import java.util.ArrayList;
import java.util.Collections;
import java.util.IdentityHashMap;
import java.util.List;
import java.util.Random;
import java.util.Set;

/** All calls of a run live in one room: an object makes its rows once, and its calls make nothing. */
public final class RoomTest {
    private static final Checks C = new Checks("RoomTest");

    public static void main(String[] args) throws IllegalAccessException {
        rowsOfAnObject();
        callsMakeNothing();
        C.end();
    }

    private static void rowsOfAnObject() throws IllegalAccessException {
        Set<Object> seen = Collections.newSetFromMap(new IdentityHashMap<>());
        List<Object> open = new ArrayList<>(List.of(new PalletNets()));
        long elements = 0;
        while (!open.isEmpty()) {
            Object o = open.remove(open.size() - 1);
            if (o == null || !seen.add(o)) {
                continue;
            }
            if (o.getClass().isArray()) {
                elements += Array.getLength(o);
                for (int i = 0; i < Array.getLength(o) && !o.getClass().getComponentType().isPrimitive(); i++) {
                    open.add(Array.get(o, i));
                }
                continue;
            }
            for (Field f : o.getClass().getDeclaredFields()) {
                if (!Modifier.isStatic(f.getModifiers())) {
                    elements++;
                    f.setAccessible(true);
                    if (!f.getType().isPrimitive()) {
                        open.add(f.get(o));
                    }
                }
            }
        }
        System.out.println("RoomTest: a new object has " + seen.size() + " objects and arrays, " + elements + " fields and elements");
        C.isTrue("objects and arrays of a new object: " + seen.size(), seen.size() <= 250);
        C.isTrue("fields and elements of a new object: " + elements, elements <= 10000);
    }

    private static void callsMakeNothing() {
        ThreadMXBean threads = (ThreadMXBean) ManagementFactory.getThreadMXBean();
        long id = Thread.currentThread().getId();
        PalletNets x = new PalletNets();
        Random random = new Random(7);
        work(x, random);
        long before = threads.getThreadAllocatedBytes(id);
        for (int n = 0; n < 20; n++) {
            work(x, random);
        }
        long bytes = threads.getThreadAllocatedBytes(id) - before;
        C.isTrue("20 times 500 calls make " + bytes + " bytes", bytes < 100000);
    }

    private static void work(PalletNets x, Random random) {
        for (int n = 0; n < 20; n++) {
            x.draw(random.nextInt(1000000), 1 + random.nextInt(10), 1 + random.nextInt(8));
            x.guards();
            x.keeper(1);
            x.runs(8, 1);
            x.clear();
            for (int i = 0; i < 3; i++) {
                x.type("t1>".charAt(i));
            }
            x.reads();
            x.type(';');
            x.reads();
            x.loses(0);
            x.returns(0);
            x.home(0);
            x.of(0, 3);
            x.found(7, 2);
            x.line(1, 0, 0);
            x.guard(1, 1);
            x.guardOf(0, 4);
            x.goes(0);
            x.restarts();
            x.digest();
            x.back();
        }
    }
}
