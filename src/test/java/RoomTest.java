import java.lang.management.ManagementFactory;
import java.lang.reflect.Array;
import java.lang.reflect.Field;
import java.lang.reflect.Modifier;
import java.util.IdentityHashMap;
import java.util.Map;

/** All calls of a run live in one room: an object's rows are made once, and calls make nothing. */
final class RoomTest {
    private static final int MOST_OBJECTS = 150;
    private static final int MOST_ELEMENTS = 15000;
    private static final long MOST_BYTES = 20000;

    public static void main(String[] args) throws IllegalAccessException {
        OwnMade x = dearest();
        long[] room = new long[2];
        count(x, new IdentityHashMap<>(), room);
        System.out.println(room[0] + " objects, " + room[1] + " fields and elements");
        Due.is("few objects", room[0] <= MOST_OBJECTS, true);
        Due.is("few elements", room[1] <= MOST_ELEMENTS, true);
        ask(x);
        var threads = (com.sun.management.ThreadMXBean) ManagementFactory.getThreadMXBean();
        threads.getCurrentThreadAllocatedBytes();
        long before = threads.getCurrentThreadAllocatedBytes();
        for (int i = 0; i < 20; i++) {
            ask(x);
        }
        long bytes = threads.getCurrentThreadAllocatedBytes() - before;
        System.out.println("some 400 calls made " + bytes + " bytes");
        Due.is("calls make nothing", bytes <= MOST_BYTES, true);
        Due.end("RoomTest");
    }

    /** 8 people, each with five of six goods, each gladly giving many for many. */
    private static OwnMade dearest() {
        StringBuilder text = new StringBuilder("place a;place b;place c;place d;place e;way a b 1;way b c 1;way c d 1;");
        for (int i = 0; i < 6; i++) {
            text.append("good ").append((char) ('f' + i)).append(" hours 1;");
        }
        for (int i = 0; i < 8; i++) {
            text.append("person ").append((char) ('p' + i)).append(" at a makes f g h i j k");
            for (int good = 0; good < 6; good++) {
                text.append(" wants ").append((char) ('f' + good)).append(' ').append(1 + (i * 5 + good * 7) % 9);
            }
            text.append(';');
        }
        OwnMade x = new OwnMade();
        Due.is("land", Due.land(x, text.toString()), 0);
        for (int i = 0; i < 40; i++) {
            Due.is("made", x.make(i / 5, -1, (i / 5 + i % 5) % 6, 0), 0);
        }
        return x;
    }

    private static void ask(OwnMade x) {
        Due.feed(x, "lawful when own or free;");
        x.rule();
        x.round(31);
        x.most(255, 0);
        x.at(0);
        x.length(255);
        x.live(3, 0);
        x.beside(3, 0, 1);
        x.had(255);
        x.never(255);
        x.fewest(0, 0);
        x.fair(0, 168, 1, 0);
        x.fairest(168, 1);
        x.far(0, 0, 1, 1);
        x.coin(-1);
        x.lifted(0, true);
        x.lift(1);
        x.years(1, 52, 0);
        x.visited();
        x.mark(0, false);
        x.give(0, 1, 0);
        x.mark(0, true);
        x.count(7);
    }

    private static void count(Object part, Map<Object, Object> seen, long[] room) throws IllegalAccessException {
        if (part == null || seen.put(part, part) != null) {
            return;
        }
        room[0]++;
        if (part.getClass().isArray()) {
            room[1] += Array.getLength(part);
            if (part instanceof Object[] parts) {
                for (Object each : parts) {
                    count(each, seen, room);
                }
            }
            return;
        }
        for (Field field : part.getClass().getDeclaredFields()) {
            if (!Modifier.isStatic(field.getModifiers())) {
                room[1]++;
                field.setAccessible(true);
                if (!field.getType().isPrimitive()) {
                    count(field.get(part), seen, room);
                }
            }
        }
    }
}
