import com.sun.management.ThreadMXBean;
import java.lang.management.ManagementFactory;
import java.lang.reflect.Array;
import java.lang.reflect.Field;
import java.lang.reflect.Modifier;
import java.util.IdentityHashMap;
import java.util.Map;

/** Rule 12 of LANGUAGE.md: a new object is small, and no call makes anything or makes it larger. */
public final class RoomTest {
    private static final int CALLS = 75;
    private static final int MOST_PARTS = 200, MOST_FIELDS_AND_ELEMENTS = 3000;

    private final Map<Object, Boolean> parts = new IdentityHashMap<>();
    private int fieldsAndElements = 0;

    public static void main(String[] args) throws ReflectiveOperationException {
        MownWords x = new MownWords();
        RoomTest fresh = roomOf(x);
        Due.is("a new object is small: " + fresh.parts.size() + " objects and arrays", fresh.parts.size() <= MOST_PARTS ? 1 : 0, 1);
        Due.is("a new object is small: " + fresh.fieldsAndElements + " fields and elements",
            fresh.fieldsAndElements <= MOST_FIELDS_AND_ELEMENTS ? 1 : 0, 1);
        for (int i = 0; i < CALLS; i++) {
            call(x, i);
        }
        RoomTest used = roomOf(x);
        Due.is("objects and arrays after all calls", used.parts.size(), fresh.parts.size());
        Due.is("fields and elements after all calls", used.fieldsAndElements, fresh.fieldsAndElements);
        callsMakeNothing();
        Due.end();
    }

    private static RoomTest roomOf(Object object) throws ReflectiveOperationException {
        RoomTest room = new RoomTest();
        room.add(object);
        return room;
    }

    private void add(Object part) throws ReflectiveOperationException {
        if (part == null || parts.put(part, true) != null) {
            return;
        }
        if (part.getClass().isArray()) {
            fieldsAndElements += Array.getLength(part);
            for (int i = 0; i < Array.getLength(part) && !part.getClass().getComponentType().isPrimitive(); i++) {
                add(Array.get(part, i));
            }
            return;
        }
        for (Field field : part.getClass().getDeclaredFields()) {
            if (!Modifier.isStatic(field.getModifiers())) {
                fieldsAndElements++;
                field.setAccessible(true);
                if (!field.getType().isPrimitive()) {
                    add(field.get(part));
                }
            }
        }
    }

    private static void callsMakeNothing() {
        ThreadMXBean threads = (ThreadMXBean) ManagementFactory.getThreadMXBean();
        long thread = Thread.currentThread().getId();
        long[] made = new long[CALLS];
        // The first turns bring what the machine itself makes when code is first used.
        for (int turn = 0; turn < 3; turn++) {
            MownWords x = new MownWords();
            for (int i = 0; i < CALLS; i++) {
                long before = threads.getThreadAllocatedBytes(thread);
                call(x, i);
                made[i] = threads.getThreadAllocatedBytes(thread) - before;
            }
        }
        long silence = threads.getThreadAllocatedBytes(thread);
        silence = threads.getThreadAllocatedBytes(thread) - silence;
        for (int i = 0; i < CALLS; i++) {
            Due.is("bytes made by call " + i, made[i], silence);
        }
    }

    /** Each call of the face, those that must come in an order in that order, and at last sure, taken of each LETTER. */
    private static void call(MownWords x, int i) {
        switch (i) {
            case 0 -> x.type(0x303132333435L, 6);
            case 1 -> x.strips();
            case 2 -> x.strip(0);
            case 3 -> x.type(0x6D6F773A3937L, 6);
            case 4 -> x.words();
            case 5 -> x.type(0x6974L, 2);
            case 6 -> x.words();
            case 7 -> x.set(3, 0);
            case 8 -> x.grass(0, 0);
            case 9 -> x.letter(0);
            case 10 -> x.image();
            case 11 -> x.plan(-1);
            case 12 -> x.plan(0);
            case 13 -> x.may(0, 0);
            case 14 -> x.write(0, 0);
            case 15 -> x.written(0, 0);
            case 16 -> x.read(-1);
            case 17 -> x.read(0);
            case 18 -> x.nearest(0, 0);
            case 19 -> x.lost(0, 0);
            case 20 -> x.share(0, 0, 0);
            case 21 -> x.fades(0, 0);
            case 22 -> x.brief(0);
            case 23 -> x.mow(4, 0);
            case 24 -> x.cut(5);
            case 25 -> x.fault(0, 0, 1);
            case 26 -> x.weeks(1);
            case 27 -> x.hay(0);
            case 28 -> x.told(0, 0);
            case 29 -> x.pay(0, 5);
            case 30 -> x.feud(0, 1, true);
            case 31 -> x.count(3);
            case 32 -> x.seen(0);
            case 33 -> x.reads(0);
            case 34 -> x.off(0);
            case 35 -> x.restore();
            case 36 -> x.sheet(0, 2, 24);
            case 37 -> x.item(0, 2, 0, 9);
            case 38 -> x.sow(0, 0, 2, 0);
            case 39 -> x.film(0, 2, 0);
            case 40 -> x.drop(0);
            case 41 -> x.type(0x3F, 1);
            case 42 -> x.words();
            case 43 -> x.type(0x3F, 1);
            case 44 -> x.strips();
            case 45 -> x.sow(0, 0, 2, 0);
            case 46 -> x.sheet(0, 2, -1);
            case 47 -> x.sure(26, 0);
            case 48 -> x.taken(26, 0);
            default -> {
                x.sure(i - 49, 3);
                x.taken(i - 49, 3);
            }
        }
    }
}
