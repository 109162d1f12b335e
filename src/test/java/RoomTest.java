import com.sun.management.ThreadMXBean;
import java.lang.management.ManagementFactory;

/** Rule 12 of LANGUAGE.md: a new object, and 512 of its dearest call, take little of the room that all calls of a run have. */
public final class RoomTest {
    private static final int CALLS = 75, CALLS_OF_AN_OBJECT = 512;
    /** What 7.3 million fields and elements take at the least, if they are ints. */
    private static final long ROOM = 7_300_000L * 4;
    private static final ThreadMXBean THREADS = (ThreadMXBean) ManagementFactory.getThreadMXBean();

    public static void main(String[] args) {
        long made = 0;
        long[] madeBy = new long[CALLS];
        // The first turns bring what the machine itself makes when code is first used.
        for (int turn = 0; turn < 3; turn++) {
            long before = bytes();
            MownWords x = new MownWords();
            made = bytes() - before;
            for (int i = 0; i < CALLS; i++) {
                before = bytes();
                call(x, i);
                madeBy[i] = bytes() - before;
            }
        }
        small("a new object", made, ROOM / 100);
        for (int i = 0; i < CALLS; i++) {
            small("call " + i, madeBy[i], ROOM / CALLS_OF_AN_OBJECT);
        }
        Due.end();
    }

    private static long bytes() {
        return THREADS.getThreadAllocatedBytes(Thread.currentThread().getId());
    }

    private static void small(String what, long bytes, long most) {
        Due.is(what + " makes little: " + bytes + " bytes, of " + most, bytes <= most ? 1 : 0, 1);
    }

    /** Each call of the face, those that must come in an order in that order, and at last sure, taken of each LETTER. */
    private static void call(MownWords x, int i) {
        switch (i) {
            case 0 -> x.type(0x303132333435L, 6);
            case 1 -> x.strips();
            case 2 -> x.strip(0);
            case 3 -> x.type(0x6D6F773A3937L, 6);
            case 4 -> x.words();
            case 5 -> x.type(0x6974L, 2);
            case 6 -> x.words();
            case 7 -> x.set(3, 0);
            case 8 -> x.grass(0, 0);
            case 9 -> x.letter(0);
            case 10 -> x.image();
            case 11 -> x.plan(-1);
            case 12 -> x.plan(0);
            case 13 -> x.may(0, 0);
            case 14 -> x.write(0, 0);
            case 15 -> x.written(0, 0);
            case 16 -> x.read(-1);
            case 17 -> x.read(0);
            case 18 -> x.nearest(0, 0);
            case 19 -> x.lost(0, 0);
            case 20 -> x.share(0, 0, 0);
            case 21 -> x.fades(0, 0);
            case 22 -> x.brief(0);
            case 23 -> x.mow(4, 0);
            case 24 -> x.cut(5);
            case 25 -> x.fault(0, 0, 1);
            case 26 -> x.weeks(1);
            case 27 -> x.hay(0);
            case 28 -> x.told(0, 0);
            case 29 -> x.pay(0, 5);
            case 30 -> x.feud(0, 1, true);
            case 31 -> x.count(3);
            case 32 -> x.seen(0);
            case 33 -> x.reads(0);
            case 34 -> x.off(0);
            case 35 -> x.restore();
            case 36 -> x.sheet(0, 2, 24);
            case 37 -> x.item(0, 2, 0, 9);
            case 38 -> x.sow(0, 0, 2, 0);
            case 39 -> x.film(0, 2, 0);
            case 40 -> x.drop(0);
            case 41 -> x.type(0x3F, 1);
            case 42 -> x.words();
            case 43 -> x.type(0x3F, 1);
            case 44 -> x.strips();
            case 45 -> x.sow(0, 0, 2, 0);
            case 46 -> x.sheet(0, 2, -1);
            case 47 -> x.sure(26, 0);
            case 48 -> x.taken(26, 0);
            default -> {
                x.sure(i - 49, 3);
                x.taken(i - 49, 3);
            }
        }
    }
}
