import java.util.ArrayList;
import java.util.Arrays;
import java.util.List;

/**
 * "Refusals are answers, of several the first that a call names", "What is refused changes nothing, but as told":
 * each refusal of each call alone, at both ends, and together with each other one; and what stands after it.
 */
public final class RefusalsTest {
    private static final int BAD = MownWords.BAD, NOT = MownWords.NOT, FULL = MownWords.FULL, NONE = MownWords.NONE;
    private static final int NULL = MownWords.NULL, CAST = MownWords.CAST, INDEX = MownWords.INDEX, SIZE = MownWords.SIZE;
    private static final int MOST = Integer.MAX_VALUE, LEAST = Integer.MIN_VALUE;
    private static final int TAKEN = 0;

    private interface Start {
        MownWords make();
    }

    private interface Call {
        int on(MownWords x, int[] a);
    }

    private interface View {
        List<Integer> of(MownWords x);
    }

    /** A meadow, with how many STRIPS and WORDS it has. */
    private record Meadow(String name, Start start, int strips, int words) {
    }

    private static final Meadow NOTHING = new Meadow("of nothing", MownWords::new, 0, 0);
    private static final Meadow SMALL = new Meadow("of little", RefusalsTest::small, 3, 2);
    private static final Meadow LARGE = new Meadow("of all", RefusalsTest::large, 9, 10);
    private static final Meadow[] ALL = {NOTHING, SMALL, LARGE};

    public static void main(String[] args) {
        for (Meadow meadow : ALL) {
            onStrips(meadow);
            onWords(meadow);
            onNothing(meadow);
            onSheets(meadow);
            onTape(meadow);
        }
        notOnStrips();
        notOnWords();
        notOnSheets();
        wordsOnTape();
        Due.end();
    }

    // ---- three meadows

    private static MownWords small() {
        MownWords x = Due.of("054", "it:7,tin:99");
        x.write(0, 0);
        x.set(0, 0);
        x.sheet(1, 2, 15);
        return x;
    }

    private static MownWords large() {
        MownWords x = Due.of("543", "z:1,it:2");
        x.feud(4, 5, true);
        x.cut(2);
        x.image();
        Due.strips(x, "012345012");
        Due.words(x, "mow:97,own,hay:50,t");
        Due.words(x, "cow:9,ox,amen:3,tilted");
        x.feud(0, 5, true);
        x.feud(1, 2, true);
        x.set(3, 2);
        x.mow(0, 12);
        x.mow(1, 14);
        x.mow(2, 22);
        x.weeks(1);
        x.cut(8);
        x.fault(4, 14, 0);
        x.fault(5, 0, 1);
        x.sheet(0, 0, 20);
        for (int i = 0; i < 20; i++) {
            x.item(0, 0, i, i == 19 ? 10 : i % 10);
        }
        x.sheet(1, 1, 15);
        x.sheet(2, 2, 3);
        Due.type(x, "5 4");
        return x;
    }

    // ---- what stands

    /** Strips, words, feuds, hay, settings: in at most 260 calls. */
    private static List<Integer> meadow(MownWords x) {
        List<Integer> all = new ArrayList<>();
        for (int what = 0; what < 4; what++) {
            all.add(x.count(what));
        }
        for (int strip = 0; strip < all.get(0); strip++) {
            for (int cell = 0; cell < 15; cell++) {
                all.add(x.grass(strip, cell));
            }
        }
        for (int word = 0; word < all.get(1); word++) {
            for (int i = -2; i < x.told(word, -1); i++) {
                all.add(x.told(word, i));
            }
        }
        for (int owner = 0; owner < 6; owner++) {
            all.add(x.hay(owner));
            for (int other = 0; other < owner; other++) {
                all.add(x.feud(owner, other, false));
            }
        }
        for (int what = 0; what < 4; what++) {
            all.add(x.set(what, 0));
        }
        return all;
    }

    private static List<Integer> image(MownWords x) {
        int restored = x.restore();
        List<Integer> all = meadow(x);
        all.add(restored);
        return all;
    }

    /** THE TAPE, SHEETS, and whose STRIPS these are. */
    private static List<Integer> tapeAndSheets(MownWords x) {
        List<Integer> all = new ArrayList<>();
        for (int strip = 0; strip < 9; strip++) {
            all.add(x.fault(strip, 0, 1));
            all.add(x.cut(strip));
            for (int owner = 0; owner < 6; owner++) {
                all.add(x.hay(owner));
            }
        }
        all.add(x.type('3', 1));
        all.add(x.strips());
        for (int strip = 0; strip < 3; strip++) {
            all.add(x.cut(strip));
            all.add(x.hay(3) + 1000 * x.hay(4));
        }
        for (int sheet = 0; sheet < 4; sheet++) {
            for (int lane = 0; lane < 3; lane++) {
                for (int from : new int[] {0, 4, 5}) {
                    all.add(x.sow(0, sheet, lane, from));
                    all.add(x.grass(0, 0));
                    all.add(x.grass(0, 14));
                    all.add(x.seen(0));
                }
            }
            all.add(x.drop(sheet));
        }
        return all;
    }

    private static final View[] VIEWS = {RefusalsTest::meadow, RefusalsTest::image, RefusalsTest::tapeAndSheets};

    private static void answers(String name, Meadow meadow, Call call, int due, int... a) {
        String what = name + Arrays.toString(a) + " " + meadow.name;
        if (due >= TAKEN) {
            int got = call.on(meadow.start.make(), a);
            Due.is(what + " is refused", got == BAD ? 1 : 0, 0);
            return;
        }
        for (View view : VIEWS) {
            MownWords x = meadow.start.make();
            Due.is(what, call.on(x, a), due);
            changesNothing(what, view.of(x), view.of(meadow.start.make()));
        }
    }

    private static void changesNothing(String what, List<Integer> got, List<Integer> due) {
        Due.is(what + ": how much stands", got.size(), due.size());
        for (int i = 0; i < Math.min(got.size(), due.size()); i++) {
            Due.is(what + ": what stands at " + i, got.get(i), due.get(i));
        }
    }

    /**
     * Each number in turn, and each two of them, too small, too large and far off, by which the answer is BAD, whatever else is
     * to refuse; and the least and the most that each may be.
     */
    private static void bounds(String name, Meadow meadow, Call call, int[][] ends, int[] good) {
        for (int i = 0; i < ends.length; i++) {
            for (int v : beside(ends[i])) {
                int[] a = good.clone();
                a[i] = v;
                answers(name, meadow, call, BAD, a);
                for (int j = 0; j < i; j++) {
                    for (int w : beside(ends[j])) {
                        int[] b = a.clone();
                        b[j] = w;
                        answers(name, meadow, call, BAD, b);
                    }
                }
            }
            for (int v : ends[i]) {
                int[] a = good.clone();
                a[i] = v;
                boolean some = Arrays.stream(ends).allMatch(end -> end[0] <= end[1]);
                answers(name, meadow, call, some ? TAKEN : BAD, a);
            }
        }
    }

    private static int[] beside(int[] ends) {
        if (ends[0] == LEAST && ends[1] == MOST) {
            return new int[0];
        }
        if (ends[0] == LEAST) {
            return new int[] {ends[1] + 1, MOST};
        }
        if (ends[1] == MOST) {
            return new int[] {ends[0] - 1, LEAST};
        }
        return new int[] {ends[0] - 1, ends[1] + 1, LEAST, MOST};
    }

    private static int[] to(int most) {
        return new int[] {0, most};
    }

    private static int[] any() {
        return new int[] {LEAST, MOST};
    }

    // ---- BAD, of each call

    private static void onStrips(Meadow meadow) {
        int[] strip = to(meadow.strips - 1);
        int[] most = {5, 8, 7, 9};
        bounds("strip", meadow, (x, a) -> x.strip(a[0]), new int[][] {to(5)}, new int[] {0});
        for (int what = 0; what < 4; what++) {
            bounds("set", meadow, (x, a) -> x.set(a[0], a[1]), new int[][] {to(3), to(most[what])}, new int[] {what, 0});
        }
        bounds("grass", meadow, (x, a) -> x.grass(a[0], a[1]), new int[][] {strip, to(14)}, new int[2]);
        bounds("letter", meadow, (x, a) -> x.letter(a[0]), new int[][] {to(25)}, new int[1]);
        bounds("seen", meadow, (x, a) -> x.seen(a[0]), new int[][] {strip}, new int[1]);
        bounds("reads", meadow, (x, a) -> x.reads(a[0]), new int[][] {strip}, new int[1]);
        bounds("off", meadow, (x, a) -> x.off(a[0]), new int[][] {strip}, new int[1]);
        bounds("mow", meadow, (x, a) -> x.mow(a[0], a[1]), new int[][] {strip, to(25)}, new int[2]);
        bounds("cut", meadow, (x, a) -> x.cut(a[0]), new int[][] {strip}, new int[1]);
        bounds("fault", meadow, (x, a) -> x.fault(a[0], a[1], a[2]), new int[][] {strip, to(14), to(1)}, new int[3]);
        bounds("weeks", meadow, (x, a) -> x.weeks(a[0]), new int[][] {{1, 30}}, new int[] {1});
        bounds("hay", meadow, (x, a) -> x.hay(a[0]), new int[][] {to(5)}, new int[1]);
    }

    private static void onWords(Meadow meadow) {
        int[] strip = to(meadow.strips - 1);
        int[] word = to(meadow.words - 1);
        int[][] wordAndStrip = {word, strip};
        bounds("told", meadow, (x, a) -> x.told(a[0], a[1]), new int[][] {word, {-2, MOST}}, new int[2]);
        bounds("pay", meadow, (x, a) -> x.pay(a[0], a[1]), new int[][] {word, to(99)}, new int[2]);
        bounds("feud", meadow, (x, a) -> x.feud(a[0], a[1], true), new int[][] {to(5), to(5)}, new int[] {1, 4});
        bounds("no feud", meadow, (x, a) -> x.feud(a[0], a[1], false), new int[][] {to(5), to(5)}, new int[] {1, 4});
        bounds("count", meadow, (x, a) -> x.count(a[0]), new int[][] {to(3)}, new int[1]);
        bounds("written", meadow, (x, a) -> x.written(a[0], a[1]), wordAndStrip, new int[2]);
        bounds("read", meadow, (x, a) -> x.read(a[0]), new int[][] {{-2, 8}}, new int[1]);
        bounds("nearest", meadow, (x, a) -> x.nearest(a[0], a[1]), new int[][] {strip, to(1)}, new int[2]);
        bounds("may", meadow, (x, a) -> x.may(a[0], a[1]), wordAndStrip, new int[2]);
        bounds("lost", meadow, (x, a) -> x.lost(a[0], a[1]), wordAndStrip, new int[2]);
        bounds("plan", meadow, (x, a) -> x.plan(a[0]), new int[][] {{-2, 8}}, new int[1]);
        bounds("write", meadow, (x, a) -> x.write(a[0], a[1]), wordAndStrip, new int[2]);
        bounds("share", meadow, (x, a) -> x.share(a[0], a[1], a[2]), new int[][] {word, strip, to(5)}, new int[3]);
        bounds("sure", meadow, (x, a) -> x.sure(a[0], a[1]), new int[][] {to(25), to(8)}, new int[2]);
        bounds("taken", meadow, (x, a) -> x.taken(a[0], a[1]), new int[][] {to(25), to(8)}, new int[2]);
        bounds("fades", meadow, (x, a) -> x.fades(a[0], a[1]), wordAndStrip, new int[2]);
        bounds("brief", meadow, (x, a) -> x.brief(a[0]), new int[][] {word}, new int[1]);
        for (int owner = 0; owner < 6; owner++) {
            answers("feud of one", meadow, (x, a) -> x.feud(a[0], a[1], true), BAD, owner, owner);
            answers("no feud of one", meadow, (x, a) -> x.feud(a[0], a[1], false), BAD, owner, owner);
        }
    }

    private static void onSheets(Meadow meadow) {
        int[] strip = to(meadow.strips - 1);
        int[] good = {0, 0, 0, 0};
        bounds("sow", meadow, (x, a) -> x.sow(a[0], a[1], a[2], a[3]), new int[][] {strip, to(3), to(2), any()}, good);
        bounds("sheet", meadow, (x, a) -> x.sheet(a[0], a[1], a[2]), new int[][] {to(3), to(2), {LEAST, 24}}, new int[3]);
        bounds("drop", meadow, (x, a) -> x.drop(a[0]), new int[][] {to(3)}, new int[1]);
        bounds("item", meadow, (x, a) -> x.item(a[0], a[1], a[2], a[3]), new int[][] {to(3), to(2), any(), any()}, good);
        bounds("film", meadow, (x, a) -> x.film(a[0], a[1], a[2]), new int[][] {to(3), to(2), any()}, new int[3]);
        // Of a call that would be refused otherwise as well, BAD is told.
        for (int lane = 0; lane < 3; lane++) {
            int[] elsewhere = {0, lane, -1, 0};
            bounds("sow", meadow, (x, a) -> x.sow(a[0], a[1], a[2], a[3]), new int[][] {strip, to(3), to(2), any()}, new int[] {0, 0, lane, -1});
            bounds("item", meadow, (x, a) -> x.item(a[0], a[1], a[2], a[3]), new int[][] {to(3), to(2), any(), any()}, elsewhere);
            bounds("film", meadow, (x, a) -> x.film(a[0], a[1], a[2]), new int[][] {to(3), to(2), any()}, elsewhere);
            bounds("sheet", meadow, (x, a) -> x.sheet(a[0], a[1], a[2]), new int[][] {to(3), to(2), {LEAST, 24}}, elsewhere);
        }
    }

    private static void onTape(Meadow meadow) {
        for (int n : new int[] {0, 9, -1, LEAST, MOST}) {
            answers("type of n", meadow, (x, a) -> x.type(0x3030303030303030L, a[0]), BAD, n);
            answers("type of n of bad bytes", meadow, (x, a) -> x.type(0, a[0]), BAD, n);
        }
        for (int n = 1; n <= 8; n++) {
            for (int sign : new int[] {0, 31, 127, 128, 255}) {
                long w = 0x3030303030303030L & ~(255L << 8 * n - 8) | (long) sign << 8 * n - 8;
                answers("type of a bad first byte " + sign, meadow, (x, a) -> x.type(w, a[0]), BAD, n);
                answers("type of a bad last byte " + sign, meadow, (x, a) -> x.type(0x3030303030303000L | sign, a[0]), BAD, n);
            }
        }
        Meadow full = new Meadow("of a full tape " + meadow.name, () -> fullTape(meadow.start.make()), meadow.strips, meadow.words);
        answers("type", full, (x, a) -> x.type(a[0], 1), FULL, '0');
        answers("type of a bad byte", full, (x, a) -> x.type(a[0], 1), BAD, 31);
        answers("type of no byte", full, (x, a) -> x.type(a[0], 0), BAD, '0');
        answers("type of nine bytes", full, (x, a) -> x.type(a[0], 9), BAD, '0');
    }

    private static MownWords fullTape(MownWords x) {
        for (int length = x.type('5', 1); length > 0 && length < 80; length = x.type(' ', 1)) {
            continue;
        }
        return x;
    }

    private static void onNothing(Meadow meadow) {
        if (meadow != NOTHING) {
            return;
        }
        answers("restore", meadow, (x, a) -> x.restore(), NONE);
        answers("read of none", meadow, (x, a) -> x.read(a[0]), NONE, 0);
        answers("read of none", meadow, (x, a) -> x.read(a[0]), NONE, 8);
        answers("plan of none", meadow, (x, a) -> x.plan(a[0]), NONE, 0);
        answers("plan of none", meadow, (x, a) -> x.plan(a[0]), NONE, 8);
        for (int sheet = 0; sheet < 4; sheet++) {
            answers("drop of nothing", meadow, (x, a) -> x.drop(a[0]), NULL, sheet);
            answers("item of nothing", meadow, (x, a) -> x.item(a[0], a[1], a[2], a[3]), NULL, sheet, 2, 0, 0);
            answers("item -1 of nothing", meadow, (x, a) -> x.item(a[0], a[1], a[2], a[3]), NULL, sheet, 0, -1, 0);
            answers("film on nothing", meadow, (x, a) -> x.film(a[0], a[1], a[2]), NULL, sheet, 1, 0);
            answers("film on nothing from 1", meadow, (x, a) -> x.film(a[0], a[1], a[2]), NULL, sheet, 1, 1);
        }
    }

    // ---- the others

    private static void notOnStrips() {
        answers("a tenth strip", LARGE, (x, a) -> x.strip(a[0]), FULL, 0);
        answers("a tenth strip", LARGE, (x, a) -> x.strip(a[0]), FULL, 5);
        answers("a tenth strip of nobody", LARGE, (x, a) -> x.strip(a[0]), BAD, 6);
        answers("mow what has not grown", LARGE, (x, a) -> x.mow(a[0], a[1]), NOT, 0, 12);
        answers("mow where all is cut", LARGE, (x, a) -> x.mow(a[0], a[1]), NOT, 8, 0);
        answers("mow where one is eaten", LARGE, (x, a) -> x.mow(a[0], a[1]), NOT, 4, 0);
        answers("mow letter 26 where all is cut", LARGE, (x, a) -> x.mow(a[0], a[1]), BAD, 8, 26);
        answers("mow letter -1 where all is cut", LARGE, (x, a) -> x.mow(a[0], a[1]), BAD, 8, -1);
        answers("what reads as nothing", LARGE, (x, a) -> x.reads(a[0]), NONE, 3);
        answers("what reads as nothing", SMALL, (x, a) -> x.reads(a[0]), NONE, 2);
    }

    private static void notOnWords() {
        answers("no such letter", LARGE, (x, a) -> x.told(a[0], a[1]), NONE, 0, 1);
        answers("no such letter", LARGE, (x, a) -> x.told(a[0], a[1]), NONE, 9, 6);
        answers("no such letter", LARGE, (x, a) -> x.told(a[0], a[1]), NONE, 9, MOST);
        answers("read that is not", LARGE, (x, a) -> x.read(a[0]), NONE, 8);
        answers("plan that is not", LARGE, (x, a) -> x.plan(a[0]), NONE, 8);
        answers("none has room", SMALL, (x, a) -> x.nearest(a[0], a[1]), NONE, 2, 0);
        answers("none has room", SMALL, (x, a) -> x.nearest(a[0], a[1]), NONE, 2, 1);
        answers("none has room, what 2", SMALL, (x, a) -> x.nearest(a[0], a[1]), BAD, 2, 2);
        answers("lost without room", LARGE, (x, a) -> x.lost(a[0], a[1]), NOT, 9, 4);
        answers("lost without room", SMALL, (x, a) -> x.lost(a[0], a[1]), NOT, 0, 2);
        answers("write without room", LARGE, (x, a) -> x.write(a[0], a[1]), NOT, 9, 4);
        answers("write in a feud", LARGE, (x, a) -> x.write(a[0], a[1]), NOT, 7, 5);
        answers("write where the last has not grown", LARGE, (x, a) -> x.write(a[0], a[1]), NOT, 7, 7);
        answers("write again", SMALL, (x, a) -> x.write(a[0], a[1]), NOT, 0, 0);
        answers("write where the first has not grown", SMALL, (x, a) -> x.write(a[0], a[1]), NOT, 0, 1);
        answers("share without room", LARGE, (x, a) -> x.share(a[0], a[1], a[2]), NOT, 9, 4, 0);
        answers("share of less than lost", LARGE, (x, a) -> x.share(a[0], a[1], a[2]), NOT, 0, 3, 3);
        answers("share of less than lost, owner 6", LARGE, (x, a) -> x.share(a[0], a[1], a[2]), BAD, 0, 3, 6);
        answers("share without room, owner -1", LARGE, (x, a) -> x.share(a[0], a[1], a[2]), BAD, 9, 4, -1);
        answers("taken by none", LARGE, (x, a) -> x.taken(a[0], a[1]), NONE, 25, 0);
        answers("fades though not written", LARGE, (x, a) -> x.fades(a[0], a[1]), NOT, 3, 0);
        answers("fades without room", LARGE, (x, a) -> x.fades(a[0], a[1]), NOT, 9, 4);
        answers("fades never", SMALL, (x, a) -> x.fades(a[0], a[1]), NONE, 0, 0);
        answers("brief of t, which is in tilted", LARGE, (x, a) -> x.brief(a[0]), NONE, 5);
    }

    private static void notOnSheets() {
        Call sow = (x, a) -> x.sow(a[0], a[1], a[2], a[3]);
        Call item = (x, a) -> x.item(a[0], a[1], a[2], a[3]);
        Call film = (x, a) -> x.film(a[0], a[1], a[2]);
        answers("sow of nothing", LARGE, sow, NULL, 3, 3, 0, 0);
        answers("sow of nothing from -1", LARGE, sow, NULL, 3, 3, 2, -1);
        for (int lane = 1; lane < 3; lane++) {
            answers("sow as another lane", LARGE, sow, CAST, 3, 0, lane, 0);
            answers("sow as another lane from -1", LARGE, sow, CAST, 3, 0, lane, -1);
            answers("sow as another lane from 6", LARGE, sow, CAST, 3, 0, lane, 6);
            answers("sow as another lane of no grass", LARGE, sow, CAST, 3, 0, lane, 5);
            answers("item as another lane", LARGE, item, CAST, 0, lane, 0, 1);
            answers("item 20 as another lane", LARGE, item, CAST, 0, lane, 20, 1);
            answers("film as another lane", LARGE, film, CAST, 0, lane, 0);
            answers("film as another lane from 12", LARGE, film, CAST, 0, lane, 12);
        }
        for (int from : new int[] {-1, 6, LEAST, MOST}) {
            answers("sow from", LARGE, sow, INDEX, 3, 0, 0, from);
        }
        answers("sow of no grass", LARGE, sow, NOT, 3, 0, 0, 5);
        answers("sow of no grass on strip 9", LARGE, sow, BAD, 9, 0, 0, 5);
        for (int i : new int[] {-1, 20, LEAST, MOST}) {
            answers("item", LARGE, item, INDEX, 0, 0, i, 1);
        }
        for (int from : new int[] {-1, 12, LEAST, MOST}) {
            answers("film from", LARGE, film, INDEX, 0, 0, from);
        }
        answers("film on too few", LARGE, film, INDEX, 2, 2, 0);
        for (int sheet = 0; sheet < 4; sheet++) {
            answers("a row of -1", LARGE, (x, a) -> x.sheet(a[0], a[1], a[2]), SIZE, sheet, 1, -1);
            answers("a row by far below", LARGE, (x, a) -> x.sheet(a[0], a[1], a[2]), SIZE, sheet, 2, LEAST);
        }
        answers("drop of nothing", LARGE, (x, a) -> x.drop(a[0]), NULL, 3);
    }

    /** "THE TAPE, which is empty then (whatever is answered)": all else is as it was. */
    private static void wordsOnTape() {
        for (Meadow meadow : ALL) {
            for (View view : VIEWS) {
                MownWords empty = emptyTape(meadow.start.make());
                List<Integer> due = view.of(empty);
                for (String text : new String[] {"", "?", "6", "01234501234", "a"}) {
                    MownWords x = emptyTape(meadow.start.make());
                    Due.is("strips refused", Due.strips(x, text) <= -20 ? 1 : 0, 1);
                    changesNothing("strips of '" + text + "' " + meadow.name, view.of(x), due);
                }
                for (String text : new String[] {"", "?", "a,b,", "a:100", "abcdefg", "a,b,c,d,e"}) {
                    MownWords x = emptyTape(meadow.start.make());
                    Due.is("words refused", Due.words(x, text) <= -20 ? 1 : 0, 1);
                    changesNothing("words of '" + text + "' " + meadow.name, view.of(x), due);
                }
                MownWords x = emptyTape(meadow.start.make());
                if (meadow == LARGE) {
                    Due.is("an eleventh word", Due.words(x, "a"), FULL);
                    changesNothing("an eleventh word", view.of(x), due);
                }
            }
        }
    }

    /** A fault by its digits or its colon, so that nothing but THE TAPE changes. */
    private static MownWords emptyTape(MownWords x) {
        Due.is("a fault", Due.words(x, "0:") <= -20 ? 1 : 0, 1);
        return x;
    }
}
