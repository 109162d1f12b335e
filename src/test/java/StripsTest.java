/** Promises 1 to 13: strips, and the grass on them. */
public final class StripsTest {
    private static final int A = 0, H = 7, I = 8, M = 12, T = 19;

    public static void main(String[] args) {
        newObject();
        strip();
        set();
        grassAndLetter();
        seen();
        readsAndOff();
        mow();
        cut();
        fault();
        weeks();
        hay();
        Due.end();
    }

    private static MownWords with(String owners) {
        return Due.of(owners, "");
    }

    private static void newObject() {
        MownWords x = new MownWords();
        for (int what = 0; what < 4; what++) {
            Due.is("count of a new object " + what, x.count(what), 0);
        }
        Due.is("reads of a new object", x.reads(0), MownWords.BAD);
        Due.is("told of a new object", x.told(0, -1), MownWords.BAD);
        Due.is("read of a new object", x.read(-1), 0);
        Due.is("restore of a new object", x.restore(), MownWords.NONE);
        Due.is("drop of a new object", x.drop(0), MownWords.NULL);
        Due.is("strips of an empty tape", x.strips(), -20);
    }

    private static void strip() {
        MownWords x = new MownWords();
        Due.is("strip of -1", x.strip(-1), MownWords.BAD);
        Due.is("strip of 6", x.strip(6), MownWords.BAD);
        for (int strip = 0; strip < 9; strip++) {
            Due.is("strip " + strip, x.strip(strip % 6), strip);
        }
        Due.is("a tenth strip", x.strip(0), MownWords.FULL);
        Due.is("a tenth strip of nobody", x.strip(6), MownWords.BAD);
        Due.is("count of strips", x.count(0), 9);
        Due.is("hay by strip 5", x.mow(5, T), 35);
        Due.is("hay of owner 5", x.hay(5), 35);
    }

    private static void set() {
        MownWords x = new MownWords();
        int[] first = {2, 2, 3, 1};
        int[] most = {5, 8, 7, 9};
        for (int what = 0; what < 4; what++) {
            Due.is("first setting " + what, x.set(what, 0), first[what]);
            Due.is("least setting " + what, x.set(what, most[what]), 0);
            Due.is("setting too high " + what, x.set(what, most[what] + 1), MownWords.BAD);
            Due.is("setting too low " + what, x.set(what, -1), MownWords.BAD);
            Due.is("most setting " + what, x.set(what, first[what]), most[what]);
        }
        Due.is("setting -1", x.set(-1, 0), MownWords.BAD);
        Due.is("setting 4", x.set(4, 0), MownWords.BAD);
        Due.is("setting far off", x.set(Integer.MAX_VALUE, Integer.MIN_VALUE), MownWords.BAD);
    }

    private static void grassAndLetter() {
        MownWords x = with("01");
        Due.is("first grass", x.grass(1, 14), 5);
        x.mow(1, T);
        Due.is("mown cell", x.grass(1, 0), 0);
        Due.is("cell left", x.grass(1, 14), 5);
        Due.is("other strip", x.grass(0, 0), 5);
        Due.is("grass of strip 2", x.grass(2, 0), MownWords.BAD);
        Due.is("grass of strip -1", x.grass(-1, 0), MownWords.BAD);
        Due.is("grass of cell 15", x.grass(0, 15), MownWords.BAD);
        Due.is("grass of cell -1", x.grass(0, -1), MownWords.BAD);
        for (int letter = 0; letter < 26; letter++) {
            Due.is("letter " + letter, x.letter(letter), Model.SHAPES[letter]);
        }
        Due.is("letter 26", x.letter(26), MownWords.BAD);
        Due.is("letter -1", x.letter(-1), MownWords.BAD);
    }

    private static void seen() {
        MownWords x = with("0");
        Due.is("nothing seen", x.seen(0), 0);
        x.mow(0, T);
        Due.is("t seen", x.seen(0), x.letter(T));
        x.weeks(1);
        Due.is("grass of 2 is seen", x.seen(0), x.letter(T));
        x.set(1, 1);
        Due.is("grass of 2 is above 1", x.seen(0), 0);
        x.set(1, 7);
        Due.is("all is 7 or less", x.seen(0), 32767);
        Due.is("seen of strip 1", x.seen(1), MownWords.BAD);
        Due.is("seen of strip -1", x.seen(-1), MownWords.BAD);
    }

    private static void readsAndOff() {
        MownWords x = with("01");
        Due.is("nothing is read", x.reads(0), MownWords.NONE);
        Due.is("nothing is 6 off", x.off(0), 6);
        for (int letter = 0; letter < 26; letter++) {
            MownWords y = with("01");
            Due.show(y, 1, y.letter(letter));
            Due.is("letter read " + letter, y.reads(1), letter);
            Due.is("letter off " + letter, y.off(1), 0);
        }
        Due.show(x, 1, x.letter(M) | 2);
        Due.is("as near to m as to n", x.reads(1), M);
        Due.is("one off m", x.off(1), 1);
        Due.show(x, 1, 23);
        Due.is("three off", x.off(1), 3);
        Due.is("as far off as may be", x.reads(1), T);
        x.set(2, 2);
        Due.is("too far off now", x.reads(1), MownWords.NONE);
        Due.is("three off all the same", x.off(1), 3);
        x.set(2, 7);
        Due.show(x, 1, 80);
        Due.is("seven off", x.off(1), 7);
        Due.is("seven may be off", x.reads(1), 2);
        Due.show(x, 1, 7280);
        Due.is("eight off", x.off(1), 8);
        Due.is("eight are too far", x.reads(1), MownWords.NONE);
        Due.is("reads of strip 2", x.reads(2), MownWords.BAD);
        Due.is("off of strip 2", x.off(2), MownWords.BAD);
        Due.is("off of strip -1", x.off(-1), MownWords.BAD);
    }

    private static void mow() {
        MownWords x = with("23");
        Due.is("mow h", x.mow(0, H), 55);
        Due.is("mow a over h", x.mow(0, A), MownWords.NOT);
        Due.is("what is refused leaves a cell", x.grass(0, 1), 5);
        Due.is("and no hay", x.hay(2), 55);
        Due.is("h stands", x.reads(0), H);
        Due.is("mow letter 26", x.mow(0, 26), MownWords.BAD);
        Due.is("mow letter -1", x.mow(0, -1), MownWords.BAD);
        Due.is("mow strip 2", x.mow(2, H), MownWords.BAD);
        x.weeks(1);
        Due.is("grass of 2 has not grown", x.mow(0, H), MownWords.NOT);
        x.set(0, 1);
        x.weeks(1);
        Due.is("grass of 3 has grown", x.mow(0, H), 33);
        Due.is("hay of owner 2", x.hay(2), 88);
        Due.is("hay of owner 3", x.hay(3), 0);
    }

    private static void cut() {
        MownWords x = with("4");
        Due.is("all is mown", x.cut(0), 75);
        Due.is("all is seen", x.seen(0), 32767);
        Due.is("nothing is left to mow", x.cut(0), 0);
        x.weeks(1);
        Due.is("grass of 2 stays", x.cut(0), 0);
        Due.is("it stays at 2", x.grass(0, 7), 2);
        x.fault(0, 7, 1);
        Due.is("but a weed is mown", x.cut(0), 9);
        Due.is("hay of cuts", x.hay(4), 84);
        Due.is("cut of strip 1", x.cut(1), MownWords.BAD);
        Due.is("cut of strip -1", x.cut(-1), MownWords.BAD);
    }

    private static void fault() {
        MownWords x = with("4");
        Due.is("a cow", x.fault(0, 3, 0), 5);
        Due.is("it ate", x.grass(0, 3), 0);
        Due.is("no hay by a cow", x.hay(4), 0);
        Due.is("a weed", x.fault(0, 3, 1), 0);
        Due.is("it grew", x.grass(0, 3), 9);
        Due.is("a cow again", x.fault(0, 3, 0), 9);
        Due.is("fault 2", x.fault(0, 3, 2), MownWords.BAD);
        Due.is("fault -1", x.fault(0, 3, -1), MownWords.BAD);
        Due.is("fault at cell 15", x.fault(0, 15, 0), MownWords.BAD);
        Due.is("fault at strip 1", x.fault(1, 0, 0), MownWords.BAD);
    }

    private static void weeks() {
        MownWords x = with("01");
        Due.is("a week", x.weeks(1), 0);
        Due.is("grass of a week", x.grass(0, 0), 7);
        x.mow(0, T);
        Due.is("nine at most", x.weeks(1), 23);
        Due.is("grass is nine", x.grass(0, 14), 9);
        Due.is("mown grass is two", x.grass(0, 0), 2);
        Due.is("four weeks", x.weeks(4), 30);
        x.set(0, 0);
        x.cut(0);
        Due.is("nothing grows", x.weeks(30), 15);
        Due.is("weeks 0", x.weeks(0), MownWords.BAD);
        Due.is("weeks 31", x.weeks(31), MownWords.BAD);
        Due.is("weeks -1", x.weeks(-1), MownWords.BAD);
        Due.is("weeks of no meadow", new MownWords().weeks(1), 0);
    }

    private static void hay() {
        MownWords x = with("353");
        x.mow(0, I);
        x.mow(2, T);
        x.cut(1);
        Due.is("hay of two strips", x.hay(3), 45 + 35);
        Due.is("hay of one strip", x.hay(5), 75);
        Due.is("hay of none", x.hay(0), 0);
        Due.is("hay of all", x.count(3), 155);
        MownWords y = with("0");
        y.cut(0);
        Due.is("hay of all by owner 0", y.count(3), 75);
        Due.is("hay of owner 6", x.hay(6), MownWords.BAD);
        Due.is("hay of owner -1", x.hay(-1), MownWords.BAD);
    }
}
