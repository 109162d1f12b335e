/** The sentences on strips and grass (Terms, promises 1 to 13) that name a boundary case: a test for each. */
public final class EdgesOfStripsTest {
    private static final int BAD = MownWords.BAD, NOT = MownWords.NOT, FULL = MownWords.FULL, NONE = MownWords.NONE;
    private static final int A = 0, C = 2, J = 9, M = 12, T = 19, Z = 25;
    private static final int MOST = Integer.MAX_VALUE, LEAST = Integer.MIN_VALUE;

    public static void main(String[] args) {
        noMeadowNoWords();
        objectsShareNothing();
        fiveHundredAndTwelveCalls();
        stripsAreNine();
        ownersAreSix();
        cellsAreFifteen();
        grassIsFiveAtFirst();
        grassIsNoughtToNine();
        lettersAreTwentySix();
        settingsAtFirst();
        settingsLeastAndMost();
        growsNoughtToFive();
        lowNoughtToEight();
        fewestCellsFirstLetter();
        lastLetterIsReadToo();
        noneAboveFar();
        offIsToldAllTheSame();
        mownIsItsLetterAlone();
        grassOfTwoHasNotGrown();
        grassOfTwoBesideIsNoMatter();
        allIsMoreThanTwo();
        cowsAndMolesMakeNoHay();
        weedsMakeNine();
        nineAtMost();
        weeksOneToThirty();
        cellsOfNineAreCounted();
        hayIsOfItsOwner();
        hayHasNoEnd();
        Due.end();
    }

    /** "No meadow, no words." */
    private static void noMeadowNoWords() {
        MownWords x = new MownWords();
        for (int what = 0; what <= 3; what++) {
            Due.is("count " + what + " of a new object", x.count(what), 0);
        }
        Due.is("strip 0 of a new object", x.seen(0), BAD);
        Due.is("word 0 of a new object", x.told(0, -1), BAD);
        for (int owner = 0; owner < 6; owner++) {
            Due.is("hay of a new object", x.hay(owner), 0);
            Due.is("feud of a new object", x.feud(owner, (owner + 1) % 6, false), 0);
        }
        Due.is("read of a new object", x.read(-2), 0);
        Due.is("first read of a new object", x.read(0), NONE);
        Due.is("plan of a new object", x.plan(-2), 0);
        Due.is("first planned of a new object", x.plan(0), NONE);
        Due.is("a week of a new object", x.weeks(1), 0);
        Due.is("tape of a new object", x.type('0', 1), 1);
        Due.is("image of a new object", x.restore(), NONE);
        for (int sheet = 0; sheet < 4; sheet++) {
            Due.is("sheet of a new object", x.drop(sheet), MownWords.NULL);
        }
    }

    private static void objectsShareNothing() {
        MownWords x = Due.of("05", "it:7");
        x.set(0, 5);
        x.feud(0, 5, true);
        x.cut(0);
        x.sheet(0, 0, 1);
        x.image();
        Due.type(x, "00");
        MownWords y = new MownWords();
        Due.is("strips of another object", y.count(0), 0);
        Due.is("words of another object", y.count(1), 0);
        Due.is("feuds of another object", y.count(2), 0);
        Due.is("hay of another object", y.count(3), 0);
        Due.is("setting of another object", y.set(0, 0), 2);
        Due.is("sheet of another object", y.drop(0), MownWords.NULL);
        Due.is("image of another object", y.restore(), NONE);
        Due.is("tape of another object", y.type('0', 1), 1);
    }

    /** "An object is used for at most 512 calls": the last of them is answered as any. */
    private static void fiveHundredAndTwelveCalls() {
        MownWords x = new MownWords();
        x.strip(3);
        x.cut(0);
        for (int call = 3; call <= 509; call++) {
            x.fault(0, call % 15, 1);
        }
        Due.is("call 510", x.cut(0), 135);
        Due.is("call 511", x.seen(0), 32767);
        Due.is("call 512", x.hay(3), 210);
    }

    /** "STRIPS 0 .. 8, as they come"; "FULL: 9". */
    private static void stripsAreNine() {
        MownWords x = new MownWords();
        for (int strip = 0; strip <= 8; strip++) {
            Due.is("not there yet: strip " + strip, x.reads(strip), BAD);
            Due.is("strip comes", x.strip(5 - strip % 6), strip);
            Due.is("there: strip " + strip, x.off(strip), 6);
            Due.is("so many", x.count(0), strip + 1);
        }
        Due.is("a tenth", x.strip(0), FULL);
        Due.is("no tenth came", x.count(0), 9);
        Due.is("strip 9", x.seen(9), BAD);
        for (int strip = 0; strip <= 8; strip++) {
            int before = x.hay(5 - strip % 6);
            Due.is("strip " + strip + " is cut", x.cut(strip), 75);
            Due.is("for its owner", x.hay(5 - strip % 6), before + 75);
        }
    }

    /** "each with an OWNER (0 .. 5)". */
    private static void ownersAreSix() {
        MownWords x = new MownWords();
        Due.is("owner 0", x.strip(0), 0);
        Due.is("owner 5", x.strip(5), 1);
        Due.is("owner -1", x.strip(-1), BAD);
        Due.is("owner 6", x.strip(6), BAD);
        Due.is("owner by far", x.strip(MOST), BAD);
        Due.is("owner by far below", x.strip(LEAST), BAD);
        Due.is("two came", x.count(0), 2);
        x.cut(0);
        Due.is("hay of 0", x.hay(0), 75);
        Due.is("hay of 5", x.hay(5), 0);
        x.cut(1);
        Due.is("hay of 5 now", x.hay(5), 75);
        Due.is("hay of owner -1", x.hay(-1), BAD);
        Due.is("hay of owner 6", x.hay(6), BAD);
    }

    /** "15 CELLS". */
    private static void cellsAreFifteen() {
        MownWords x = Due.of("01", "");
        for (int cell = 0; cell < 15; cell++) {
            Due.is("cow at " + cell, x.fault(0, cell, 0), 5);
            Due.is("seen by then", x.seen(0), (1 << cell + 1) - 1);
        }
        Due.is("cell 15", x.grass(0, 15), BAD);
        Due.is("cell -1", x.grass(0, -1), BAD);
        Due.is("fault at cell 15", x.fault(0, 15, 0), BAD);
        Due.is("fault at cell -1", x.fault(0, -1, 0), BAD);
        Due.grass("cows elsewhere", x, 1, Due.all(5));
    }

    /** "GRASS 0 .. 9 (5 at first)": also where another strip was. */
    private static void grassIsFiveAtFirst() {
        MownWords x = Due.of("012", "");
        Due.grass("strips from a text", x, 2, Due.all(5));
        x.cut(0);
        x.cut(2);
        x.fault(1, 14, 1);
        Due.strips(x, "3");
        Due.grass("strips in place of others", x, 0, Due.all(5));
        x.strip(4);
        Due.grass("a strip where another one was", x, 1, Due.all(5));
        x.strip(4);
        Due.grass("and where a mown one was", x, 2, Due.all(5));
        x.image();
        x.strip(2);
        x.cut(3);
        x.restore();
        x.strip(2);
        Due.grass("a strip where one was after the image", x, 3, Due.all(5));
    }

    /** "GRASS 0 .. 9". */
    private static void grassIsNoughtToNine() {
        MownWords x = Due.of("0", "");
        int[] blades = {0, 1, 2, 3, 4, 5, 6, 7, 8, 9, 0, 9, 0, 9, 1};
        Due.sow(x, 0, blades);
        Due.grass("all that can be", x, 0, blades);
        Due.is("a cow on 0", x.fault(0, 0, 0), 0);
        Due.is("it stays 0", x.grass(0, 0), 0);
        Due.is("a weed on 9", x.fault(0, 9, 1), 9);
        Due.is("it stays 9", x.grass(0, 9), 9);
    }

    /** "LETTERS are 0 .. 25 (a .. z), each a set of CELLS". */
    private static void lettersAreTwentySix() {
        MownWords x = Due.of("0", "az");
        Due.is("a", x.letter(0), 23530);
        Due.is("z", x.letter(25), 29351);
        Due.is("letter -1", x.letter(-1), BAD);
        Due.is("letter 26", x.letter(26), BAD);
        Due.is("letter by far", x.letter(MOST), BAD);
        Due.is("letter by far below", x.letter(LEAST), BAD);
        Due.is("a told", x.told(0, 0), A);
        Due.is("z told", x.told(0, 1), Z);
        for (int letter = 0; letter < 26; letter++) {
            MownWords y = Due.of("0", "");
            Due.is("hay of letter " + letter, y.mow(0, letter), 5 * Integer.bitCount(Model.SHAPES[letter]));
            Due.is("cells of letter " + letter, y.seen(0), Model.SHAPES[letter]);
            Due.is("set of letter " + letter, y.letter(letter), Model.SHAPES[letter]);
            Due.is("letter " + letter + " reads", y.reads(0), letter);
            Due.is("letter " + letter + " is not off", y.off(0), 0);
        }
    }

    /** "2 at first", "1 LOW (0 .. 8; 2), 2 FAR (0 .. 7; 3), 3 PRICE of hay (0 .. 9; 1)". */
    private static void settingsAtFirst() {
        int[] first = {2, 2, 3, 1};
        for (int what = 0; what < 4; what++) {
            Due.is("setting " + what + " at first", new MownWords().set(what, 0), first[what]);
        }
        MownWords x = Due.of("0", "j:50");
        x.mow(0, T);
        x.weeks(1);
        Due.is("grows 2 at first", x.grass(0, 0), 2);
        Due.is("low is 2 at first", x.seen(0), x.letter(T));
        x.weeks(1);
        Due.is("4 is above it", x.seen(0), 0);
        MownWords y = Due.of("0", "j:50");
        Due.is("price is 1 at first", y.lost(0, 0), 45);
        Due.show(y, 0, 23);
        Due.is("far is 3 at first: three off", y.off(0), 3);
        Due.is("that is not too far", y.reads(0), T);
        Due.show(y, 0, 7);
        Due.is("four off", y.off(0), 4);
        Due.is("that is too far", y.reads(0), NONE);
    }

    /** "0 GROWS (0 .. 5), 1 LOW (0 .. 8), 2 FAR (0 .. 7), 3 PRICE of hay (0 .. 9)". */
    private static void settingsLeastAndMost() {
        int[] most = {5, 8, 7, 9};
        for (int what = 0; what < 4; what++) {
            MownWords x = new MownWords();
            x.set(what, 4);
            Due.is("setting " + what + ": one too many", x.set(what, most[what] + 1), BAD);
            Due.is("setting " + what + ": too many by far", x.set(what, MOST), BAD);
            Due.is("setting " + what + ": -1", x.set(what, -1), BAD);
            Due.is("setting " + what + ": too few by far", x.set(what, LEAST), BAD);
            Due.is("setting " + what + ": most", x.set(what, most[what]), 4);
            Due.is("setting " + what + ": least", x.set(what, 0), most[what]);
            Due.is("setting " + what + ": again", x.set(what, 1), 0);
            for (int other = 0; other < 4; other++) {
                if (other != what) {
                    Due.is("setting " + other + " beside " + what, x.set(other, 3), new int[] {2, 2, 3, 1}[other]);
                }
            }
        }
        MownWords x = new MownWords();
        Due.is("setting -1", x.set(-1, 0), BAD);
        Due.is("setting 4", x.set(4, 0), BAD);
        Due.is("setting by far", x.set(MOST, 0), BAD);
        Due.is("setting by far below", x.set(LEAST, 0), BAD);
    }

    /** "0 GROWS (0 .. 5 a WEEK; 2 at first)". */
    private static void growsNoughtToFive() {
        for (int grows = 0; grows <= 5; grows++) {
            MownWords x = Due.of("0", "");
            x.set(0, grows);
            x.fault(0, 0, 0);
            Due.is("cells of 9 by " + grows, x.weeks(1), 5 + grows >= 9 ? 14 : 0);
            Due.is("grown from 0 by " + grows, x.grass(0, 0), grows);
            Due.is("grown from 5 by " + grows, x.grass(0, 1), Math.min(9, 5 + grows));
        }
    }

    /** "A CELL is SEEN as mown, if its GRASS is LOW or less." */
    private static void lowNoughtToEight() {
        MownWords x = Due.of("0", "");
        Due.sow(x, 0, 0, 1, 2, 3, 4, 5, 6, 7, 8, 9, 9, 9, 9, 9, 9);
        for (int low = 0; low <= 8; low++) {
            x.set(1, low);
            Due.is("seen by low " + low, x.seen(0), (1 << low + 1) - 1);
        }
    }

    /** "the LETTER whose set differs in the fewest CELLS from those SEEN, of like ones the first". */
    private static void fewestCellsFirstLetter() {
        int[] sets = {Model.SHAPES[T] | 1 << 12, Model.SHAPES[10] | 1 << 8 | 1 << 4, 23549 | 2, 35, 0, 32767, 7280, 7504};
        Model model = new Model();
        model.strip(0);
        MownWords x = Due.of("0", "");
        x.set(2, 7);
        model.set(2, 7);
        for (int set : sets) {
            Due.show(x, 0, set);
            for (int cell = 0; cell < 15; cell++) {
                model.fault(0, cell, (set >> cell & 1) == 1 ? 0 : 1);
            }
            Due.is("reads, seen " + set, x.reads(0), model.reads(0));
            Due.is("off, seen " + set, x.off(0), model.off(0));
        }
        Due.show(x, 0, Model.SHAPES[T] | 1 << 12);
        Due.is("one off i and t: i", x.reads(0), 8);
        Due.show(x, 0, 0);
        Due.is("six off j alone", x.reads(0), J);
        Due.show(x, 0, 8);
        Due.is("six off c, s and others: c", x.reads(0), C);
    }

    /** "0 .. 25 (a .. z)": z is read where z and later ones alone are as near. */
    private static void lastLetterIsReadToo() {
        MownWords x = Due.of("0", "");
        for (int cell = 0; cell < 15; cell++) {
            Due.show(x, 0, Model.SHAPES[Z] ^ 1 << cell);
            Due.is("z but for cell " + cell, x.reads(0), Z);
            Due.is("is one off", x.off(0), 1);
        }
    }

    /** "none, if that are more than FAR". */
    private static void noneAboveFar() {
        int[] sets = {4815, 719, 151, 23, 7, 3, 0, 24, 7280};
        MownWords x = Due.of("0", "");
        for (int off = 0; off <= 8; off++) {
            Due.show(x, 0, sets[off]);
            Due.is("off", x.off(0), off);
            for (int far = 0; far <= 7; far++) {
                x.set(2, far);
                Due.is("off " + off + ", far " + far + ": none", x.reads(0) == NONE ? 1 : 0, off > far ? 1 : 0);
            }
        }
    }

    /** "OFF: in how many": also if it reads as none. */
    private static void offIsToldAllTheSame() {
        MownWords x = Due.of("0", "");
        Due.is("fresh grass is six off", x.off(0), 6);
        x.set(2, 0);
        Due.is("and it is by far 0", x.off(0), 6);
        x.mow(0, T);
        Due.is("t is not off", x.off(0), 0);
        Due.is("and reads by far 0", x.reads(0), T);
        x.fault(0, 3, 0);
        Due.is("one is off", x.off(0), 1);
        Due.is("which is too far by 0", x.reads(0), NONE);
    }

    /** "its CELLS become 0, their GRASS is HAY of the OWNER". */
    private static void mownIsItsLetterAlone() {
        MownWords x = Due.of("32", "");
        Due.sow(x, 0, 3, 4, 5, 6, 7, 8, 9, 3, 4, 5, 6, 7, 8, 9, 3);
        Due.is("t: cells 0, 1, 2, 4, 7, 10, 13", x.mow(0, T), 3 + 4 + 5 + 7 + 3 + 6 + 9);
        Due.grass("t is mown", x, 0, 0, 0, 0, 6, 0, 8, 9, 0, 4, 5, 0, 7, 8, 0, 3);
        Due.grass("beside it", x, 1, Due.all(5));
        Due.is("hay of its owner", x.hay(3), 37);
        Due.is("hay of another one", x.hay(2), 0);
    }

    /** "not, if one of them has GRASS of 2 or less (it has not grown)"; "NOT: it has not grown". */
    private static void grassOfTwoHasNotGrown() {
        for (int cell : new int[] {0, 1, 2, 4, 7, 10, 13}) {
            for (int blade = 0; blade <= 3; blade++) {
                MownWords x = Due.of("0", "");
                int[] blades = Due.all(4);
                blades[cell] = blade;
                Due.sow(x, 0, blades);
                Due.is("mow t, cell " + cell + " is " + blade, x.mow(0, T), blade == 3 ? 27 : NOT);
                Due.is("hay then", x.hay(0), blade == 3 ? 27 : 0);
                Due.grass("cell " + cell + " was " + blade, x, 0, blade == 3 ? mown(blades) : blades);
            }
        }
    }

    private static int[] mown(int[] blades) {
        int[] left = blades.clone();
        for (int cell = 0; cell < 15; cell++) {
            left[cell] = (Model.SHAPES[T] >> cell & 1) == 1 ? 0 : left[cell];
        }
        return left;
    }

    /** "if one of them": of its own CELLS, not of the others. */
    private static void grassOfTwoBesideIsNoMatter() {
        MownWords x = Due.of("0", "");
        Due.sow(x, 0, 3, 3, 3, 0, 3, 1, 2, 3, 0, 1, 3, 2, 0, 3, 1);
        Due.is("t has grown", x.mow(0, T), 21);
        Due.grass("what has not grown stays", x, 0, 0, 0, 0, 0, 0, 1, 2, 0, 0, 1, 0, 2, 0, 0, 1);
    }

    /** "TO MOW ALL: all CELLS of more than 2". */
    private static void allIsMoreThanTwo() {
        MownWords x = Due.of("4", "");
        Due.sow(x, 0, 2, 1, 0, 3, 4, 5, 6, 7, 8, 9, 0, 1, 2, 9, 3);
        Due.is("cut", x.cut(0), 3 + 4 + 5 + 6 + 7 + 8 + 9 + 9 + 3);
        Due.grass("after the cut", x, 0, 2, 1, 0, 0, 0, 0, 0, 0, 0, 0, 0, 1, 2, 0, 0);
        Due.is("hay of the cut", x.hay(4), 54);
        Due.is("nothing to cut", x.cut(0), 0);
        Due.is("no more hay", x.hay(4), 54);
        Due.sow(x, 0, 2, 2, 2, 2, 2, 2, 2, 2, 2, 2, 2, 2, 2, 2, 3);
        Due.is("the last cell alone", x.cut(0), 3);
    }

    /** "A COW eats a CELL (0; no HAY), a MOLE too". */
    private static void cowsAndMolesMakeNoHay() {
        MownWords x = Due.of("12", "");
        for (int cell = 0; cell < 15; cell++) {
            Due.is("a cow at " + cell, x.fault(0, cell, 0), 5);
        }
        Due.grass("eaten", x, 0, Due.all(0));
        Due.grass("not eaten", x, 1, Due.all(5));
        Due.is("no hay by cows", x.count(3), 0);
        Due.is("not of the owner either", x.hay(1), 0);
        Due.is("what was 0", x.fault(0, 14, 0), 0);
    }

    /** "a WEED makes it 9". */
    private static void weedsMakeNine() {
        MownWords x = Due.of("1", "");
        int[] blades = {0, 1, 2, 3, 4, 5, 6, 7, 8, 9, 0, 1, 2, 3, 4};
        Due.sow(x, 0, blades);
        for (int cell = 0; cell < 15; cell++) {
            Due.is("a weed at " + cell, x.fault(0, cell, 1), blades[cell]);
        }
        Due.grass("weeds", x, 0, Due.all(9));
        Due.is("what 2", x.fault(0, 0, 2), BAD);
        Due.is("what -1", x.fault(0, 0, -1), BAD);
        Due.is("no hay by weeds", x.count(3), 0);
    }

    /** "all GRASS is GROWS more, 9 at most". */
    private static void nineAtMost() {
        MownWords x = Due.of("00", "");
        Due.sow(x, 0, 0, 1, 2, 3, 4, 5, 6, 7, 8, 9, 3, 4, 5, 6, 7);
        x.set(0, 5);
        Due.is("nine at most", x.weeks(1), 25);
        Due.grass("five more", x, 0, 5, 6, 7, 8, 9, 9, 9, 9, 9, 9, 8, 9, 9, 9, 9);
        Due.grass("from 5 as well", x, 1, 9, 9, 9, 9, 9, 9, 9, 9, 9, 9, 9, 9, 9, 9, 9);
    }

    /** "n WEEKS (1 .. 30)". */
    private static void weeksOneToThirty() {
        MownWords x = Due.of("0", "");
        x.set(0, 1);
        x.cut(0);
        Due.is("no weeks", x.weeks(0), BAD);
        Due.is("31 weeks", x.weeks(31), BAD);
        Due.is("-1 weeks", x.weeks(-1), BAD);
        Due.is("weeks by far", x.weeks(MOST), BAD);
        Due.is("weeks by far below", x.weeks(LEAST), BAD);
        Due.grass("refused weeks", x, 0, Due.all(0));
        Due.is("a week", x.weeks(1), 0);
        Due.is("grass of a week", x.grass(0, 14), 1);
        Due.is("seven weeks", x.weeks(7), 0);
        Due.is("grass of eight weeks", x.grass(0, 0), 8);
        Due.is("thirty weeks", x.weeks(30), 15);
        Due.grass("thirty weeks more", x, 0, Due.all(9));
        x.set(0, 5);
        x.cut(0);
        Due.is("thirty fast weeks", x.weeks(30), 15);
        Due.grass("thirty fast weeks more", x, 0, Due.all(9));
    }

    /** "how many CELLS have GRASS 9 then": of all STRIPS, those too that had it. */
    private static void cellsOfNineAreCounted() {
        MownWords x = Due.of("012345012", "");
        x.set(0, 0);
        Due.is("none", x.weeks(1), 0);
        x.fault(0, 0, 1);
        x.fault(8, 14, 1);
        Due.is("the first and the last", x.weeks(30), 2);
        x.set(0, 3);
        Due.is("eight is not nine", x.weeks(1), 2);
        Due.is("all", x.weeks(1), 135);
        Due.is("all there are, once more", x.weeks(1), 135);
        Due.strips(x, "0");
        Due.is("of those that are there now", x.weeks(2), 15);
    }

    /** "HAY of an OWNER so far": of all STRIPS that are or were the OWNER's. */
    private static void hayIsOfItsOwner() {
        MownWords x = Due.of("055", "");
        x.cut(0);
        x.mow(1, J);
        x.mow(2, J);
        Due.is("hay of 0", x.hay(0), 75);
        Due.is("hay of 5", x.hay(5), 60);
        Due.is("hay of all", x.count(3), 135);
        Due.strips(x, "50");
        Due.is("hay stays with 0", x.hay(0), 75);
        x.cut(0);
        Due.is("strip 0 is of 5 now", x.hay(5), 135);
        Due.is("hay stays, still", x.hay(0), 75);
        Due.is("hay of nobody else", x.hay(1) + x.hay(2) + x.hay(3) + x.hay(4), 0);
    }

    /** No bound is told for HAY. */
    private static void hayHasNoEnd() {
        MownWords x = Due.of("00", "");
        x.set(0, 5);
        int hay = 0;
        for (int turn = 0; turn < 120; turn++) {
            x.weeks(2);
            Due.is("all is 9", x.cut(0), 135);
            Due.is("of both", x.cut(1), 135);
            hay += 270;
            Due.is("hay grows", x.hay(0), hay);
        }
        Due.is("hay of all", x.count(3), 32400);
    }
}
