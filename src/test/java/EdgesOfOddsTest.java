/** The sentences on odds, fading, short forms and images (Terms, promises 29 to 34) that name a boundary case: a test for each. */
public final class EdgesOfOddsTest {
    private static final int BAD = MownWords.BAD, NOT = MownWords.NOT, NONE = MownWords.NONE;
    private static final int MOST = Integer.MAX_VALUE, LEAST = Integer.MIN_VALUE;
    private static final int A = 0, H = 7, I = 8, J = 9, M = 12, N = 13, T = 19, Z = 25;

    public static void main(String[] args) {
        sixteenthsNoughtToEight();
        lettersNoughtTo25();
        sureWithoutMistakes();
        thousandthsAreCut();
        oddsByFar();
        oddsOfAllLetters();
        oddsAreOfNoStrip();
        takenForNoOtherOne();
        takenForTheFirst();
        takenForAnother();
        fadesFromOneOn();
        fadesByTheNinthWeek();
        fadesNotInThirty();
        fadesByAnyLetter();
        fadesIntoAnotherLetter();
        fadesIsNotWritten();
        fadesGrowsNothing();
        briefOfOneLetter();
        briefByFewest();
        briefByTheLeastSet();
        briefInTheirOrder();
        briefOfAlikeRows();
        briefOfSixLetters();
        briefOfNone();
        imageOfAll();
        imageNotOfSheetsAndTape();
        imageOfNothing();
        laterImageCounts();
        imageIsNotWhatIs();
        restoreWithoutImage();
        Due.end();
    }

    /** "c sixteenths (0 .. 8)". */
    private static void sixteenthsNoughtToEight() {
        MownWords x = new MownWords();
        Model model = new Model();
        for (int c = 0; c <= 8; c++) {
            Due.is("sure of t by " + c, x.sure(T, c), model.sure(T, c));
            Due.is("t is taken by " + c, x.taken(T, c), model.taken(T, c));
        }
        for (int c : new int[] {-1, 9, MOST, LEAST}) {
            Due.is("sure by " + c, x.sure(T, c), BAD);
            Due.is("taken by " + c, x.taken(T, c), BAD);
        }
    }

    /** "LETTERS are 0 .. 25": also of odds. */
    private static void lettersNoughtTo25() {
        MownWords x = new MownWords();
        Model model = new Model();
        for (int letter : new int[] {A, Z}) {
            Due.is("sure of " + letter, x.sure(letter, 4), model.sure(letter, 4));
            Due.is("taken is " + letter, x.taken(letter, 4), model.taken(letter, 4));
        }
        for (int letter : new int[] {-1, 26, MOST, LEAST}) {
            Due.is("sure of " + letter, x.sure(letter, 0), BAD);
            Due.is("taken is " + letter, x.taken(letter, 0), BAD);
        }
    }

    /** "thousandths of the odds that a LETTER READS as itself": a thousand, if no CELL is taken for the other. */
    private static void sureWithoutMistakes() {
        for (int far = 0; far <= 7; far++) {
            MownWords x = new MownWords();
            x.set(2, far);
            for (int letter = 0; letter < 26; letter++) {
                Due.is("sure of " + letter + ", far " + far, x.sure(letter, 0), 1000);
                Due.is("taken for none: " + letter + ", far " + far, x.taken(letter, 0), NONE);
            }
        }
    }

    /** "thousandths (cut)": (16 - c)/16 to the 15, by FAR 0. */
    private static void thousandthsAreCut() {
        int[] due = {1000, 379, 134, 44, 13, 3, 0, 0, 0};
        MownWords x = new MownWords();
        x.set(2, 0);
        for (int c = 0; c <= 8; c++) {
            for (int letter = 0; letter < 26; letter++) {
                Due.is("sure of " + letter + " by " + c, x.sure(letter, c), due[c]);
            }
        }
    }

    /** "READS": by FAR as it is now, also if odds were told before. */
    private static void oddsByFar() {
        MownWords x = new MownWords();
        Model model = new Model();
        for (int far : new int[] {3, 0, 7, 1, 6, 2}) {
            x.set(2, far);
            model.set(2, far);
            Due.is("sure of h by far " + far, x.sure(H, 3), model.sure(H, 3));
            Due.is("taken is h by far " + far, x.taken(H, 3), model.taken(H, 3));
            Due.is("sure of z by far " + far, x.sure(Z, 8), model.sure(Z, 8));
            Due.is("taken is z by far " + far, x.taken(Z, 8), model.taken(Z, 8));
        }
    }

    /** "SURE", "TAKEN FOR": of each LETTER, by the least and the most that c and FAR may be, and FAR of one LETTER in turn. */
    private static void oddsOfAllLetters() {
        for (int letter = 0; letter < 26; letter++) {
            MownWords x = new MownWords();
            Model model = new Model();
            for (int far : new int[] {3, 4, 7, 6, 0, 1}) {
                x.set(2, far);
                model.set(2, far);
                for (int c = 1; c <= 8; c += 7) {
                    String at = " " + letter + " by " + c + ", far " + far;
                    Due.is("sure of" + at, x.sure(letter, c), model.sure(letter, c));
                    Due.is("taken is" + at, x.taken(letter, c), model.taken(letter, c));
                }
            }
        }
    }

    private static void oddsAreOfNoStrip() {
        MownWords x = new MownWords();
        int sure = x.sure(H, 2);
        int taken = x.taken(H, 2);
        x.strip(0);
        x.mow(0, H);
        x.set(1, 8);
        Due.is("sure with a strip", x.sure(H, 2), sure);
        Due.is("taken with a strip", x.taken(H, 2), taken);
        Due.is("all is still seen", x.seen(0), 32767);
    }

    /** "NONE: for no other one". */
    private static void takenForNoOtherOne() {
        MownWords x = new MownWords();
        Due.is("by no mistake", x.taken(T, 0), NONE);
        Due.is("by some", x.taken(T, 1), I);
        x.set(2, 0);
        Due.is("by no mistake and far 0", x.taken(T, 0), NONE);
        Due.is("by some and far 0", x.taken(T, 1), I);
    }

    /** "of like ones the first". */
    private static void takenForTheFirst() {
        MownWords x = new MownWords();
        x.set(2, 0);
        Due.is("k, m and w are one off h", x.taken(H, 1), 10);
        for (int letter = 0; letter < 26; letter++) {
            Due.is("all are as likely by 8 sixteenths: " + letter, x.taken(letter, 8), letter == A ? 1 : A);
        }
    }

    /** "that one of the other LETTERS": not itself, as which it may still be likelier. */
    private static void takenForAnother() {
        MownWords x = new MownWords();
        Model model = new Model();
        for (int letter = 0; letter < 26; letter++) {
            int taken = x.taken(letter, 1);
            Due.is("letter " + letter + " is taken for", taken, model.taken(letter, 1));
            Due.is("not for itself: " + letter, taken == letter ? 1 : 0, 0);
        }
    }

    /** "by how many WEEKS more (1 .. 30) a WORD is no more". */
    private static void fadesFromOneOn() {
        MownWords x = Due.of("0", "t");
        x.mow(0, T);
        for (int grows = 1; grows <= 5; grows++) {
            x.set(0, grows);
            int[] due = {0, 3, 2, 1, 1, 1};
            Due.is("fades, grows " + grows, x.fades(0, 0), due[grows]);
        }
        x.set(0, 1);
        x.set(1, 0);
        Due.is("low 0: by the first week", x.fades(0, 0), 1);
        x.set(1, 1);
        Due.is("low 1: by the second", x.fades(0, 0), 2);
        x.weeks(1);
        Due.is("low 1, a week later", x.fades(0, 0), 1);
    }

    /** "(1 .. 30)": what fades is gone by the ninth week, as no GRASS is seen then. */
    private static void fadesByTheNinthWeek() {
        MownWords x = Due.of("0", "t");
        x.set(0, 0);
        Due.show(x, 0, x.letter(T));
        x.set(1, 8);
        x.set(0, 1);
        Due.is("nine weeks", x.fades(0, 0), 9);
        x.weeks(8);
        Due.is("one more", x.fades(0, 0), 1);
        Due.is("written yet", x.written(0, 0), 1);
        x.weeks(1);
        Due.is("faded", x.written(0, 0), 0);
        Due.is("it does not fade", x.fades(0, 0), NOT);
    }

    /** "NONE: not in 30". */
    private static void fadesNotInThirty() {
        MownWords x = Due.of("0", "t,j");
        x.mow(0, T);
        x.set(0, 0);
        Due.is("nothing grows", x.fades(0, 0), NONE);
        x.set(0, 5);
        Due.is("it fades", x.fades(0, 0), 1);
        MownWords y = Due.of("0", "t,j");
        y.set(2, 5);
        Due.is("nothing seen is no j by far 5", y.fades(1, 0), NOT);
        y.set(2, 6);
        Due.is("nothing seen is j by far 6, for ever", y.fades(1, 0), NONE);
        y.mow(0, J);
        Due.is("j mown is j for ever", y.fades(1, 0), NONE);
    }

    private static void fadesByAnyLetter() {
        for (int strip = 0; strip < 3; strip++) {
            MownWords x = Due.of("000", "ttt");
            x.set(0, 1);
            x.set(1, 6);
            for (int at = 0; at < 3; at++) {
                Due.show(x, at, x.letter(T));
            }
            Due.is("all at once", x.fades(0, 0), 7);
            int[] blades = new int[15];
            for (int cell = 0; cell < 15; cell++) {
                blades[cell] = (x.letter(T) >> cell & 1) == 1 ? 2 : 9;
            }
            Due.sow(x, strip, blades);
            Due.is("one is higher: " + strip, x.fades(0, 0), 5);
        }
    }

    /** "is no more": also if another LETTER is read instead. */
    private static void fadesIntoAnotherLetter() {
        MownWords x = Due.of("0", "t,i");
        int[] blades = Due.all(9);
        for (int cell : new int[] {0, 1, 2, 4, 7, 10, 13}) {
            blades[cell] = 0;
        }
        blades[12] = 4;
        blades[14] = 4;
        blades[9] = 3;
        Due.sow(x, 0, blades);
        x.set(0, 1);
        x.set(1, 5);
        Due.is("i reads", x.reads(0), I);
        Due.is("i fades into t", x.fades(1, 0), 2);
        Due.is("t is not there yet", x.fades(0, 0), NOT);
        x.weeks(2);
        Due.is("t is now", x.fades(0, 0), 4);
    }

    /** "NOT: it is not WRITTEN". */
    private static void fadesIsNotWritten() {
        MownWords x = Due.of("01", "tt,t");
        x.mow(0, T);
        Due.is("half of it", x.fades(0, 0), NOT);
        Due.is("no room", x.fades(0, 1), NOT);
        Due.is("t is", x.fades(1, 0), 2);
        Due.is("and not at 1", x.fades(1, 1), NOT);
        Due.is("strip 2", x.fades(1, 2), BAD);
        Due.is("strip -1", x.fades(1, -1), BAD);
        Due.is("word 2", x.fades(2, 0), BAD);
        Due.is("word -1", x.fades(-1, 0), BAD);
        Due.is("by far", x.fades(MOST, 0), BAD);
        Due.is("by far below", x.fades(0, LEAST), BAD);
    }

    private static void fadesGrowsNothing() {
        MownWords x = Due.of("0", "t");
        x.mow(0, T);
        x.fades(0, 0);
        Due.is("grass is as it was", x.grass(0, 0), 0);
        Due.is("and what is not mown", x.grass(0, 14), 5);
        Due.is("written still", x.written(0, 0), 1);
    }

    /** "the fewest of its LETTERS (1 at least)". */
    private static void briefOfOneLetter() {
        Due.is("a word alone", Due.of("", "mown").brief(0), 1);
        Due.is("a letter alone", Due.of("", "m").brief(0), 1);
        Due.is("n alone is its own", Due.of("", "mow,mown").brief(1), 8);
        Due.is("a letter that is in another one", Due.of("", "m,mown").brief(0), NONE);
    }

    private static void briefByFewest() {
        MownWords x = Due.of("", "abcd,bcd,acd,abd");
        Due.is("two do not do: three", x.brief(0), 7);
        MownWords y = Due.of("", "abcd,bcd,acd");
        Due.is("two do", y.brief(0), 3);
        MownWords z = Due.of("", "abcd,bc,a");
        Due.is("the last alone, though a greater set", z.brief(0), 8);
    }

    /** "of like ones the least set (bit k: LETTER k)". */
    private static void briefByTheLeastSet() {
        Due.is("bit 0", Due.of("", "abc,xyz").brief(0), 1);
        Due.is("bit 1", Due.of("", "abc,axz").brief(0), 2);
        Due.is("bit 2", Due.of("", "abc,bxa").brief(0), 4);
        Due.is("bits 0 and 1", Due.of("", "abc,cab,bca").brief(0), 4 + 1);
        Due.is("bits 1 and 2", Due.of("", "abc,acxab").brief(0), 4 + 2);
        Due.is("of two a the first", Due.of("", "xaya,xy").brief(0), 2);
    }

    /** "in their order": others may be between. */
    private static void briefInTheirOrder() {
        Due.is("it and ti", Due.of("", "it,ti").brief(0), 3);
        Due.is("ti and it", Due.of("", "it,ti").brief(1), 3);
        Due.is("i, then t, with others between", Due.of("", "it,ixxt").brief(0), NONE);
        Due.is("twice is not once", Due.of("", "tt,xt").brief(0), 3);
        Due.is("but once is in twice", Due.of("", "t,xtt").brief(0), NONE);
        Due.is("the last letter of another one counts", Due.of("", "ab,cdefga").brief(0), 2);
        Due.is("its first, too", Due.of("", "ab,bcdefg").brief(0), 1);
        Due.is("behind the last there is nothing", Due.of("", "ab,xb,xa").brief(0), 3);
    }

    /** "(of an alike row of LETTERS: in any other one that is unlike)". */
    private static void briefOfAlikeRows() {
        MownWords x = Due.of("", "it:1,it:2,i,it");
        Due.is("t of the first", x.brief(0), 2);
        Due.is("t of the second", x.brief(1), 2);
        Due.is("t of the fourth", x.brief(3), 2);
        Due.is("i is in all", x.brief(2), NONE);
        Due.is("alike ones alone", Due.of("", "it,it").brief(0), 1);
        Due.is("a longer one is unlike", Due.of("", "it,itt").brief(0), NONE);
        Due.is("so is the shorter one", Due.of("", "it,itt").brief(1), 6);
    }

    private static void briefOfSixLetters() {
        MownWords x = Due.of("", "abcdef,bcdef,acdef,abdef,abcef,abcdf,abcde");
        Due.is("all six", x.brief(0), 63);
        for (int word = 1; word < 7; word++) {
            Due.is("word " + word + " is in the first", x.brief(word), NONE);
        }
        Due.is("the sixth alone", Due.of("", "abcdef,abcde").brief(0), 32);
        MownWords y = Due.of("", "a,b,c,d,e,f,g,h,i,j");
        Due.is("word 9", y.brief(9), 1);
        Due.is("word 0", y.brief(0), 1);
        Due.is("word 10", y.brief(10), BAD);
    }

    /** "NONE: there is none." */
    private static void briefOfNone() {
        MownWords x = Due.of("", "ow,mow,own,o");
        Due.is("ow is in mow", x.brief(0), NONE);
        Due.is("m of mow", x.brief(1), 1);
        Due.is("n of own", x.brief(2), 4);
        Due.is("o is in all", x.brief(3), NONE);
        Due.is("word 4", x.brief(4), BAD);
        Due.is("word -1", x.brief(-1), BAD);
        Due.is("word by far", x.brief(MOST), BAD);
        Due.is("no words", new MownWords().brief(0), BAD);
    }

    /** "All but SHEETS, THE TAPE is kept as an IMAGE", "All is as it was then". */
    private static void imageOfAll() {
        MownWords x = Due.of("012345012", "mow:7,it:8,jot,a,b,c,d,e,f,z:9");
        x.set(0, 1);
        x.set(1, 3);
        x.set(2, 4);
        x.set(3, 5);
        x.feud(0, 5, true);
        x.feud(3, 4, true);
        x.mow(8, N);
        x.fault(7, 14, 1);
        Due.is("an image", x.image(), 1);
        Due.strips(x, "5");
        x.cut(0);
        x.feud(0, 5, false);
        x.feud(1, 2, true);
        x.pay(9, 55);
        x.pay(0, 56);
        for (int what = 0; what < 4; what++) {
            x.set(what, 0);
        }
        Due.is("as it was", x.restore(), 1);
        Due.is("strips", x.count(0), 9);
        Due.is("words", x.count(1), 10);
        Due.is("feuds", x.count(2), 2);
        Due.is("hay", x.count(3), 60);
        Due.is("hay of 2", x.hay(2), 60);
        Due.is("hay of 5", x.hay(5), 0);
        Due.is("letter on 8", x.seen(8), x.letter(N));
        Due.is("weed on 7", x.grass(7, 14), 9);
        Due.grass("strip 0", x, 0, Due.all(5));
        Due.is("pay of word 9", x.told(9, -2), 9);
        Due.is("pay of word 0", x.told(0, -2), 7);
        Due.is("letter of word 2", x.told(2, 2), T);
        Due.is("feud of 0 and 5", x.feud(0, 5, true), 1);
        Due.is("feud of 3 and 4", x.feud(4, 3, true), 1);
        Due.is("no feud of 1 and 2", x.feud(1, 2, true), 0);
        int[] settings = {1, 3, 4, 5};
        for (int what = 0; what < 4; what++) {
            Due.is("setting " + what, x.set(what, 0), settings[what]);
        }
        x.cut(0);
        Due.is("owner of strip 0", x.hay(0), 75);
        Due.is("a tenth strip has no room", x.strip(0), MownWords.FULL);
        Due.is("an eleventh word has none", Due.words(x, "y"), MownWords.FULL);
    }

    private static void imageNotOfSheetsAndTape() {
        MownWords x = new MownWords();
        x.sheet(0, 1, 2);
        x.sheet(1, 0, 24);
        x.item(1, 0, 0, 10);
        Due.type(x, "01");
        x.image();
        x.drop(0);
        x.sheet(2, 2, 5);
        x.item(1, 0, 0, 9);
        Due.type(x, "23");
        Due.is("as it was", x.restore(), 1);
        Due.is("sheet 0 is dropped still", x.drop(0), MownWords.NULL);
        Due.is("the tape has four still", x.strips(), 4);
        Due.is("sheet 1 has its later item", x.sow(0, 1, 0, 0), 9);
        Due.is("sheet 2 is there still", x.drop(2), 5);
        Due.type(x, "5");
        x.restore();
        Due.is("no strips now", x.count(0), 0);
        Due.is("the tape has one still", x.type('5', 1), 2);
    }

    /** "No meadow, no words" may be kept, too. */
    private static void imageOfNothing() {
        MownWords x = new MownWords();
        Due.is("an image", x.image(), 1);
        x.strip(0);
        Due.words(x, "it");
        x.cut(0);
        Due.is("nothing again", x.restore(), 1);
        for (int what = 0; what < 4; what++) {
            Due.is("count " + what, x.count(what), 0);
        }
        Due.is("strip 0", x.seen(0), BAD);
        Due.is("word 0", x.told(0, 0), BAD);
    }

    /** "as it was then": when the last IMAGE was kept. */
    private static void laterImageCounts() {
        MownWords x = new MownWords();
        x.image();
        x.strip(0);
        Due.is("another image", x.image(), 1);
        x.strip(1);
        x.restore();
        Due.is("one strip", x.count(0), 1);
        x.restore();
        Due.is("once more", x.count(0), 1);
        x.image();
        x.image();
        Due.is("the same twice", x.restore(), 1);
        Due.is("one strip still", x.count(0), 1);
    }

    /** What is done behind an IMAGE, or behind its return, is not done to it. */
    private static void imageIsNotWhatIs() {
        MownWords x = Due.of("0", "it:5");
        x.image();
        for (int turn = 0; turn < 2; turn++) {
            x.cut(0);
            x.pay(0, 6);
            x.feud(0, 1, true);
            x.set(2, 0);
            x.restore();
            Due.grass("turn " + turn, x, 0, Due.all(5));
            Due.is("hay", x.hay(0), 0);
            Due.is("pay", x.told(0, -2), 5);
            Due.is("feuds", x.count(2), 0);
            Due.is("far", x.set(2, 3), 3);
        }
    }

    /** "NONE: there is none." */
    private static void restoreWithoutImage() {
        MownWords x = Due.of("0", "it:5");
        x.mow(0, M);
        Due.is("no image", x.restore(), NONE);
        Due.is("all is as it was", x.seen(0), x.letter(M));
        Due.is("words, too", x.count(1), 1);
        Due.is("one image", x.image(), 1);
        Due.is("there is one", x.restore(), 1);
        Due.is("there is still", x.restore(), 1);
    }
}
