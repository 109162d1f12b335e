/** Promises 29 to 32: how surely letters read, fading, short forms. */
public final class OddsTest {
    private static final int BAD = MownWords.BAD, NOT = MownWords.NOT, NONE = MownWords.NONE;

    public static void main(String[] args) {
        sure();
        taken();
        againstAllWays();
        ofOneObject();
        fades();
        brief();
        Due.end();
    }

    private static void sure() {
        MownWords x = new MownWords();
        for (int letter = 0; letter < 26; letter++) {
            Due.is("sure without mistakes " + letter, x.sure(letter, 0), 1000);
        }
        x.set(2, 0);
        Due.is("all 15 cells right: 15/16 to the 15", x.sure(0, 1), 379);
        Due.is("7/8 to the 15", x.sure(25, 2), 134);
        Due.is("half to the 15", x.sure(25, 8), 0);
        x.set(2, 7);
        Due.is("sure of h", x.sure(7, 3), 410);
        Due.is("c 9", x.sure(0, 9), BAD);
        Due.is("c -1", x.sure(0, -1), BAD);
        Due.is("letter 26", x.sure(26, 0), BAD);
        Due.is("letter -1", x.sure(-1, 0), BAD);
    }

    private static void taken() {
        MownWords x = new MownWords();
        Due.is("for no other one", x.taken(4, 0), NONE);
        x.set(2, 0);
        Due.is("h is one cell off k, m and w", x.taken(7, 1), 10);
        Due.is("i is two cells off t", x.taken(8, 1), 19);
        Due.is("all are as likely by halves", x.taken(8, 8), 0);
        Due.is("but itself", x.taken(0, 8), 1);
        Due.is("c 9", x.taken(0, 9), BAD);
        Due.is("c -1", x.taken(0, -1), BAD);
        Due.is("letter 26", x.taken(26, 1), BAD);
        Due.is("letter -1", x.taken(-1, 1), BAD);
    }

    private static void againstAllWays() {
        for (int far = 0; far <= 7; far++) {
            MownWords x = new MownWords();
            Model model = new Model();
            Due.is("far", x.set(2, far), model.set(2, far));
            for (int letter = 0; letter < 26; letter++) {
                int c = (letter + far) % 9;
                String at = letter + " by " + c + ", far " + far;
                Due.is("sure " + at, x.sure(letter, c), model.sure(letter, c));
                Due.is("taken " + at, x.taken(letter, c), model.taken(letter, c));
            }
        }
    }

    /** What was counted for another LETTER, another FAR, another c, or before an IMAGE came back, is not taken for this one. */
    private static void ofOneObject() {
        MownWords x = new MownWords();
        Model model = new Model();
        x.image();
        for (int turn = 0; turn < 120; turn++) {
            int far = turn / 3 * 5 % 8;
            int letter = turn / 2 * 7 % 26;
            int c = turn * 4 % 9;
            String at = letter + " by " + c + ", far " + far + " of one object";
            x.set(2, far);
            model.set(2, far);
            Due.is("sure " + at, x.sure(letter, c), model.sure(letter, c));
            Due.is("taken " + at, x.taken(letter, c), model.taken(letter, c));
        }
        x.set(2, 0);
        Due.is("taken by far 0", x.taken(0, 1), 13);
        Due.is("sure by far 0", x.sure(0, 1), 379);
        x.restore();
        Due.is("sure by far 3 again", x.sure(0, 1), 964);
    }

    private static void fades() {
        MownWords x = new MownWords();
        Due.strips(x, "01");
        Due.words(x, "it,t,i");
        Due.is("not written", x.fades(0, 0), NOT);
        x.write(0, 0);
        Due.is("grass of 2 is seen, of 4 not", x.fades(0, 0), 2);
        Due.is("it is written still", x.written(0, 0), 1);
        x.set(0, 1);
        Due.is("three weeks", x.fades(0, 0), 3);
        x.weeks(2);
        Due.is("one more", x.fades(0, 0), 1);
        x.set(1, 8);
        x.set(2, 7);
        Due.is("all is seen", x.fades(0, 0), NOT);
        x.set(1, 3);
        x.set(2, 3);
        x.set(0, 0);
        Due.is("nothing grows", x.fades(0, 0), NONE);
        x.set(0, 5);
        Due.is("fast", x.fades(0, 0), 1);
        Due.is("no room", x.fades(0, 1), NOT);
        Due.is("word 3", x.fades(3, 0), BAD);
        Due.is("strip 2", x.fades(0, 2), BAD);
        Due.is("word -1", x.fades(-1, 0), BAD);
        Due.is("strip -1", x.fades(0, -1), BAD);
        slowly();
    }

    private static void slowly() {
        MownWords x = new MownWords();
        Due.strips(x, "0");
        Due.words(x, "t,i");
        x.mow(0, 19);
        x.fault(0, 12, 1);
        x.fault(0, 14, 1);
        x.set(1, 8);
        x.set(0, 1);
        x.weeks(4);
        x.fault(0, 12, 1);
        x.fault(0, 14, 1);
        x.fault(0, 3, 1);
        for (int cell : new int[] {5, 6, 8, 9, 11}) {
            x.fault(0, cell, 1);
        }
        Due.is("t at 4, low 8: five weeks", x.fades(0, 0), 5);
        x.fault(0, 12, 0);
        x.fault(0, 14, 0);
        Due.is("i now", x.fades(0, 0), NOT);
        Due.is("i as long as t, the rest stays longer", x.fades(1, 0), 5);
    }

    private static int brief(String words, int word) {
        MownWords x = new MownWords();
        Due.words(x, words);
        return x.brief(word);
    }

    private static void brief() {
        Due.is("a word alone", brief("mown", 0), 1);
        Due.is("mow is in mown", brief("mow,mown", 0), NONE);
        Due.is("n is in mown alone", brief("mow,mown", 1), 8);
        Due.is("two letters, in order", brief("it,ti", 0), 3);
        Due.is("and the other way", brief("it,ti", 1), 3);
        Due.is("others may be between", brief("abc,axc,xab", 0), 6);
        Due.is("a set of 3 is less than one of 5", brief("aba,ab,c", 0), 4 + 1);
        Due.is("of two alike letters the first", brief("tt,a", 0), 1);
        Due.is("twice is more than once", brief("tt,t", 0), 3);
        Due.is("an alike row does not count", brief("own,own,ow", 0), 4);
        Due.is("nor for the other one", brief("own,own,ow", 1), 4);
        Due.is("a row unlike in its first letter alone counts", brief("aba,cba", 0), 3);
        Due.is("a row unlike in its last letter alone counts", brief("aba,abc", 0), 4 + 1);
        Due.is("all letters", brief("abc,ab,bc,ac", 0), 7);
        Due.is("the least set of two", brief("abcd,acd,bcd", 0), 3);
        Due.is("word 1", brief("abcd", 1), BAD);
        Due.is("word -1", brief("abcd", -1), BAD);
    }
}
