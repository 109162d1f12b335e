import java.util.function.IntUnaryOperator;

/** The sentences on WORDS in the row (Terms, promises 21 to 28) that name a boundary case: a test for each. */
public final class EdgesOfWordsTest {
    private static final int BAD = MownWords.BAD, NOT = MownWords.NOT, NONE = MownWords.NONE;
    private static final int MOST = Integer.MAX_VALUE, LEAST = Integer.MIN_VALUE;
    private static final int H = 7, I = 8, J = 9, O = 14, T = 19, U = 20;

    public static void main(String[] args) {
        writtenToTheLastStrip();
        writtenByEachLetter();
        feudsDoNotReadOrLose();
        readPlaces();
        readNineTimes();
        readNoneOnAnother();
        readForMost();
        readFirstAtTheLesserStrip();
        readTheLesserWord();
        readAndSoOn();
        readGoesOn();
        readAtTheLastWeek();
        rowsOfFewerStrips();
        nearestOfThoseThatHaveRoom();
        nearestOfLikeOnesTheLeast();
        nearestInAllLetters();
        mayToTheLastStrip();
        mayWithoutFeud();
        mayByGrassOfThree();
        mayAsItWouldRead();
        mayByFar();
        lostAboveTwo();
        lostByPrice();
        lostHasRoom();
        planPlaces();
        planNineTimes();
        planForMostGain();
        planForNothing();
        planOfLikeOnes();
        planWithoutLoss();
        planOfWordsThatMay();
        writeMowsItAll();
        writeNot();
        sharesByOnes();
        sharesOfLost();
        sharesOfAllItsStrips();
        shareNot();
        Due.end();
    }

    private static void row(String name, int sum, int[] due, IntUnaryOperator row) {
        Due.is(name + ": sum", row.applyAsInt(-1), sum);
        Due.is(name + ": how many", row.applyAsInt(-2), due.length);
        for (int i = 0; i <= 8; i++) {
            Due.is(name + ": " + i, row.applyAsInt(i), i < due.length ? due[i] : NONE);
        }
    }

    private static void read(String name, MownWords x, int sum, int... due) {
        row("read, " + name, sum, due, x::read);
    }

    private static void plan(String name, MownWords x, int sum, int... due) {
        row("plan, " + name, sum, due, x::plan);
    }

    /** "if that and those behind it, as many as its LETTERS, READ as these". */
    private static void writtenToTheLastStrip() {
        String row = "ititititi";
        for (int strips = 1; strips <= 9; strips++) {
            MownWords x = Due.of("012345012".substring(0, strips), "i,it,iti,itit,ititi,ititit");
            for (int strip = 0; strip < strips; strip++) {
                x.mow(strip, row.charAt(strip) == 'i' ? I : T);
            }
            for (int word = 0; word < 6; word++) {
                for (int strip = 0; strip < strips; strip++) {
                    int due = strip % 2 == 0 && strip + word + 1 <= strips ? 1 : 0;
                    Due.is("word " + word + " at " + strip + " of " + strips, x.written(word, strip), due);
                }
                Due.is("word " + word + " at " + strips, x.written(word, strips), BAD);
                Due.is("word " + word + " at -1", x.written(word, -1), BAD);
            }
        }
        MownWords x = Due.of("0", "t");
        Due.is("word 1", x.written(1, 0), BAD);
        Due.is("word -1", x.written(-1, 0), BAD);
        Due.is("word by far", x.written(MOST, 0), BAD);
        Due.is("strip by far", x.written(0, MOST), BAD);
        Due.is("strip by far below", x.written(0, LEAST), BAD);
        Due.is("no letter reads", x.written(0, 0), 0);
    }

    /** "READ as these": each of them, and none that stood behind the last STRIP before others came in its place. */
    private static void writtenByEachLetter() {
        for (int wrong = -1; wrong < 6; wrong++) {
            MownWords x = Due.of("012345", "tttttt");
            for (int strip = 0; strip < 6; strip++) {
                x.mow(strip, strip == wrong ? H : T);
            }
            Due.is("all t but " + wrong, x.written(0, 0), wrong < 0 ? 1 : 0);
        }
        MownWords x = Due.of("01", "it");
        x.mow(0, I);
        x.mow(1, T);
        Due.is("it", x.written(0, 0), 1);
        Due.strips(x, "0");
        x.mow(0, I);
        Due.is("t is there no more", x.written(0, 0), 0);
        Due.is("nor any hay", x.lost(0, 0), NOT);
    }

    /** "no WORD lies on STRIPS of both" is asked where "no FEUD is in it" stands: of WORDS that MAY be mown. */
    private static void feudsDoNotReadOrLose() {
        MownWords x = Due.of("01", "it:99");
        x.mow(0, I);
        x.mow(1, T);
        int lost = x.lost(0, 0);
        int share = x.share(0, 0, 0);
        x.feud(0, 1, true);
        Due.is("written", x.written(0, 0), 1);
        read("in spite of a feud", x, 99, 0);
        Due.is("nearest", x.nearest(0, 0), 0);
        Due.is("lost", x.lost(0, 0), lost);
        Due.is("share", x.share(0, 0, 0), share);
        Due.is("fades", x.fades(0, 0), 2);
    }

    /** "all PAY (-1), how many (-2), the i-th as 10 STRIP and WORD. BAD: i above 8; NONE: there is no such one." */
    private static void readPlaces() {
        MownWords x = Due.of("0123", "i,t:7");
        x.mow(1, T);
        x.mow(3, T);
        read("two t", x, 14, 11, 31);
        Due.is("read 9", x.read(9), BAD);
        Due.is("read -3", x.read(-3), BAD);
        Due.is("read by far", x.read(MOST), BAD);
        Due.is("read by far below", x.read(LEAST), BAD);
        read("no meadow", new MownWords(), 0);
        read("no words", Due.of("0", ""), 0);
        read("nothing written", Due.of("01", "it"), 0);
        read("no strips", Due.of("", "it"), 0);
        Due.is("read 9 of nothing", new MownWords().read(9), BAD);
        Due.is("read -3 of nothing", new MownWords().read(-3), BAD);
    }

    private static void readNineTimes() {
        MownWords x = Due.of("012345012", "a,b,c,d,e,f,g,h,i,t:99");
        for (int strip = 0; strip < 9; strip++) {
            x.mow(strip, T);
        }
        read("word 9 on nine strips", x, 891, 9, 19, 29, 39, 49, 59, 69, 79, 89);
    }

    /** "WORDS that are WRITTEN in the row, none on a STRIP of another one". */
    private static void readNoneOnAnother() {
        MownWords x = Due.of("01234", "it:5,ti:5,titi:9");
        for (int strip = 0; strip < 5; strip++) {
            x.mow(strip, strip % 2 == 0 ? T : I);
        }
        read("t it it", x, 10, 1, 21);
        x.pay(2, 10);
        read("titi for as much is behind ti", x, 10, 1, 21);
        x.pay(2, 11);
        read("titi for more", x, 11, 2);
        x.pay(0, 6);
        read("it twice", x, 12, 10, 30);
        x.pay(1, 6);
        read("ti as well", x, 12, 1, 21);
    }

    /** "those by which all PAY is most". */
    private static void readForMost() {
        MownWords x = Due.of("012", "ttt:29,tt:20,t:9");
        for (int strip = 0; strip < 3; strip++) {
            x.mow(strip, T);
        }
        read("tt and t are as much as ttt, which is the lesser word", x, 29, 0);
        x.pay(1, 21);
        read("tt and t", x, 30, 1, 22);
        x.pay(2, 10);
        read("and still", x, 31, 1, 22);
        x.pay(2, 11);
        read("t thrice is more", x, 33, 2, 12, 22);
        x.pay(2, 0);
        x.pay(1, 0);
        read("ttt alone", x, 29, 0);
    }

    /** "of like ones by which the first is at the lesser STRIP". */
    private static void readFirstAtTheLesserStrip() {
        MownWords x = Due.of("012", "it:5,ti:5");
        x.mow(0, T);
        x.mow(1, I);
        x.mow(2, T);
        read("ti at 0, though it is the lesser word", x, 5, 1);
        x.pay(0, 6);
        read("it for more", x, 6, 10);
    }

    /** "then is the lesser WORD". */
    private static void readTheLesserWord() {
        MownWords x = Due.of("01", "it:5,i:2,it:5,t:3");
        x.mow(0, I);
        x.mow(1, T);
        read("it, the first one", x, 5, 0);
        x.pay(0, 4);
        read("i and t", x, 5, 1, 13);
        x.pay(1, 1);
        read("it, the other one", x, 5, 2);
    }

    /** "and so on". */
    private static void readAndSoOn() {
        MownWords x = Due.of("0120", "t:5,ii:4,i:4,ii:4");
        x.mow(0, T);
        x.mow(1, I);
        x.mow(2, I);
        x.mow(3, T);
        read("i twice is more", x, 18, 0, 12, 22, 30);
        x.pay(2, 2);
        read("ii is the lesser word of like ones", x, 14, 0, 11, 30);
        x.pay(1, 3);
        read("i twice is as much as the other ii, and before it", x, 14, 0, 12, 22, 30);
        x.pay(2, 1);
        read("the other ii", x, 14, 0, 13, 30);
    }

    /** "(a row that ends is behind one that goes on)". */
    private static void readGoesOn() {
        MownWords x = Due.of("012", "i:5,t:0");
        x.mow(0, I);
        x.mow(1, T);
        read("t for nothing", x, 5, 0, 11);
        x.pay(0, 0);
        read("all for nothing", x, 0, 0, 11);
        MownWords y = Due.of("012", "t:0");
        y.mow(0, T);
        y.mow(2, T);
        read("nothing but for nothing", y, 0, 0, 20);
    }

    /** "WRITTEN": READ too is what reads now, though it fades by the next WEEK. */
    private static void readAtTheLastWeek() {
        MownWords x = Due.of("01", "it:7");
        x.write(0, 0);
        x.weeks(1);
        Due.is("it fades by the next week", x.fades(0, 0), 1);
        read("it still", x, 7, 0);
        x.weeks(1);
        read("it no more", x, 0);
    }

    /** "in the row": what was read or planned where now no STRIPS are does not count. */
    private static void rowsOfFewerStrips() {
        for (int strips = 1; strips <= 9; strips++) {
            MownWords x = Due.of("000000000", "t:50,it:80");
            Due.is("nine planned", x.plan(-2), 9);
            for (int strip = 0; strip < 9; strip++) {
                x.mow(strip, T);
            }
            Due.is("nine read", x.read(-1), 450);
            Due.strips(x, "000000000".substring(0, strips));
            Due.is("read of " + strips, x.read(-1), 0);
            Due.is("planned of " + strips, x.plan(-1), 10 * strips);
            for (int i = 0; i <= 8; i++) {
                Due.is("planned of " + strips + ": " + i, x.plan(i), i < strips ? 10 * i : NONE);
            }
        }
    }

    /** "of WORDS that have room from there on"; "NONE: none has room". */
    private static void nearestOfThoseThatHaveRoom() {
        MownWords x = Due.of("012345", "tttttt,ttt,hh");
        int[] nearest = {0, 1, 1, 1, 2, NONE};
        for (int strip = 0; strip < 6; strip++) {
            x.mow(strip, T);
        }
        int[] off = {0, 0, 0, 0, 2 * Integer.bitCount(x.letter(T) ^ x.letter(H)), NONE};
        for (int strip = 0; strip < 6; strip++) {
            Due.is("nearest at " + strip, x.nearest(strip, 0), nearest[strip]);
            Due.is("off at " + strip, x.nearest(strip, 1), off[strip]);
        }
        Due.is("strip 6", x.nearest(6, 0), BAD);
        Due.is("strip -1", x.nearest(-1, 0), BAD);
        Due.is("strip by far", x.nearest(MOST, 0), BAD);
        Due.is("what -1", x.nearest(0, -1), BAD);
        Due.is("what 2", x.nearest(0, 2), BAD);
        Due.is("what 2 where none has room", x.nearest(5, 2), BAD);
        Due.is("no words", Due.of("0", "").nearest(0, 0), NONE);
        Due.is("no words, off", Due.of("0", "").nearest(0, 1), NONE);
        Due.is("no strips", Due.of("", "t").nearest(0, 0), BAD);
    }

    /** "of like ones the least". */
    private static void nearestOfLikeOnesTheLeast() {
        MownWords x = Due.of("0", "m,w,k,h,h");
        x.mow(0, H);
        Due.is("h, the first one", x.nearest(0, 0), 3);
        Due.is("h is not off", x.nearest(0, 1), 0);
        MownWords y = Due.of("0", "x,m,w,k");
        y.mow(0, H);
        Due.is("m, w and k are one off h", y.nearest(0, 0), 1);
        Due.is("one off", y.nearest(0, 1), 1);
        y.fault(0, 10, 0);
        Due.is("w now", y.nearest(0, 0), 2);
    }

    /** "whose CELLS (all LETTERS) differ from those SEEN": in the sum. */
    private static void nearestInAllLetters() {
        MownWords x = Due.of("01", "tt,ti,m");
        x.mow(0, T);
        x.mow(1, I);
        Due.is("ti", x.nearest(0, 0), 1);
        Due.is("ti is not off", x.nearest(0, 1), 0);
        x.fault(0, 12, 0);
        x.fault(0, 14, 0);
        Due.is("two off in the first letter", x.nearest(0, 1), 2);
        x.fault(1, 3, 0);
        Due.is("and one in the second", x.nearest(0, 1), 3);
        Due.is("still ti", x.nearest(0, 0), 1);
        x.set(1, 8);
        Due.is("all seen: m alone differs in fewest", x.nearest(0, 0), 2);
        Due.is("in three", x.nearest(0, 1), 3);
    }

    /** "if it has room". */
    private static void mayToTheLastStrip() {
        for (int strips = 1; strips <= 9; strips++) {
            MownWords x = Due.of("012345012".substring(0, strips), "h,hh,hhh,hhhh,hhhhh,hhhhhh");
            for (int word = 0; word < 6; word++) {
                for (int strip = 0; strip < strips; strip++) {
                    boolean room = strip + word + 1 <= strips;
                    Due.is("may " + word + " at " + strip + " of " + strips, x.may(word, strip), room ? 1 : 0);
                    Due.is("lost by " + word + " at " + strip, x.lost(word, strip), room ? 20 * (word + 1) : NOT);
                }
                Due.is("may " + word + " at " + strips, x.may(word, strips), BAD);
                Due.is("may " + word + " at -1", x.may(word, -1), BAD);
            }
            Due.is("may word 6", x.may(6, 0), BAD);
            Due.is("may word -1", x.may(-1, 0), BAD);
        }
    }

    /** "no FEUD is in it". */
    private static void mayWithoutFeud() {
        MownWords x = Due.of("012340", "hhhhhh,hhh,h,hhhhh");
        for (int one = 0; one < 6; one++) {
            for (int other = 0; other < 6; other++) {
                if (one != other) {
                    x.feud(one, other, true);
                    String name = "feud of " + one + " and " + other;
                    boolean five = one == 5 || other == 5;
                    Due.is(name + " in six", x.may(0, 0), five ? 1 : 0);
                    Due.is(name + " in the first three", x.may(1, 0), one < 3 && other < 3 ? 0 : 1);
                    boolean last = (one == 0 || one == 3 || one == 4) && (other == 0 || other == 3 || other == 4);
                    Due.is(name + " in the last three", x.may(1, 3), last ? 0 : 1);
                    Due.is(name + " in one", x.may(2, 0), 1);
                    x.feud(one, other, false);
                }
            }
        }
        x.feud(0, 5, true);
        Due.is("an owner twice is no feud", x.may(0, 0), 1);
    }

    /** "each of its LETTERS could be mown there now": GRASS of 3 or more. */
    private static void mayByGrassOfThree() {
        for (int strip = 0; strip < 2; strip++) {
            for (int cell = 0; cell < 15; cell++) {
                MownWords x = Due.of("00", "ti");
                int[] blades = Due.all(4);
                blades[cell] = 3;
                Due.sow(x, strip, blades);
                Due.is("grass of 3 at " + strip + ", " + cell, x.may(0, 0), 1);
                blades[cell] = 2;
                Due.sow(x, strip, blades);
                x.set(1, 0);
                int set = x.letter(strip == 0 ? T : I);
                Due.is("grass of 2, not seen, at " + strip + ", " + cell, x.may(0, 0), (set >> cell & 1) == 1 ? 0 : 1);
                Due.is("and to write", x.write(0, 0), (set >> cell & 1) == 1 ? NOT : hayOf(x.letter(T), x.letter(I), strip, cell));
            }
        }
    }

    private static int hayOf(int first, int second, int strip, int cell) {
        int low = (strip == 0 ? first : second) >> cell & 1;
        return (strip == 0 ? 4 : 5) * Integer.bitCount(first) + (strip == 0 ? 5 : 4) * Integer.bitCount(second) - 2 * low;
    }

    /** "and would READ as itself then (all other CELLS as they are)". */
    private static void mayAsItWouldRead() {
        MownWords x = Due.of("0", "t,i,h,m");
        x.fault(0, 12, 0);
        Due.is("t and one of i: as near to i, which comes first", x.may(0, 0), 0);
        Due.is("i could not be mown", x.may(1, 0), 0);
        x.fault(0, 12, 1);
        x.fault(0, 4, 0);
        Due.is("h and 4 is m", x.may(2, 0), 0);
        x.fault(0, 4, 1);
        x.fault(0, 13, 0);
        Due.is("h and 13 is h", x.may(2, 0), 1);
        Due.is("m and 13 is m", x.may(3, 0), 1);
        x.set(1, 8);
        Due.sow(x, 0, 9, 9, 9, 9, 8, 9, 9, 9, 9, 9, 9, 9, 9, 9, 9);
        Due.is("8 is seen by low 8", x.may(2, 0), 0);
        x.set(1, 7);
        Due.is("and not by low 7", x.may(2, 0), 1);
    }

    /** "would READ as itself": by FAR. */
    private static void mayByFar() {
        MownWords x = Due.of("0", "t");
        int[] others = {3, 5, 6};
        for (int off = 0; off <= 3; off++) {
            for (int far = 0; far <= 7; far++) {
                x.set(2, far);
                Due.is("t and " + off + " others, far " + far, x.may(0, 0), off <= far ? 1 : 0);
            }
            if (off < 3) {
                x.fault(0, others[off], 0);
            }
        }
    }

    /** "the GRASS of all CELLS there of more than 2 that are not in its LETTERS". */
    private static void lostAboveTwo() {
        for (int cell = 0; cell < 15; cell++) {
            boolean in = (Model.SHAPES[T] >> cell & 1) == 1;
            for (int blade : new int[] {0, 2, 3, 9}) {
                MownWords x = Due.of("01", "t,tt");
                int[] blades = Due.all(2);
                blades[cell] = blade;
                Due.sow(x, 0, blades);
                int due = in || blade <= 2 ? 0 : blade;
                Due.is("lost, cell " + cell + " is " + blade, x.lost(0, 0), due);
                Due.is("and on the strip behind", x.lost(1, 0), due + 40);
                Due.is("on that alone", x.lost(0, 1), 40);
            }
        }
    }

    /** "PRICE times the GRASS". */
    private static void lostByPrice() {
        MownWords x = Due.of("012345", "jjjjjj,j");
        for (int strip = 0; strip < 6; strip++) {
            for (int cell = 0; cell < 15; cell++) {
                x.fault(strip, cell, 1);
            }
        }
        for (int price = 0; price <= 9; price++) {
            x.set(3, price);
            Due.is("one by price " + price, x.lost(1, 5), price * 81);
            Due.is("six by price " + price, x.lost(0, 0), price * 486);
        }
    }

    /** "NOT: it has no room". */
    private static void lostHasRoom() {
        MownWords x = Due.of("012", "iii,i,iiii");
        Due.is("three of three", x.lost(0, 0), 90);
        Due.is("three of two", x.lost(0, 1), NOT);
        Due.is("the last", x.lost(1, 2), 30);
        Due.is("four of three", x.lost(2, 0), NOT);
        Due.is("strip 3", x.lost(1, 3), BAD);
        Due.is("strip -1", x.lost(1, -1), BAD);
        Due.is("word 3", x.lost(3, 0), BAD);
        Due.is("word -1", x.lost(-1, 0), BAD);
    }

    /** "GAIN (-1), how many WORDS (-2), the i-th as 10 STRIP and WORD. BAD: i above 8; NONE: there is no such one." */
    private static void planPlaces() {
        MownWords x = Due.of("012", "i:9,h:25");
        x.feud(0, 1, true);
        plan("h thrice", x, 15, 1, 11, 21);
        Due.is("plan 9", x.plan(9), BAD);
        Due.is("plan -3", x.plan(-3), BAD);
        Due.is("plan by far", x.plan(MOST), BAD);
        Due.is("plan by far below", x.plan(LEAST), BAD);
        plan("no meadow", new MownWords(), 0);
        plan("no words", Due.of("0", ""), 0);
        plan("no strips", Due.of("", "h:99"), 0);
        Due.is("plan 9 of nothing", new MownWords().plan(9), BAD);
        Due.is("plan -3 of nothing", new MownWords().plan(-3), BAD);
    }

    /** "WORDS (each as often as it takes)". */
    private static void planNineTimes() {
        MownWords x = Due.of("012345012", "a,b,c,d,e,f,g,o,i,h:99");
        plan("word 9 on nine strips", x, 9 * 79, 9, 19, 29, 39, 49, 59, 69, 79, 89);
    }

    /** "for most GAIN together". */
    private static void planForMostGain() {
        MownWords x = Due.of("012", "hhh:89,hh:60,h:29");
        plan("as much: the lesser word", x, 29, 0);
        x.pay(1, 61);
        plan("hh and h", x, 30, 1, 22);
        x.pay(2, 31);
        plan("h thrice", x, 33, 2, 12, 22);
        x.pay(0, 94);
        plan("hhh", x, 34, 0);
        x.set(3, 2);
        plan("nothing by price 2", x, 0);
    }

    /** "(none: 0)". */
    private static void planForNothing() {
        MownWords x = Due.of("0", "h:19");
        plan("one less than lost", x, 0);
        x.pay(0, 20);
        plan("as much as lost", x, 0, 0);
        x.pay(0, 21);
        plan("one more than lost", x, 1, 0);
        x.mow(0, H);
        plan("may not", x, 0);
    }

    /** "of like ones as for READ". */
    private static void planOfLikeOnes() {
        MownWords x = Due.of("012", "hh:45,h:22,hh:45");
        x.pay(1, 0);
        plan("hh at 0, the first one", x, 5, 0);
        x.pay(0, 44);
        plan("the other hh at 0", x, 5, 2);
        x.pay(1, 25);
        plan("h thrice", x, 15, 1, 11, 21);
        x.pay(0, 50);
        plan("hh is the lesser word of like ones", x, 15, 0, 21);
        MownWords y = Due.of("01", "h:21,h:21");
        y.fault(0, 4, 0);
        plan("h may not at 0, where it is m", y, 1, 10);
    }

    /** "for most GAIN together": a WORD that is paid less than is lost makes it less, one that is paid as much does not. */
    private static void planWithoutLoss() {
        MownWords x = Due.of("01", "h:19,hh:40,it:70");
        plan("h is one less than lost, hh as much", x, 0, 1);
        MownWords y = Due.of("012", "h:19,m:16");
        plan("m thrice", y, 3, 1, 11, 21);
        y.fault(1, 1, 0);
        y.fault(1, 13, 0);
        plan("h at 1 is paid more than is lost now, m still more", y, 13, 1, 11, 21);
    }

    /** "WORDS that MAY be mown". */
    private static void planOfWordsThatMay() {
        MownWords x = Due.of("010", "hh:99,h:21");
        plan("hh and h", x, 60, 0, 21);
        x.feud(0, 1, true);
        plan("a feud", x, 3, 1, 11, 21);
        x.fault(1, 7, 0);
        plan("a cell of it eaten", x, 2, 1, 21);
        x.set(2, 0);
        x.fault(0, 1, 0);
        plan("it would not read", x, 1, 21);
    }

    /** "A WORD is mown at a STRIP: its HAY." */
    private static void writeMowsItAll() {
        MownWords x = Due.of("01234", "jot");
        for (int cell = 0; cell < 15; cell++) {
            x.fault(4, cell, 1);
        }
        Due.is("to the last strip", x.write(0, 2), 5 * 6 + 5 * 8 + 9 * 7);
        Due.is("j", x.seen(2), x.letter(J));
        Due.is("o", x.seen(3), x.letter(O));
        Due.is("t", x.seen(4), x.letter(T));
        Due.is("nothing before", x.seen(1), 0);
        Due.is("hay of 2", x.hay(2), 30);
        Due.is("hay of 3", x.hay(3), 40);
        Due.is("hay of 4", x.hay(4), 63);
        Due.is("what is not mown", x.grass(4, 3), 9);
        Due.is("written", x.written(0, 2), 1);
    }

    /** "NOT: it MAY not". */
    private static void writeNot() {
        MownWords x = Due.of("0123", "jot,j");
        Due.is("no room", x.write(0, 2), NOT);
        x.feud(1, 3, true);
        Due.is("a feud of the first and the last", x.write(0, 1), NOT);
        x.feud(1, 3, false);
        x.fault(3, 13, 0);
        Due.is("the last has not grown", x.write(0, 1), NOT);
        x.fault(3, 13, 1);
        x.fault(3, 12, 0);
        Due.is("the last would not read", x.write(0, 1), NOT);
        Due.is("no hay", x.count(3), 0);
        Due.grass("the first is as it was", x, 1, Due.all(5));
        x.fault(3, 12, 1);
        Due.is("it may", x.write(0, 1), 30 + 40 + 39);
        Due.is("word 2", x.write(2, 0), BAD);
        Due.is("word -1", x.write(-1, 0), BAD);
        Due.is("strip 4", x.write(1, 4), BAD);
        Due.is("strip -1", x.write(1, -1), BAD);
    }

    /** "the like part (cut), the first ones 1 more as far as it goes". */
    private static void sharesByOnes() {
        for (int length = 1; length <= 6; length++) {
            MownWords x = Due.of("012345", "tttttt".substring(0, length));
            x.set(3, 0);
            for (int pay = 0; pay <= 13; pay++) {
                x.pay(0, pay);
                int[] shares = new int[6];
                for (int coin = 0; coin < pay; coin++) {
                    shares[coin % length]++;
                }
                for (int owner = 0; owner < 6; owner++) {
                    Due.is("share of " + owner + " of " + pay + " for " + length, x.share(0, 0, owner), shares[owner]);
                }
            }
            Due.is("99", x.pay(0, 99), 13);
            Due.is("the last one's of 99", x.share(0, 0, length - 1), 99 / length);
            Due.is("one behind it", x.share(0, 0, length % 6), length == 6 ? 17 : 0);
        }
    }

    /** "each STRIP gets what is LOST on it". */
    private static void sharesOfLost() {
        MownWords x = Due.of("012", "tti:99");
        x.fault(1, 3, 0);
        x.fault(1, 14, 1);
        x.set(3, 0);
        Due.is("33 for each", x.share(0, 0, 1), 33);
        x.set(3, 1);
        Due.is("lost in all", x.lost(0, 0), 40 + 39 + 30 - 0);
        Due.is("which is more than 99", x.share(0, 0, 0), NOT);
        x.fault(2, 3, 0);
        x.fault(2, 5, 0);
        Due.is("lost in all now", x.lost(0, 0), 40 + 39 + 20);
        Due.is("just 40", x.share(0, 0, 0), 40);
        Due.is("just 39", x.share(0, 0, 1), 39);
        Due.is("just 20", x.share(0, 0, 2), 20);
        x.fault(2, 6, 0);
        Due.is("two for the first", x.share(0, 0, 0), 42);
        Due.is("two for the second", x.share(0, 0, 1), 41);
        Due.is("one for the third", x.share(0, 0, 2), 16);
    }

    /** "of an OWNER all its STRIPS there together". */
    private static void sharesOfAllItsStrips() {
        MownWords x = Due.of("00100", "ttt:50");
        x.set(3, 0);
        Due.is("0 has the first two", x.share(0, 0, 0), 34);
        Due.is("1 has the last", x.share(0, 0, 1), 16);
        Due.is("0 has the ends", x.share(0, 1, 0), 33);
        Due.is("1 has the middle", x.share(0, 1, 1), 17);
        Due.is("1 has the first", x.share(0, 2, 1), 17);
        Due.is("0 has the last two", x.share(0, 2, 0), 33);
        Due.is("5 has none", x.share(0, 0, 5), 0);
        Due.is("strip 3 has no room", x.share(0, 3, 0), NOT);
    }

    /** "NOT: it has no room, PAY is less than LOST". */
    private static void shareNot() {
        MownWords x = Due.of("01", "h:20,hhh:99");
        Due.is("pay is lost", x.share(0, 0, 0), 20);
        Due.is("and none of another one", x.share(0, 0, 1), 0);
        x.pay(0, 19);
        Due.is("pay is less than lost", x.share(0, 0, 0), NOT);
        Due.is("by one who is not there", x.share(0, 0, 1), NOT);
        Due.is("no room", x.share(1, 0, 0), NOT);
        Due.is("owner 6, pay is less", x.share(0, 0, 6), BAD);
        Due.is("owner -1, no room", x.share(1, 0, -1), BAD);
        Due.is("strip 2", x.share(0, 2, 0), BAD);
        Due.is("strip -1", x.share(0, -1, 0), BAD);
        Due.is("word 2", x.share(2, 0, 0), BAD);
        Due.is("word -1", x.share(-1, 0, 0), BAD);
        Due.is("owner 5", Due.of("5", "h:21").share(0, 0, 5), 21);
        MownWords y = Due.of("0", "u:25");
        Due.is("all is lost", y.lost(0, 0), 5 * (15 - Integer.bitCount(y.letter(U))));
        Due.is("and just paid", y.share(0, 0, 0), 25);
    }
}
