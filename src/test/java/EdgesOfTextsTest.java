/** The sentences on THE TAPE, on texts, WORDS and FEUDS told (Terms, promises 14 to 20) that name a boundary case: a test for each. */
public final class EdgesOfTextsTest {
    private static final int BAD = MownWords.BAD, FULL = MownWords.FULL, NONE = MownWords.NONE;
    private static final int MOST = Integer.MAX_VALUE, LEAST = Integer.MIN_VALUE;
    private static final String BLANKS = "                                                                                ";

    public static void main(String[] args) {
        oneToEightBytes();
        bytesFrom32To126();
        highestByteFirst();
        bytesAboveDoNotCount();
        tapeOfEighty();
        stripsOneToNine();
        ownersNoughtToFive();
        stripsInPlaceOfThoseTold();
        stripFaults();
        tapeIsEmptyAfterStrips();
        wordsOneToFour();
        lettersOneToSix();
        lettersAToZ();
        numbers();
        zerosAhead();
        numbersAbove99();
        blanksEndNumbers();
        blanksDoNotCount();
        wordFaults();
        wordsComeToo();
        wordsAreTen();
        faultBeforeFull();
        tapeIsEmptyAfterWords();
        nothingBehindTheTape();
        lettersTold();
        payNoughtTo99();
        payIsTenAtFirst();
        feudsOfTwo();
        allFeuds();
        feudsStay();
        counts();
        Due.end();
    }

    /** "The n lowest bytes (1 .. 8) of w"; "BAD: n". */
    private static void oneToEightBytes() {
        MownWords x = new MownWords();
        Due.is("no byte", x.type(0x3132333435363738L, 0), BAD);
        Due.is("nine bytes", x.type(0x3132333435363738L, 9), BAD);
        Due.is("-1 bytes", x.type(0x3132333435363738L, -1), BAD);
        Due.is("bytes by far", x.type(0x3132333435363738L, MOST), BAD);
        Due.is("bytes by far below", x.type(0x3132333435363738L, LEAST), BAD);
        Due.is("one byte", x.type(0x3132333435363730L, 1), 1);
        Due.is("eight bytes", x.type(0x3031323334353031L, 8), 9);
        Due.is("those nine came", x.strips(), 9);
    }

    /** "BAD: a byte not 32 .. 126". */
    private static void bytesFrom32To126() {
        for (int sign = 0; sign < 256; sign++) {
            boolean stands = sign >= 32 && sign <= 126;
            MownWords x = new MownWords();
            Due.is("byte " + sign, x.type(sign, 1), stands ? 1 : BAD);
            Due.is("byte " + sign + " ahead of 7", x.type((long) sign << 56 | 0x31313131313131L, 8), stands ? 9 : BAD);
            Due.is("byte " + sign + " in the middle", x.type(0x310031L | sign << 8, 3), stands ? 12 : BAD);
            Due.is("nothing comes by a bad one", x.type('0', 1), stands ? 13 : 1);
        }
    }

    /** "of these the highest first". */
    private static void highestByteFirst() {
        MownWords x = new MownWords();
        x.type(0x616263L, 3);
        x.type(0x64652C7A79787776L, 8);
        Due.is("two words", x.words(), 2);
        for (int i = 0; i < 5; i++) {
            Due.is("letter " + i, x.told(0, i), i);
            Due.is("letter " + i + " of the other", x.told(1, i), 25 - i);
        }
    }

    private static void bytesAboveDoNotCount() {
        for (int n = 1; n < 8; n++) {
            MownWords x = new MownWords();
            Due.is(n + " of eight", x.type(-1L << 8 * n | 0x61616161616161L & (1L << 8 * n) - 1, n), n);
            Due.is("the next one is bad", x.type(-1L << 8 * n | 0x61616161616161L & (1L << 8 * n) - 1, n + 1), BAD);
        }
    }

    /** "how many it has"; "FULL: 80". */
    private static void tapeOfEighty() {
        for (int n = 1; n <= 8; n++) {
            for (int room = 0; room <= 8; room++) {
                MownWords x = new MownWords();
                Due.is("tape", Due.type(x, BLANKS.substring(room)), 80 - room);
                Due.is(n + " where " + room + " have room", x.type(0x2020202020202020L, n), n <= room ? 80 - room + n : FULL);
                Due.is("its end", x.words(), -20 - (n <= room ? 80 - room + n : 80 - room));
                Due.is("it is empty then", x.type('a', 1), 1);
            }
        }
        MownWords x = new MownWords();
        Due.type(x, BLANKS.substring(1) + "3");
        Due.is("full", x.type('3', 1), FULL);
        Due.is("a bad byte for a full tape", x.type(31, 1), BAD);
        Due.is("bad n for a full tape", x.type('3', 9), BAD);
        Due.is("the eightieth counts", x.strips(), 1);
    }

    /** "STRIPS are a TEXT: 1 to 9 OWNERS". */
    private static void stripsOneToNine() {
        for (int n = 1; n <= 9; n++) {
            MownWords x = new MownWords();
            Due.is(n + " strips", Due.strips(x, "012345012".substring(0, n)), n);
            Due.is("so many are there", x.count(0), n);
            Due.is("the last", x.seen(n - 1), 0);
            Due.is("no more", x.seen(n), BAD);
        }
        MownWords x = Due.of("01", "");
        Due.is("none", x.strips(), -20);
        Due.is("blanks alone", Due.strips(x, "  "), -22);
        Due.is("ten", Due.strips(x, "0123450123"), -29);
        Due.is("two stay", x.count(0), 2);
    }

    /** "OWNERS (digits 0 .. 5)". */
    private static void ownersNoughtToFive() {
        for (int sign = 33; sign <= 126; sign++) {
            boolean stands = sign >= '0' && sign <= '5';
            MownWords x = new MownWords();
            x.type('2' << 8 | sign, 2);
            Due.is("owner by sign " + sign, x.strips(), stands ? 2 : -21);
            if (stands) {
                x.cut(1);
                Due.is("hay of its owner", x.hay(sign - '0'), 75);
            }
        }
    }

    /** "in place of those told"; "(HAY stays)". */
    private static void stripsInPlaceOfThoseTold() {
        MownWords x = Due.of("444444444", "");
        x.cut(0);
        x.cut(8);
        Due.is("one in place of nine", Due.strips(x, "1"), 1);
        Due.is("one", x.count(0), 1);
        Due.is("hay stays", x.hay(4), 150);
        Due.grass("fresh", x, 0, Due.all(5));
        Due.is("strip 1 is none", x.off(1), BAD);
        Due.is("the next strip is 1", x.strip(2), 1);
        Due.is("nine in place of two", Due.strips(x, "000000003"), 9);
        x.cut(8);
        Due.is("the ninth is of 3", x.hay(3), 75);
        Due.is("one more has no room", x.strip(0), FULL);
    }

    private static void stripFault(String text, int place) {
        MownWords x = Due.of("55", "");
        x.cut(1);
        Due.is("strips of '" + text + "'", Due.strips(x, text), -20 - place);
        Due.is("those told stay, by '" + text + "'", x.count(0), 2);
        Due.is("their grass, too", x.seen(0) * 32768 + x.seen(1), 32767);
        x.cut(0);
        Due.is("their owners, too", x.hay(5), 150);
    }

    /** "FAULTS: -20 less the place of the first byte that can't stand there (the end: how many bytes there are)". */
    private static void stripFaults() {
        stripFault("", 0);
        stripFault(" ", 1);
        stripFault(BLANKS, 80);
        stripFault("6", 0);
        stripFault("  6", 2);
        stripFault("0,1", 1);
        stripFault("0 1 x 7", 4);
        stripFault("012345678", 6);
        stripFault("01234501 2 3", 11);
        stripFault("0123450120x", 9);
        stripFault("-1", 0);
    }

    /** "THE TAPE, which is empty then (whatever is answered)": by strips. */
    private static void tapeIsEmptyAfterStrips() {
        MownWords x = new MownWords();
        for (String text : new String[] {"0", "x", "", "0123450123"}) {
            Due.strips(x, text);
            Due.is("empty after '" + text + "'", x.type('5', 1), 1);
            Due.is("it has but that one", x.strips(), 1);
        }
    }

    /** "WORDS are a TEXT: 1 to 4 with , between". */
    private static void wordsOneToFour() {
        MownWords x = new MownWords();
        Due.is("one", Due.words(x, "a"), 1);
        Due.is("two", Due.words(x, "a,b"), 2);
        Due.is("three", Due.words(x, "a,b:1,c"), 3);
        Due.is("four", Due.words(x, "a,b,c,d:99"), 4);
        fault("a,b,c,d,e", 7);
        fault("a,b,c,d,", 7);
        fault("a,b,c,d:1,e", 9);
        fault("a,b,c,d :1 ,", 11);
        fault(",", 0);
        fault("a,,b", 2);
        fault("a,", 2);
        fault("a,b,c,", 6);
    }

    /** "1 to 6 letters". */
    private static void lettersOneToSix() {
        for (int n = 1; n <= 6; n++) {
            String word = "zyxwvu".substring(0, n);
            MownWords x = new MownWords();
            Due.is(word, Due.words(x, word), 1);
            Due.is("letters of " + word, x.told(0, -1), n);
            Due.is("the last of " + word, x.told(0, n - 1), 26 - n);
            Due.is("no more of " + word, x.told(0, n), NONE);
            Due.is(word + " among others", Due.words(x, "b," + word + ":5," + word), 3);
            Due.is("letters of it", x.told(2, -1), n);
            Due.is("letters of the last", x.told(3, -1), n);
        }
        fault("zyxwvut", 6);
        fault("a,zyxwvut", 8);
        fault("z y x w v u t", 12);
        fault("zyxwvu t", 7);
        fault(":1", 0);
        fault("a,:1", 2);
    }

    /** "letters a .. z". */
    private static void lettersAToZ() {
        for (int sign = 33; sign <= 126; sign++) {
            boolean stands = sign >= 'a' && sign <= 'z';
            MownWords x = new MownWords();
            x.type(sign, 1);
            Due.is("a word of sign " + sign, x.words(), stands ? 1 : -20);
            x.type('m' << 8 | sign, 2);
            int due = stands ? 1 : sign == ',' || sign == ':' ? -22 : -21;
            Due.is("m and sign " + sign, x.words(), due);
            if (stands) {
                Due.is("letter " + sign, x.told(0, 0), sign - 'a');
                Due.is("letter " + sign + " behind m", x.told(1, 1), sign - 'a');
            }
        }
    }

    /** "perhaps : and a number (PAY; figures)". */
    private static void numbers() {
        for (int pay = 0; pay <= 110; pay++) {
            MownWords x = new MownWords();
            Due.is("pay " + pay, Due.words(x, "ab:" + pay), pay <= 99 ? 1 : -23);
            Due.is("pay told", x.told(0, -2), pay <= 99 ? pay : BAD);
        }
        for (int sign = 33; sign <= 126; sign++) {
            boolean figure = sign >= '0' && sign <= '9';
            MownWords x = new MownWords();
            x.type('a' << 16 | ':' << 8 | sign, 3);
            Due.is("a number of sign " + sign, x.words(), figure ? 1 : -22);
            x.type((long) 'a' << 24 | ':' << 16 | '7' << 8 | sign, 4);
            Due.is("7 and sign " + sign, x.words(), figure ? 1 : sign == ',' ? -24 : -23);
        }
        fault("a:", 2);
        fault("a:,b", 2);
        fault("a::1", 2);
        fault("a:1:1", 3);
        fault("a:-1", 2);
        fault("a:+1", 2);
        fault("a1", 1);
    }

    /** "zeros ahead, too". */
    private static void zerosAhead() {
        String zeros = "00000000000000000000000000000000000";
        MownWords x = new MownWords();
        Due.is("zeros alone", Due.words(x, "a:" + zeros), 1);
        Due.is("are 0", x.told(0, -2), 0);
        Due.is("zeros ahead of 99", Due.words(x, "a:" + zeros + "99,b:007,c:00"), 3);
        Due.is("are 99", x.told(1, -2), 99);
        Due.is("are 7", x.told(2, -2), 7);
        Due.is("are 0, too", x.told(3, -2), 0);
        fault("a:" + zeros + "100", 2);
    }

    /** "of a number that may not be its first byte". */
    private static void numbersAbove99() {
        fault("a:100", 2);
        fault("a:  100", 4);
        fault("a:99,bc:100,d", 8);
        fault("a:4294967297", 2);
        fault("a:18446744073709551617", 2);
        fault("a:99999999999999999999999999999999999999999999999999999999999999999999999999999", 2);
        fault("a:100?", 2);
        fault("a:100,?", 2);
        fault("a:100 1", 2);
        fault("a?100", 1);
    }

    /** "(blanks end a number)". */
    private static void blanksEndNumbers() {
        fault("a:1 2", 4);
        fault("a:1  2", 5);
        fault("a:0 0", 4);
        fault("a:9 9 9", 4);
        fault("a:1 0,b", 4);
        fault("a:10 0", 5);
        MownWords x = new MownWords();
        Due.is("blanks behind numbers", Due.words(x, "a:12  ,b:34 "), 2);
        Due.is("12", x.told(0, -2), 12);
        Due.is("34", x.told(1, -2), 34);
    }

    /** "(blanks do not count)". */
    private static void blanksDoNotCount() {
        MownWords x = new MownWords();
        Due.is("strips with blanks", Due.strips(x, "  0 1  2 "), 3);
        Due.is("words with blanks", Due.words(x, " m o  w :  12 ,  i t , t i:5 "), 3);
        Due.is("mow has three letters", x.told(0, -1), 3);
        Due.is("w is its last", x.told(0, 2), 22);
        Due.is("12 are paid", x.told(0, -2), 12);
        Due.is("it has two", x.told(1, -1), 2);
        Due.is("10 are paid", x.told(1, -2), 10);
        Due.is("5 are paid", x.told(2, -2), 5);
        Due.is("a blank tape but for its last", Due.words(x, BLANKS.substring(1) + "a"), 1);
    }

    private static void fault(String text, int place) {
        MownWords x = Due.of("", "ow:5");
        Due.is("words of '" + text + "'", Due.words(x, text), -20 - place);
        Due.is("none comes of '" + text + "'", x.count(1), 1);
        Due.is("the tape is empty after '" + text + "'", x.type('a', 1), 1);
        Due.is("the next is a word alone after '" + text + "'", x.words(), 1);
        Due.is("it has one letter", x.told(1, -1), 1);
        Due.is("and its own pay", x.told(1, -2), 10);
        Due.is("the other one stays", x.told(0, -1) * 100 + x.told(0, -2), 205);
    }

    /** "the first byte that can't stand there (the end: how many bytes there are)". */
    private static void wordFaults() {
        fault("", 0);
        fault("   ", 3);
        fault(BLANKS, 80);
        fault("a, ", 3);
        fault("a: ", 3);
        fault("a :", 3);
        fault("a ,b ; c", 5);
        fault("a,b,?,;", 4);
        fault("A", 0);
        fault(" A", 1);
        fault("a'b'", 1);
        fault("a:5b", 3);
        fault("a:5 b", 4);
    }

    /** "they come, too". */
    private static void wordsComeToo() {
        MownWords x = Due.of("", "mow:97");
        Due.is("two more", Due.words(x, "own:3,mow"), 2);
        Due.is("three are there", x.count(1), 3);
        Due.is("the first stays", x.told(0, -2), 97);
        Due.is("the second", x.told(1, -2), 3);
        Due.is("an alike one comes, too", x.told(2, -2), 10);
    }

    /** "WORDS 0 .. 9, as they come"; "FULL: not all have room (none comes)". */
    private static void wordsAreTen() {
        for (int have = 6; have <= 10; have++) {
            for (int more = 1; more <= 4; more++) {
                MownWords x = new MownWords();
                Due.words(x, "a,b,c,d");
                Due.words(x, "e,f,g,h".substring(0, Math.min(7, 2 * have - 9)));
                if (have > 8) {
                    Due.words(x, "i,j".substring(0, 2 * have - 17));
                }
                Due.is("words there", x.count(1), have);
                boolean room = have + more <= 10;
                Due.is(more + " more to " + have, Due.words(x, "u:1,v:2,w:3,x:4".substring(0, 4 * more - 1)), room ? more : FULL);
                Due.is("then there are", x.count(1), room ? have + more : have);
                Due.is("the one behind", x.told(have, -2), room ? 1 : BAD);
                Due.is("the one before", x.told(have - 1, 0), have - 1);
            }
        }
        MownWords x = Due.of("", "a,b,c,d");
        Due.words(x, "e,f,g,h");
        Due.words(x, "i,z:99");
        Due.is("word 9", x.told(9, 0), 25);
        Due.is("pay of word 9", x.pay(9, 0), 99);
        Due.is("word 10", x.told(10, 0), BAD);
        Due.is("pay of word 10", x.pay(10, 0), BAD);
    }

    /** "A FAULT (none comes); FULL": the FAULT is named first. */
    private static void faultBeforeFull() {
        MownWords x = Due.of("", "a,b,c,d");
        Due.words(x, "e,f,g,h");
        Due.is("no room for three", Due.words(x, "i,j,k"), FULL);
        Due.is("a fault at their end", Due.words(x, "i,j,k,"), -26);
        Due.is("a number at fault", Due.words(x, "i,j,k:100"), -26);
        Due.is("eight are there", x.count(1), 8);
        Due.words(x, "i,j");
        Due.is("no room for one", Due.words(x, "k"), FULL);
        Due.is("a fault of one", Due.words(x, "k?"), -21);
        Due.is("an empty tape", x.words(), -20);
    }

    /** "THE TAPE, which is empty then (whatever is answered)": by words. */
    private static void tapeIsEmptyAfterWords() {
        MownWords x = new MownWords();
        for (String text : new String[] {"a", "?", "", "a,b,c,d", "e,f", "a,b,c,d", "a,"}) {
            Due.words(x, text);
            Due.is("empty after '" + text + "'", x.type('5', 1), 1);
            Due.is("it has but that one", x.strips(), 1);
        }
        Due.is("seven came", x.count(1), 7);
    }

    /** "empty then": of a longer text that stood there nothing is read behind a shorter one. */
    private static void nothingBehindTheTape() {
        MownWords x = new MownWords();
        Due.is("too much", Due.words(x, "a:12345"), -22);
        Due.is("a number to the end", Due.words(x, "a:12"), 1);
        Due.is("12", x.told(0, -2), 12);
        Due.is("a number begun", Due.words(x, "a:"), -22);
        Due.is("letters", Due.words(x, "abcdef"), 1);
        Due.is("fewer", Due.words(x, "uvw"), 1);
        Due.is("three of them", x.told(2, -1), 3);
        Due.is("w is the last", x.told(2, 2), 22);
        Due.is("no fourth", x.told(2, 3), NONE);
        Due.is("alike rows are alike", Due.words(x, "uv,uvw"), 2);
        Due.is("and so they are no others", x.brief(2), 4);
        Due.is("four words", Due.words(x, "a,b,c,d"), 4);
        Due.is("one", Due.words(x, "a"), 1);
        Due.is("nine strips", Due.strips(x, "012345012"), 9);
        Due.is("one strip", Due.strips(x, "5"), 1);
        MownWords y = new MownWords();
        Due.is("a full tape to its last figure", Due.words(y, BLANKS.substring(4) + "a:98"), 1);
        Due.is("98", y.told(0, -2), 98);
        Due.is("a full tape to its last letter", Due.words(y, "a:1," + BLANKS.substring(5) + "z"), 2);
        Due.is("a full tape to its colon", Due.words(y, BLANKS.substring(2) + "a:"), -100);
        Due.is("a full tape to its comma", Due.words(y, BLANKS.substring(2) + "a,"), -100);
        Due.is("a full tape to its owner", Due.strips(y, BLANKS.substring(1) + "4"), 1);
    }

    /** "its LETTER i (0 ..), how many (-1), PAY (-2)"; "NONE: it has no such LETTER". */
    private static void lettersTold() {
        MownWords x = Due.of("", "a:3,bcdefg:4");
        Due.is("pay of a", x.told(0, -2), 3);
        Due.is("length of a", x.told(0, -1), 1);
        Due.is("letter 0 of a", x.told(0, 0), 0);
        Due.is("letter 1 of a", x.told(0, 1), NONE);
        Due.is("pay of the other", x.told(1, -2), 4);
        Due.is("its length", x.told(1, -1), 6);
        Due.is("its letter 5", x.told(1, 5), 6);
        Due.is("its letter 6", x.told(1, 6), NONE);
        Due.is("its letter by far", x.told(1, MOST), NONE);
        Due.is("-3", x.told(1, -3), BAD);
        Due.is("by far below", x.told(1, LEAST), BAD);
        Due.is("letter 6 of word 2", x.told(2, 6), BAD);
        Due.is("word -1", x.told(-1, 0), BAD);
        Due.is("word by far", x.told(MOST, 0), BAD);
    }

    /** "PAY (0 .. 99)". */
    private static void payNoughtTo99() {
        MownWords x = Due.of("", "a:0,b:99,c");
        Due.is("0 told", x.pay(0, 99), 0);
        Due.is("99 told", x.pay(1, 0), 99);
        Due.is("99 paid", x.pay(0, 1), 99);
        Due.is("0 paid", x.pay(1, 98), 0);
        Due.is("100", x.pay(1, 100), BAD);
        Due.is("-1", x.pay(1, -1), BAD);
        Due.is("by far", x.pay(1, MOST), BAD);
        Due.is("by far below", x.pay(1, LEAST), BAD);
        Due.is("98 stay", x.told(1, -2), 98);
        Due.is("the last word's", x.pay(2, 5), 10);
        Due.is("word 3", x.pay(3, 5), BAD);
        Due.is("word -1", x.pay(-1, 5), BAD);
    }

    /** "PAY (10 at first)": also where another word was. */
    private static void payIsTenAtFirst() {
        MownWords x = new MownWords();
        x.image();
        Due.words(x, "a:99,b:0");
        x.restore();
        Due.words(x, "c,d");
        Due.is("c", x.told(0, -2), 10);
        Due.is("d", x.told(1, -2), 10);
        Due.words(x, "e:55");
        Due.words(x, "f");
        Due.is("f, told where e was told", x.told(3, -2), 10);
    }

    /** "A FEUD of two OWNERS: whether it was (1, 0). BAD: also of one." */
    private static void feudsOfTwo() {
        for (int one = -1; one <= 6; one++) {
            for (int other = -1; other <= 6; other++) {
                MownWords x = new MownWords();
                boolean bad = one < 0 || one > 5 || other < 0 || other > 5 || one == other;
                String name = "feud of " + one + " and " + other;
                Due.is(name, x.feud(one, other, true), bad ? BAD : 0);
                Due.is(name + " is", x.count(2), bad ? 0 : 1);
                Due.is(name + " was", x.feud(one, other, true), bad ? BAD : 1);
                Due.is(name + " is one", x.count(2), bad ? 0 : 1);
                Due.is(name + " from the other side", x.feud(other, one, false), bad ? BAD : 1);
                Due.is(name + " is over", x.count(2), 0);
                Due.is(name + " was over", x.feud(one, other, false), bad ? BAD : 0);
                Due.is(name + " is none", x.count(2), 0);
            }
        }
        MownWords x = new MownWords();
        Due.is("by far", x.feud(MOST, 0, true), BAD);
        Due.is("by far below", x.feud(0, LEAST, true), BAD);
        Due.is("one by far", x.feud(MOST, MOST, true), BAD);
    }

    private static void allFeuds() {
        MownWords x = new MownWords();
        int feuds = 0;
        for (int one = 0; one < 6; one++) {
            for (int other = 0; other < one; other++) {
                Due.is("none yet", x.feud(one, other, true), 0);
                feuds++;
                Due.is("feuds", x.count(2), feuds);
            }
        }
        Due.is("all of them", x.count(2), 15);
        for (int one = 0; one < 6; one++) {
            for (int other = one + 1; other < 6; other++) {
                Due.is("was", x.feud(one, other, false), 1);
                feuds--;
                Due.is("feuds left", x.count(2), feuds);
            }
        }
    }

    /** Owners stay, whoever's strips are told: so do feuds and words. */
    private static void feudsStay() {
        MownWords x = Due.of("01", "it");
        x.feud(0, 1, true);
        Due.strips(x, "0");
        Due.is("a feud stays", x.count(2), 1);
        Due.is("a word stays", x.count(1), 1);
        Due.strips(x, "10");
        Due.is("and is still one", x.may(0, 0), 0);
    }

    /** "How many: 0 STRIPS, 1 WORDS, 2 FEUDS, 3 HAY of all. BAD." */
    private static void counts() {
        MownWords x = Due.of("05", "a,b,c");
        x.feud(0, 5, true);
        x.cut(0);
        x.mow(1, 9);
        Due.is("strips", x.count(0), 2);
        Due.is("words", x.count(1), 3);
        Due.is("feuds", x.count(2), 1);
        Due.is("hay", x.count(3), 105);
        Due.is("count -1", x.count(-1), BAD);
        Due.is("count 4", x.count(4), BAD);
        Due.is("count by far", x.count(MOST), BAD);
        Due.is("count by far below", x.count(LEAST), BAD);
    }
}
