/** Promises 14 to 20: THE TAPE, strips and words as texts, words told, pay, feuds, counts. */
public final class TextsTest {
    private static final String TEN = "a a a a a ", EIGHTY = TEN + TEN + TEN + TEN + TEN + TEN + TEN + TEN;

    public static void main(String[] args) {
        type();
        strips();
        wordsComing();
        wordFaults();
        numberFaults();
        wordsFull();
        told();
        pay();
        feud();
        count();
        Due.end();
    }

    private static void type() {
        MownWords x = new MownWords();
        Due.is("type of no byte", x.type(97, 0), MownWords.BAD);
        Due.is("type of 9 bytes", x.type(97, 9), MownWords.BAD);
        Due.is("type of -1 bytes", x.type(97, -1), MownWords.BAD);
        Due.is("type of byte 31", x.type(0x611FL, 2), MownWords.BAD);
        Due.is("type of byte 127", x.type(0x7F61L, 2), MownWords.BAD);
        Due.is("type of byte 200", x.type(0xC8L, 1), MownWords.BAD);
        Due.is("type of byte 0", x.type(97, 2), MownWords.BAD);
        Due.is("higher bytes do not count", x.type(0xC831L, 1), 1);
        Due.is("byte 32 and 126 stand", x.type(0x207EL, 2), 3);
        Due.is("all bytes but of bad ones came", x.strips(), -22);
        Due.is("highest first", Due.type(x, "0;"), 2);
        Due.is("the second is at fault", x.strips(), -21);
        Due.is("the tape can be full", Due.type(x, EIGHTY), 80);
        Due.is("and then takes no more", x.type(97, 1), MownWords.FULL);
        Due.is("what is wrong is wrong before it is too much", x.type(7, 1), MownWords.BAD);
        Due.is("fault of a full tape", x.words(), -32);
        Due.is("seventy-eight", Due.type(x, EIGHTY.substring(2)), 78);
        Due.is("three do not fit", x.type(0x616161L, 3), MownWords.FULL);
        Due.is("nothing of them came: two fit", x.type(0x6161L, 2), 80);
    }

    private static void strips() {
        MownWords x = new MownWords();
        Due.is("three", Due.strips(x, " 0 5  3 "), 3);
        x.mow(1, 0);
        x.mow(2, 19);
        Due.is("hay of 5", x.hay(5), 50);
        Due.is("the tape is empty then", x.strips(), -20);
        Due.is("a fault", Due.strips(x, "016"), -22);
        Due.is("the tape is empty after a fault", x.strips(), -20);
        Due.is("those told stay", x.count(0), 3);
        Due.is("with their grass", x.seen(2), x.letter(19));
        Due.is("blanks alone", Due.strips(x, "   "), -23);
        Due.is("ten", Due.strips(x, "01234 501234"), -30);
        Due.is("a letter", Due.strips(x, " a"), -21);
        Due.is("two in place of three", Due.strips(x, "45"), 2);
        Due.is("two now", x.count(0), 2);
        Due.is("strip 2 is none", x.grass(2, 0), MownWords.BAD);
        Due.is("fresh grass", x.grass(1, 1), 5);
        Due.is("hay stays", x.hay(5), 50);
        Due.is("owners told", x.mow(0, 19), 35);
        Due.is("hay of 4", x.hay(4), 35);
        Due.is("nine", Due.strips(x, "012345012 "), 9);
    }

    private static void wordsComing() {
        MownWords x = new MownWords();
        Due.is("four", Due.words(x, "hay:30,m o w,zzzzzz : 007 ,a:0"), 4);
        Due.is("they come, too", Due.words(x, "x:99"), 1);
        Due.is("count", x.count(1), 5);
        String[] words = {"hay", "mow", "zzzzzz", "a", "x"};
        int[] pays = {30, 10, 7, 0, 99};
        for (int word = 0; word < words.length; word++) {
            Due.is("length of " + words[word], x.told(word, -1), words[word].length());
            Due.is("pay of " + words[word], x.told(word, -2), pays[word]);
            for (int i = 0; i < words[word].length(); i++) {
                Due.is("letter " + i + " of " + words[word], x.told(word, i), words[word].charAt(i) - 'a');
            }
        }
        Due.is("the tape is empty then", x.words(), -20);
        Due.is("a word once more", Due.words(x, "hay"), 1);
        Due.is("its own pay", x.told(5, -2), 10);
        Due.is("strips are none", x.count(0), 0);
    }

    private static void fault(String text, int place) {
        MownWords x = new MownWords();
        Due.is("words of '" + text + "'", Due.words(x, text), -20 - place);
        Due.is("none comes of '" + text + "'", x.count(1), 0);
        Due.is("the tape is empty after '" + text + "'", x.words(), -20);
    }

    private static void wordFaults() {
        fault("", 0);
        fault("  ", 2);
        fault(",a", 0);
        fault("a,", 2);
        fault("a, ", 3);
        fault("a,,b", 2);
        fault("a b c d e f g", 12);
        fault("abcdef,abcdefg", 13);
        fault("a,b,c,d,", 7);
        fault("a,b,c,d:5 ,e", 10);
        fault("A", 0);
        fault("a`", 1);
        fault("a{", 1);
        fault("a1", 1);
        fault("a;b", 1);
        fault(":5", 0);
    }

    private static void numberFaults() {
        fault("a:", 2);
        fault("a: ", 3);
        fault("a:,b", 2);
        fault("a::1", 2);
        fault("a:-1", 2);
        fault("a:100", 2);
        fault("ab : 0100,c", 5);
        fault("a:99999999999999999999,?", 2);
        fault("a:1 2", 4);
        fault("a:9 9 9", 4);
        fault("a:1b", 3);
        fault("a:1:2", 3);
        fault("a:100x", 2);
        MownWords x = new MownWords();
        Due.is("zeros ahead", Due.words(x, "a:0000000000000000000000000099"), 1);
        Due.is("their pay", x.told(0, -2), 99);
    }

    private static void wordsFull() {
        MownWords x = new MownWords();
        Due.words(x, "a,b,c,d");
        Due.words(x, "e,f,g,h");
        Due.is("three more have no room", Due.words(x, "i,j,k"), MownWords.FULL);
        Due.is("none came", x.count(1), 8);
        Due.is("the tape is empty then", x.words(), -20);
        Due.is("two more have", Due.words(x, "i,j"), 2);
        Due.is("ten", x.count(1), 10);
        Due.is("one more has none", Due.words(x, "k"), MownWords.FULL);
        Due.is("a fault comes before that", Due.words(x, "k,"), -22);
        Due.is("the last", x.told(9, 0), 9);
    }

    private static void told() {
        MownWords x = new MownWords();
        Due.words(x, "mow:12");
        Due.is("the last letter", x.told(0, 2), 22);
        Due.is("no such letter", x.told(0, 3), MownWords.NONE);
        Due.is("none by far", x.told(0, Integer.MAX_VALUE), MownWords.NONE);
        Due.is("nothing that can be told", x.told(0, -3), MownWords.BAD);
        Due.is("no such word", x.told(1, 0), MownWords.BAD);
        Due.is("word -1", x.told(-1, 0), MownWords.BAD);
    }

    private static void pay() {
        MownWords x = new MownWords();
        Due.words(x, "mow,own");
        Due.is("ten at first", x.pay(1, 0), 10);
        Due.is("then none", x.pay(1, 99), 0);
        Due.is("pay 100", x.pay(1, 100), MownWords.BAD);
        Due.is("pay -1", x.pay(1, -1), MownWords.BAD);
        Due.is("pay of word 2", x.pay(2, 0), MownWords.BAD);
        Due.is("pay of word -1", x.pay(-1, 0), MownWords.BAD);
        Due.is("what is refused changes nothing", x.told(1, -2), 99);
        Due.is("nor does what is another's", x.told(0, -2), 10);
    }

    private static void feud() {
        MownWords x = new MownWords();
        Due.is("none was", x.feud(0, 5, true), 0);
        Due.is("it was, told from the other side", x.feud(5, 0, true), 1);
        Due.is("one feud", x.count(2), 1);
        Due.is("another one", x.feud(5, 1, true), 0);
        Due.is("two feuds", x.count(2), 2);
        Due.is("an end from the other side", x.feud(5, 0, false), 1);
        Due.is("it is over", x.feud(0, 5, false), 0);
        Due.is("one is left", x.count(2), 1);
        Due.is("of one", x.feud(2, 2, true), MownWords.BAD);
        Due.is("of one, no more", x.feud(2, 2, false), MownWords.BAD);
        Due.is("of owner 6", x.feud(6, 1, true), MownWords.BAD);
        Due.is("of owner -1", x.feud(1, -1, true), MownWords.BAD);
    }

    private static void count() {
        MownWords x = new MownWords();
        Due.strips(x, "0123");
        Due.words(x, "a,b");
        for (int other = 1; other < 6; other++) {
            x.feud(0, other, true);
        }
        x.cut(1);
        x.cut(3);
        int[] counts = {4, 2, 5, 150};
        for (int what = 0; what < 4; what++) {
            Due.is("count " + what, x.count(what), counts[what]);
        }
        Due.is("count 4", x.count(4), MownWords.BAD);
        Due.is("count -1", x.count(-1), MownWords.BAD);
    }
}
