/** Promises 33 and 34: images. */
public final class ImagesTest {
    public static void main(String[] args) {
        allIsKept();
        notKept();
        again();
        Due.end();
    }

    private static void allIsKept() {
        MownWords x = new MownWords();
        Due.is("no image", x.restore(), MownWords.NONE);
        Due.strips(x, "012");
        Due.words(x, "mow:7,it");
        x.feud(0, 5, true);
        x.set(0, 1);
        x.set(2, 4);
        x.write(1, 1);
        Due.is("an image", x.image(), 1);

        Due.strips(x, "54321");
        Due.words(x, "own,x:3");
        x.pay(0, 99);
        x.feud(0, 5, false);
        x.feud(1, 5, true);
        x.feud(2, 5, true);
        x.set(0, 5);
        x.set(1, 7);
        x.set(2, 7);
        x.set(3, 9);
        x.cut(0);
        x.weeks(2);
        Due.is("restored", x.restore(), 1);

        Due.is("strips", x.count(0), 3);
        Due.is("words", x.count(1), 2);
        Due.is("feuds", x.count(2), 1);
        Due.is("hay", x.count(3), 80);
        Due.is("hay of 1", x.hay(1), 45);
        Due.is("hay of 5", x.hay(5), 0);
        Due.is("pay", x.told(0, -2), 7);
        Due.is("the feud", x.feud(0, 5, false), 1);
        Due.is("grows", x.set(0, 0), 1);
        Due.is("low", x.set(1, 2), 2);
        Due.is("far", x.set(2, 3), 4);
        Due.is("price", x.set(3, 1), 1);
        Due.is("grass that was mown", x.grass(1, 0), 0);
        Due.is("grass", x.grass(0, 0), 5);
        Due.is("it is written", x.written(1, 1), 1);
        x.cut(0);
        Due.is("owners", x.hay(0), 75);
        Due.words(x, "ab");
        Due.is("a new word comes behind those", x.told(2, -1), 2);
    }

    private static void notKept() {
        MownWords x = new MownWords();
        x.strip(0);
        x.sheet(0, 0, 20);
        Due.type(x, "0");
        x.image();
        Due.type(x, "12");
        x.drop(0);
        x.sheet(1, 2, 3);
        x.restore();
        Due.is("the tape is as it is", x.strips(), 3);
        Due.is("sheets are as they are", x.drop(0), MownWords.NULL);
        Due.is("sheet 1, too", x.drop(1), 3);
    }

    private static void again() {
        MownWords x = new MownWords();
        x.strip(0);
        x.image();
        x.fault(0, 0, 1);
        x.restore();
        x.fault(0, 1, 1);
        Due.is("an image can be restored again", x.restore(), 1);
        Due.is("what came behind it is gone", x.grass(0, 1), 5);
        x.fault(0, 2, 1);
        x.image();
        x.fault(0, 2, 0);
        x.restore();
        Due.is("the later image counts", x.grass(0, 2), 9);
        x.strips();
        Due.is("of an object of its own", new MownWords().restore(), MownWords.NONE);
    }
}
