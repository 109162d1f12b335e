/** Promises 21 to 28: words in the row, what is read, what may be mown and for what. */
public final class WordsTest {
    private static final int BAD = MownWords.BAD, NOT = MownWords.NOT, NONE = MownWords.NONE;

    public static void main(String[] args) {
        written();
        read();
        readTies();
        nearest();
        may();
        mayByOtherCells();
        lost();
        plan();
        planTies();
        write();
        share();
        Due.end();
    }

    private static MownWords with(String owners, String words) {
        return Due.of(owners, words);
    }

    private static void show(MownWords x, String text) {
        Due.show(x, text);
    }

    /** Each of read (or of plan) in turn: the sum, how many, and each of them; then none. */
    private static void row(String name, MownWords x, boolean plan, int... due) {
        Due.is(name + ": sum", plan ? x.plan(-1) : x.read(-1), due[0]);
        Due.is(name + ": how many", plan ? x.plan(-2) : x.read(-2), due.length - 1);
        for (int i = 0; i < 9; i++) {
            Due.is(name + ": " + i, plan ? x.plan(i) : x.read(i), i + 1 < due.length ? due[i + 1] : NONE);
        }
        for (int i : new int[] {9, -3, Integer.MAX_VALUE, Integer.MIN_VALUE}) {
            Due.is(name + ": " + i, plan ? x.plan(i) : x.read(i), BAD);
        }
    }

    private static void written() {
        MownWords x = with("0123", "own,mow,o");
        show(x, "mown");
        Due.is("own at 1", x.written(0, 1), 1);
        Due.is("own at 0", x.written(0, 0), 0);
        Due.is("own at 2 has no room", x.written(0, 2), 0);
        Due.is("mow at 0", x.written(1, 0), 1);
        Due.is("o at 1", x.written(2, 1), 1);
        x.feud(1, 2, true);
        Due.is("a feud changes nothing that is read", x.written(0, 1), 1);
        x.fault(2, 4, 0);
        x.fault(2, 1, 0);
        x.fault(2, 7, 0);
        x.fault(2, 10, 0);
        Due.is("too many moles", x.written(0, 1), 0);
        Due.is("word 3", x.written(3, 0), BAD);
        Due.is("strip 4", x.written(0, 4), BAD);
        Due.is("word -1", x.written(-1, 0), BAD);
        Due.is("strip -1", x.written(0, -1), BAD);
    }

    private static void read() {
        MownWords x = with("012345012", "mow:20,own:15,mo:3,now:4");
        Due.is("n", Due.words(x, "n:6"), 1);
        row("nothing read", x, false, 0);
        show(x, "mown.ownt");
        row("mow and n for 26, then own", x, false, 41, 0, 34, 51);
        x.pay(4, 0);
        row("n for 0 goes on", x, false, 35, 0, 34, 51);
        x.pay(0, 1);
        row("own is more", x, false, 30, 11, 51);
        x.pay(2, 20);
        row("mo and n are more", x, false, 35, 2, 34, 51);
        show(x, "nnnnnnnnn");
        x.pay(4, 99);
        row("as often as it stands there", x, false, 891, 4, 14, 24, 34, 44, 54, 64, 74, 84);
    }

    private static void readTies() {
        MownWords x = with("0123", "it:5,ti:5,it:5,t:0");
        show(x, "itit");
        row("the lesser strip, the lesser word", x, false, 10, 0, 20);
        x.pay(0, 4);
        row("the other it", x, false, 10, 2, 22);
        x.pay(1, 10);
        row("from a lesser strip on", x, false, 10, 2, 22);
        x.pay(1, 11);
        row("ti, then t for nothing", x, false, 11, 11, 33);
        x.pay(1, 0);
        x.pay(2, 0);
        x.pay(0, 0);
        row("all for nothing", x, false, 0, 0, 20);
        x.pay(3, 1);
        row("t counts twice", x, false, 2, 13, 33);
    }

    private static void nearest() {
        MownWords x = with("012", "cow,ox:5,it,ti");
        show(x, "iti");
        Due.is("nearest at 0", x.nearest(0, 0), 2);
        Due.is("off at 0", x.nearest(0, 1), 0);
        Due.is("nearest at 1", x.nearest(1, 0), 3);
        Due.is("none has room at 2", x.nearest(2, 0), NONE);
        Due.is("nor is it off", x.nearest(2, 1), NONE);
        x.fault(1, 12, 0);
        Due.is("between t and i: the lesser word", x.nearest(0, 0), 2);
        Due.is("one off", x.nearest(0, 1), 1);
        show(x, "ttt");
        Due.is("it and ti are as near", x.nearest(0, 0), 2);
        Due.is("two off", x.nearest(0, 1), 2);
        Due.is("what 2", x.nearest(0, 2), BAD);
        Due.is("what -1", x.nearest(0, -1), BAD);
        Due.is("what 2 where none has room", x.nearest(2, 2), BAD);
        Due.is("strip 3", x.nearest(3, 0), BAD);
        Due.is("strip -1", x.nearest(-1, 0), BAD);
        Due.is("no words", with("0", "").nearest(0, 0), NONE);
        MownWords y = with("0", "t,i,t");
        show(y, "t");
        Due.is("the first word is as near as the last", y.nearest(0, 0), 0);
    }

    private static void may() {
        MownWords x = with("0120", "mow,ow");
        Due.is("mow may at 0", x.may(0, 0), 1);
        Due.is("mow may at 1", x.may(0, 1), 1);
        Due.is("mow has no room at 2", x.may(0, 2), 0);
        x.feud(0, 2, true);
        Due.is("a feud is in it", x.may(0, 0), 0);
        Due.is("none is in ow", x.may(1, 0), 1);
        Due.is("but at 2", x.may(1, 2), 0);
        x.feud(0, 2, false);
        x.mow(1, 14);
        Due.is("o has not grown", x.may(0, 0), 0);
        Due.is("but w has", x.may(1, 2), 1);
        x.weeks(1);
        Due.is("grass of 2 has not", x.may(0, 0), 0);
        x.weeks(1);
        Due.is("grass of 4 has", x.may(0, 0), 1);
        Due.is("word 2", x.may(2, 0), BAD);
        Due.is("strip 4", x.may(0, 4), BAD);
        Due.is("word -1", x.may(-1, 0), BAD);
        Due.is("strip -1", x.may(0, -1), BAD);
    }

    private static void mayByOtherCells() {
        MownWords x = with("0", "t");
        x.fault(0, 12, 0);
        Due.is("one mole: t is as near as i, and i comes first", x.may(0, 0), 0);
        x.fault(0, 12, 1);
        x.fault(0, 3, 0);
        x.fault(0, 5, 0);
        Due.is("two moles beside t", x.may(0, 0), 1);
        x.set(2, 1);
        Due.is("they are too far off now", x.may(0, 0), 0);
        x.set(2, 2);
        Due.is("and not any more", x.may(0, 0), 1);
        x.set(1, 5);
        Due.is("all is seen as mown", x.may(0, 0), 0);
        x.set(1, 2);
        x.fault(0, 1, 0);
        Due.is("its own cell has not grown", x.may(0, 0), 0);
    }

    private static void lost() {
        MownWords x = with("012", "it:50");
        Due.is("lost", x.lost(0, 0), 5 * (6 + 8));
        x.set(3, 3);
        Due.is("lost at a price", x.lost(0, 1), 15 * (6 + 8));
        Due.is("no room", x.lost(0, 2), NOT);
        x.feud(0, 1, true);
        x.fault(0, 0, 0);
        x.fault(0, 3, 0);
        x.fault(0, 5, 1);
        Due.is("lost though it may not, less what is eaten, by a weed more", x.lost(0, 0), 3 * (4 * 5 + 9 + 8 * 5));
        x.set(3, 0);
        Due.is("lost for nothing", x.lost(0, 0), 0);
        x.set(3, 1);
        x.set(0, 1);
        x.cut(0);
        x.weeks(2);
        Due.is("grass of 2 is not lost", x.lost(0, 0), 7 * 8);
        x.weeks(1);
        Due.is("grass of 3 is", x.lost(0, 0), 3 * 6 + 8 * 8);
        Due.is("word 1", x.lost(1, 0), BAD);
        Due.is("strip 3", x.lost(0, 3), BAD);
        Due.is("no word where no room is", x.lost(1, 2), BAD);
    }

    private static void plan() {
        MownWords x = with("012345012", "it:90,hay:85,h:19");
        row("it is 20 more than lost, hay 0: on three strips 20", x, true, 80, 0, 20, 40, 60);
        x.pay(1, 99);
        row("hay is 14 now", x, true, 80, 0, 20, 40, 60);
        x.pay(2, 25);
        row("h is 5 on one strip", x, true, 85, 0, 20, 40, 60, 82);
        x.feud(0, 1, true);
        row("no it on 0 and 1", x, true, 85, 2, 10, 30, 50, 70);
        for (int other = 1; other < 6; other++) {
            x.feud(0, other, true);
            x.feud(other, (other + 1) % 6, true);
        }
        row("no word of two", x, true, 45, 2, 12, 22, 32, 42, 52, 62, 72, 82);
        x.pay(2, 19);
        row("for less than is lost, none", x, true, 0);
        Due.is("nothing was mown for a plan", x.count(3), 0);
        row("none by no words", with("0", ""), true, 0);
        MownWords y = with("0123", "h:21");
        row("four for one", y, true, 4, 0, 10, 20, 30);
        Due.strips(y, "01");
        row("fewer strips", y, true, 2, 0, 10);
    }

    private static void planTies() {
        MownWords x = with("012", "h:20,h:20,m:15");
        row("for nothing goes on", x, true, 0, 0, 10, 20);
        x.pay(0, 19);
        row("the other h, where h may not be", x, true, 0, 1, 11, 21);
        x.pay(1, 19);
        row("m for nothing", x, true, 0, 2, 12, 22);
        x.pay(2, 16);
        x.pay(0, 21);
        row("the first for one", x, true, 3, 0, 10, 20);
        MownWords y = with("01", "h:15,hh:40,it:70");
        row("two for less are none: hh before it", y, true, 0, 1);
        y.pay(0, 21);
        row("each for one", y, true, 2, 0, 10);
        y.pay(1, 42);
        row("h before hh", y, true, 2, 0, 10);
        MownWords z = with("01", "h:19,m:16");
        z.fault(1, 1, 0);
        row("a cow makes less be lost", z, true, 7, 1, 11);
    }

    private static void write() {
        MownWords x = with("0100", "it:50,t");
        Due.is("it is mown", x.write(0, 0), 45 + 35);
        Due.is("it is read", x.written(0, 0), 1);
        Due.is("the first owner's hay", x.hay(0), 45);
        Due.is("the other owner's hay", x.hay(1), 35);
        Due.is("the others stand", x.seen(2), 0);
        Due.is("it has not grown again", x.write(0, 0), NOT);
        Due.is("nor half of it", x.write(0, 1), NOT);
        Due.is("what is refused changes nothing", x.seen(2), 0);
        Due.is("no room", x.write(0, 3), NOT);
        Due.is("room", x.write(0, 2), 80);
        Due.is("hay of both strips", x.hay(0), 45 + 80);
        Due.is("pay does not change", x.told(0, -2), 50);
        Due.is("word 2", x.write(2, 0), BAD);
        Due.is("strip 4", x.write(0, 4), BAD);
        Due.is("word -1", x.write(-1, 0), BAD);
        MownWords y = with("01", "it");
        y.feud(1, 0, true);
        Due.is("a feud", y.write(0, 0), NOT);
    }

    private static void share() {
        MownWords x = with("010230", "hay:97,it:69");
        Due.is("two strips of one owner: 20 and 5, 40, of 12 for each", x.share(0, 0, 0), 20 + 4 + 40 + 4);
        Due.is("the one between", x.share(0, 0, 1), 25 + 4);
        Due.is("none of an owner who is not there", x.share(0, 0, 2), 0);
        x.pay(0, 87);
        Due.is("2 over: the first, the second get 1", x.share(0, 0, 0), 20 + 1 + 40);
        Due.is("the second", x.share(0, 0, 1), 25 + 1);
        x.pay(0, 85);
        Due.is("nothing is over", x.share(0, 0, 1), 25);
        x.pay(0, 84);
        Due.is("less than lost", x.share(0, 0, 1), NOT);
        Due.is("less than lost, of one who is not there", x.share(0, 0, 5), NOT);
        Due.is("it: less than lost", x.share(1, 0, 0), NOT);
        x.set(3, 0);
        Due.is("for no price the first gets more", x.share(1, 3, 3), 34);
        Due.is("which is the lesser strip", x.share(1, 3, 2), 35);
        x.feud(2, 3, true);
        Due.is("a feud does not count", x.share(1, 3, 2), 35);
        Due.is("no room", x.share(1, 5, 0), NOT);
        Due.is("owner 6", x.share(1, 5, 6), BAD);
        Due.is("owner -1", x.share(1, 0, -1), BAD);
        Due.is("word 2", x.share(2, 0, 0), BAD);
        Due.is("strip 6", x.share(0, 6, 0), BAD);
    }
}
