/** Promises 35 to 39: sheets. */
public final class SheetsTest {
    private static final int BAD = MownWords.BAD, NOT = MownWords.NOT, NULL = MownWords.NULL;
    private static final int CAST = MownWords.CAST, INDEX = MownWords.INDEX, SIZE = MownWords.SIZE;
    private static final int MOST = Integer.MAX_VALUE, LEAST = Integer.MIN_VALUE;

    public static void main(String[] args) {
        sow();
        sowRefused();
        sheetAndDrop();
        item();
        lowestBits();
        film();
        filmRefused();
        Due.end();
    }

    private static void sow() {
        for (int lane = 0; lane < 3; lane++) {
            MownWords x = new MownWords();
            Due.strips(x, "012");
            x.sheet(1, lane, 17);
            Due.is("new items are 0", x.sow(1, 1, lane, 0), 0);
            for (int i = 0; i < 17; i++) {
                x.item(1, lane, i, i % 10);
            }
            Due.is("sown from 2 on", x.sow(1, 1, lane, 2), 44 + 0 + 1 + 2 + 3 + 4 + 5 + 6);
            for (int cell = 0; cell < 15; cell++) {
                Due.is("cell " + cell, x.grass(1, cell), (cell + 2) % 10);
            }
            Due.is("the strip beside it", x.grass(2, 0), 5);
            Due.is("no hay", x.count(3), 0);
            x.item(1, lane, 2, 9);
            Due.is("the sheet is not the strip", x.grass(1, 0), 2);
        }
    }

    private static void sowRefused() {
        MownWords x = new MownWords();
        x.strip(0);
        Due.is("strip 1", x.sow(1, 0, 0, 0), BAD);
        Due.is("strip -1", x.sow(-1, 0, 0, 0), BAD);
        Due.is("sheet 4", x.sow(0, 4, 0, 0), BAD);
        Due.is("sheet -1", x.sow(0, -1, 0, 0), BAD);
        Due.is("lane 3", x.sow(0, 0, 3, 0), BAD);
        Due.is("lane -1", x.sow(0, 0, -1, 0), BAD);
        Due.is("nothing there", x.sow(0, 0, 0, -1), NULL);
        x.sheet(0, 1, 16);
        Due.is("of another lane", x.sow(0, 0, 2, -1), CAST);
        Due.is("from -1", x.sow(0, 0, 1, -1), INDEX);
        Due.is("from 2", x.sow(0, 0, 1, 2), INDEX);
        Due.is("from far", x.sow(0, 0, 1, MOST), INDEX);
        Due.is("from far below", x.sow(0, 0, 1, LEAST), INDEX);
        x.item(0, 1, 15, 10);
        Due.is("index before what is not grass", x.sow(0, 0, 1, 2), INDEX);
        Due.is("10 is not grass", x.sow(0, 0, 1, 1), NOT);
        Due.is("nothing was sown", x.grass(0, 0), 5);
        Due.is("what is before it is", x.sow(0, 0, 1, 0), 0);
        x.item(0, 1, 15, -1);
        Due.is("-1 is not grass", x.sow(0, 0, 1, 1), NOT);
        x.item(0, 1, 15, 9);
        Due.is("9 is", x.sow(0, 0, 1, 1), 9);
        x.sheet(0, 1, 14);
        Due.is("fewer items than cells", x.sow(0, 0, 1, 0), INDEX);
    }

    private static void sheetAndDrop() {
        MownWords x = new MownWords();
        for (int sheet = 0; sheet < 4; sheet++) {
            Due.is("nothing at first", x.drop(sheet), NULL);
            Due.is("a sheet", x.sheet(sheet, sheet % 3, 6 * sheet), 6 * sheet);
        }
        for (int sheet = 0; sheet < 4; sheet++) {
            Due.is("dropped", x.drop(sheet), 6 * sheet);
            Due.is("dropped already", x.drop(sheet), NULL);
        }
        Due.is("24 items", x.sheet(0, 0, 24), 24);
        Due.is("25 items", x.sheet(0, 0, 25), BAD);
        Due.is("most items", x.sheet(0, 0, MOST), BAD);
        Due.is("-1 items", x.sheet(0, 0, -1), SIZE);
        Due.is("least items", x.sheet(0, 0, LEAST), SIZE);
        Due.is("-1 items of sheet 4", x.sheet(4, 0, -1), BAD);
        Due.is("-1 items of sheet -1", x.sheet(-1, 0, -1), BAD);
        Due.is("-1 items of lane 3", x.sheet(0, 3, -1), BAD);
        Due.is("-1 items of lane -1", x.sheet(0, -1, -1), BAD);
        Due.is("what is refused changes nothing", x.item(0, 0, 23, 1), 1);
        Due.is("a new row of another lane", x.sheet(0, 2, 24), 24);
        x.strip(0);
        Due.is("it is of that lane", x.sow(0, 0, 0, 9), CAST);
        Due.is("and of zeros", x.sow(0, 0, 2, 9), 0);
        Due.is("drop of sheet 4", x.drop(4), BAD);
        Due.is("drop of sheet -1", x.drop(-1), BAD);
    }

    private static void item() {
        MownWords x = new MownWords();
        Due.is("nothing there", x.item(2, 0, -1, 1), NULL);
        x.sheet(2, 0, 3);
        Due.is("of another lane", x.item(2, 1, -1, 1), CAST);
        Due.is("item -1", x.item(2, 0, -1, 1), INDEX);
        Due.is("item 3", x.item(2, 0, 3, 1), INDEX);
        Due.is("item far", x.item(2, 0, MOST, 1), INDEX);
        Due.is("item far below", x.item(2, 0, LEAST, 1), INDEX);
        Due.is("item 2", x.item(2, 0, 2, 1), 1);
        Due.is("item 0", x.item(2, 0, 0, LEAST), 1);
        Due.is("sheet 4", x.item(4, 0, 0, 1), BAD);
        Due.is("sheet -1", x.item(-1, 0, 0, 1), BAD);
        Due.is("lane 3", x.item(2, 3, 0, 1), BAD);
        Due.is("lane -1", x.item(2, -1, 0, 1), BAD);
        x.sheet(2, 0, 0);
        Due.is("no item", x.item(2, 0, 0, 1), INDEX);
    }

    private static void lowestBits() {
        int[] values = {7 + 256, 7 - 256, 7 + 65536, 7 - 65536, 7 + 128};
        int[][] due = {{7, 7, 7, 7, NOT}, {NOT, NOT, 7, 7, NOT}, {NOT, NOT, NOT, NOT, NOT}};
        for (int lane = 0; lane < 3; lane++) {
            MownWords x = new MownWords();
            x.strip(0);
            x.sheet(0, lane, 15);
            for (int i = 0; i < values.length; i++) {
                x.item(0, lane, 4, values[i]);
                Due.is("lane " + lane + ", " + values[i], x.sow(0, 0, lane, 0), due[lane][i]);
            }
        }
    }

    private static void film() {
        for (int lane = 0; lane < 3; lane++) {
            MownWords x = new MownWords();
            Due.strips(x, "01234");
            Due.show(x, 0, x.letter(2));
            Due.show(x, 1, x.letter(0));
            Due.show(x, 2, x.letter(9));
            Due.show(x, 3, x.letter(25));
            x.sheet(0, lane, 20);
            x.item(0, lane, 2, 1);
            x.item(0, lane, 8, 1);
            Due.is("film", x.film(0, lane, 3), 5);
            Due.is("25 is there, no grass", x.sow(4, 0, lane, 0), NOT);
            x.item(0, lane, 6, 0);
            Due.is("-4 is there, no grass", x.sow(4, 0, lane, 0), NOT);
            x.item(0, lane, 7, x.reads(4) + 4);
            Due.is("the others are numbers of letters", x.sow(4, 0, lane, 0), 1 + 2 + 0 + 9 + 1);
            int[] cells = {0, 0, 1, 2, 0, 9, 0, 0, 1};
            for (int cell = 0; cell < cells.length; cell++) {
                Due.is("item " + cell, x.grass(4, cell), cells[cell]);
            }
        }
    }

    private static void filmRefused() {
        MownWords x = new MownWords();
        Due.is("nothing there", x.film(0, 0, -1), NULL);
        x.sheet(0, 0, 3);
        Due.is("of another lane", x.film(0, 2, -1), CAST);
        Due.is("none from 0", x.film(0, 0, 0), 0);
        Due.is("none from the end", x.film(0, 0, 3), 0);
        Due.is("none from behind the end", x.film(0, 0, 4), INDEX);
        Due.is("none from before the first", x.film(0, 0, -1), INDEX);
        Due.is("none from far", x.film(0, 0, MOST), INDEX);
        Due.is("none from far below", x.film(0, 0, LEAST), INDEX);
        Due.strips(x, "01");
        Due.is("two from 1", x.film(0, 0, 1), 2);
        Due.is("two from 2", x.film(0, 0, 2), INDEX);
        Due.is("two from far", x.film(0, 0, MOST), INDEX);
        Due.is("two from -1", x.film(0, 0, -1), INDEX);
        Due.is("sheet 4", x.film(4, 0, 0), BAD);
        Due.is("sheet -1", x.film(-1, 0, 0), BAD);
        Due.is("lane 3", x.film(0, 3, 0), BAD);
        Due.is("lane -1", x.film(0, -1, 0), BAD);
        x.sheet(0, 0, 16);
        Due.is("what is refused changes no item", x.film(0, 0, 15), INDEX);
        Due.is("all are 0", x.sow(0, 0, 0, 1), 0);
    }
}
