/** The sentences on sheets (Terms, promises 35 to 39) that name a boundary case: a test for each. */
public final class EdgesOfSheetsTest {
    private static final int BAD = MownWords.BAD, NOT = MownWords.NOT, NULL = MownWords.NULL;
    private static final int CAST = MownWords.CAST, INDEX = MownWords.INDEX, SIZE = MownWords.SIZE;
    private static final int MOST = Integer.MAX_VALUE, LEAST = Integer.MIN_VALUE;
    private static final int[] ELSEWHERE = {-1, MOST, LEAST};

    public static void main(String[] args) {
        sheetsAreFour();
        nothingAtFirst();
        lanesAreThree();
        itemsNoughtTo24();
        sizeBelowNought();
        aNewRowIsOfNoughts();
        refusedRowsLeaveTheOldOne();
        dropOnce();
        itemsOfALane();
        itemPlaces();
        lowestBitsOfBytes();
        lowestBitsOfShorts();
        allBitsOfInts();
        sowFifteen();
        sowPlaces();
        sowNoughtToNine();
        sowInOrderOfRefusals();
        sowMakesNoHay();
        filmOfAllStrips();
        filmPlaces();
        filmOfNone();
        filmOfNothingRead();
        filmLeavesTheRest();
        Due.end();
    }

    /** "sheets 0 .. 3". */
    private static void sheetsAreFour() {
        MownWords x = Due.of("0", "");
        for (int sheet = 0; sheet < 4; sheet++) {
            Due.is("sheet " + sheet, x.sheet(sheet, 0, 15 + sheet), 15 + sheet);
        }
        for (int sheet = 0; sheet < 4; sheet++) {
            Due.is("item of " + sheet, x.item(sheet, 0, 14, 6 + sheet), 1);
        }
        for (int sheet = 0; sheet < 4; sheet++) {
            Due.is("sow of " + sheet, x.sow(0, sheet, 0, 0), 6 + sheet);
            Due.is("film of " + sheet, x.film(sheet, 0, 14 + sheet), 1);
            Due.is("not of what is behind " + sheet, x.film(sheet, 0, 15 + sheet), INDEX);
        }
        for (int sheet : new int[] {-1, 4, MOST, LEAST}) {
            Due.is("sheet " + sheet, x.sheet(sheet, 0, 1), BAD);
            Due.is("item of " + sheet, x.item(sheet, 0, 0, 1), BAD);
            Due.is("sow of " + sheet, x.sow(0, sheet, 0, 0), BAD);
            Due.is("film of " + sheet, x.film(sheet, 0, 0), BAD);
            Due.is("drop of " + sheet, x.drop(sheet), BAD);
        }
        for (int sheet = 0; sheet < 4; sheet++) {
            Due.is("drop of " + sheet, x.drop(sheet), 15 + sheet);
        }
    }

    /** "nothing (at first)"; "NULL". */
    private static void nothingAtFirst() {
        for (int sheet = 0; sheet < 4; sheet++) {
            MownWords x = Due.of("0", "");
            Due.is("drop of nothing", x.drop(sheet), NULL);
            for (int lane = 0; lane < 3; lane++) {
                Due.is("item of nothing", x.item(sheet, lane, 0, 1), NULL);
                Due.is("item -1 of nothing", x.item(sheet, lane, -1, 1), NULL);
                Due.is("sow of nothing", x.sow(0, sheet, lane, 0), NULL);
                Due.is("sow of nothing from -1", x.sow(0, sheet, lane, -1), NULL);
                Due.is("film on nothing", x.film(sheet, lane, 0), NULL);
                Due.is("film on nothing from -1", x.film(sheet, lane, -1), NULL);
            }
            Due.is("sow on strip 1 of nothing", x.sow(1, sheet, 0, 0), BAD);
            Due.is("lane 3 of nothing", x.item(sheet, 3, 0, 1), BAD);
            Due.is("nothing is there still", x.drop(sheet), NULL);
        }
    }

    /** "a row of a LANE: 0 bytes, 1 shorts, 2 ints"; "CAST -12 (of SHEETS another LANE)". */
    private static void lanesAreThree() {
        for (int lane = 0; lane < 3; lane++) {
            MownWords x = Due.of("0", "");
            Due.is("a row of lane " + lane, x.sheet(0, lane, 15), 15);
            for (int as = 0; as < 3; as++) {
                String name = "lane " + lane + " as " + as;
                Due.is(name + ": item", x.item(0, as, 0, 3), as == lane ? 1 : CAST);
                Due.is(name + ": item -1", x.item(0, as, -1, 3), as == lane ? INDEX : CAST);
                Due.is(name + ": sow", x.sow(0, 0, as, 0), as == lane ? 3 : CAST);
                Due.is(name + ": sow from 1", x.sow(0, 0, as, 1), as == lane ? INDEX : CAST);
                Due.is(name + ": film", x.film(0, as, 14), as == lane ? 1 : CAST);
                Due.is(name + ": film from 15", x.film(0, as, 15), as == lane ? INDEX : CAST);
                if (as == lane) {
                    x.sheet(0, lane, 15);
                }
            }
            for (int as : new int[] {-1, 3, MOST, LEAST}) {
                Due.is("sheet of lane " + as, x.sheet(0, as, 15), BAD);
                Due.is("item of lane " + as, x.item(0, as, 0, 3), BAD);
                Due.is("sow of lane " + as, x.sow(0, 0, as, 0), BAD);
                Due.is("film of lane " + as, x.film(0, as, 0), BAD);
            }
        }
    }

    /** "of 0 to 24 items"; "BAD: also n above 24". */
    private static void itemsNoughtTo24() {
        for (int lane = 0; lane < 3; lane++) {
            for (int n = 0; n <= 24; n++) {
                MownWords x = new MownWords();
                Due.is("a row of " + n, x.sheet(2, lane, n), n);
                Due.is("its last item", x.item(2, lane, n - 1, 1), n > 0 ? 1 : INDEX);
                Due.is("the one behind", x.item(2, lane, n, 1), INDEX);
                Due.is("it had", x.drop(2), n);
            }
            MownWords x = new MownWords();
            Due.is("a row of 25", x.sheet(2, lane, 25), BAD);
            Due.is("a row by far", x.sheet(2, lane, MOST), BAD);
            Due.is("none came", x.drop(2), NULL);
        }
    }

    /** "SIZE: n below 0". */
    private static void sizeBelowNought() {
        MownWords x = new MownWords();
        Due.is("-1 items", x.sheet(0, 0, -1), SIZE);
        Due.is("items by far below", x.sheet(0, 2, LEAST), SIZE);
        Due.is("none came", x.drop(0), NULL);
        Due.is("-1 items of sheet 4", x.sheet(4, 0, -1), BAD);
        Due.is("-1 items of sheet -1", x.sheet(-1, 0, -1), BAD);
        Due.is("-1 items of lane 3", x.sheet(0, 3, -1), BAD);
        Due.is("-1 items of lane -1", x.sheet(0, -1, -1), BAD);
        Due.is("0 items", x.sheet(0, 0, 0), 0);
        Due.is("they are there", x.drop(0), 0);
    }

    /** "A SHEET holds a new row". */
    private static void aNewRowIsOfNoughts() {
        MownWords x = Due.of("0", "");
        x.sheet(0, 2, 24);
        for (int i = 0; i < 24; i++) {
            x.item(0, 2, i, 9);
        }
        Due.is("nines", x.sow(0, 0, 2, 0), 135);
        Due.is("a new row of the lane", x.sheet(0, 2, 24), 24);
        Due.is("noughts", x.sow(0, 0, 2, 0), 0);
        Due.is("to its end", x.sow(0, 0, 2, 9), 0);
        x.item(0, 2, 14, 9);
        x.drop(0);
        x.sheet(0, 1, 15);
        Due.is("a row behind a dropped one", x.sow(0, 0, 1, 0), 0);
        x.item(0, 1, 14, 9);
        x.sheet(0, 0, 3);
        x.sheet(0, 1, 15);
        Due.is("a row behind a shorter one", x.sow(0, 0, 1, 0), 0);
    }

    private static void refusedRowsLeaveTheOldOne() {
        MownWords x = Due.of("0", "");
        x.sheet(0, 1, 15);
        x.item(0, 1, 14, 8);
        Due.is("-1 items", x.sheet(0, 0, -1), SIZE);
        Due.is("25 items", x.sheet(0, 0, 25), BAD);
        Due.is("of lane 3", x.sheet(0, 3, 2), BAD);
        Due.is("the old row", x.sow(0, 0, 1, 0), 8);
        Due.is("of 15", x.drop(0), 15);
    }

    /** "A SHEET holds nothing: how many items it had." */
    private static void dropOnce() {
        MownWords x = new MownWords();
        x.sheet(0, 0, 24);
        x.sheet(3, 2, 0);
        Due.is("24", x.drop(0), 24);
        Due.is("nothing", x.drop(0), NULL);
        Due.is("none", x.drop(3), 0);
        Due.is("nothing as well", x.drop(3), NULL);
        Due.is("item of a dropped one", x.item(0, 0, 0, 1), NULL);
        Due.is("film on a dropped one", x.film(0, 0, 0), NULL);
        x.sheet(0, 1, 5);
        Due.is("five", x.drop(0), 5);
    }

    private static void itemsOfALane() {
        for (int lane = 0; lane < 3; lane++) {
            MownWords x = Due.of("0", "");
            x.sheet(1, lane, 15);
            for (int i = 0; i < 15; i++) {
                Due.is("item " + i, x.item(1, lane, i, (i + 1) % 10), 1);
            }
            Due.is("all of them", x.sow(0, 1, lane, 0), 60);
            Due.grass("lane " + lane, x, 0, 1, 2, 3, 4, 5, 6, 7, 8, 9, 0, 1, 2, 3, 4, 5);
        }
    }

    /** "INDEX": of items. */
    private static void itemPlaces() {
        MownWords x = Due.of("0", "");
        x.sheet(0, 0, 15);
        Due.is("item 0", x.item(0, 0, 0, 3), 1);
        Due.is("item 14", x.item(0, 0, 14, 4), 1);
        Due.is("item 15", x.item(0, 0, 15, 5), INDEX);
        for (int i : ELSEWHERE) {
            Due.is("item " + i, x.item(0, 0, i, 5), INDEX);
        }
        Due.is("the two alone", x.sow(0, 0, 0, 0), 7);
        x.sheet(0, 0, 0);
        Due.is("no item 0", x.item(0, 0, 0, 5), INDEX);
    }

    /** What item v becomes, if it is 0 .. 9; NOT otherwise. */
    private static int kept(int lane, int v) {
        MownWords x = Due.of("0", "");
        x.sheet(0, lane, 15);
        Due.is("item " + v, x.item(0, lane, 7, v), 1);
        int sown = x.sow(0, 0, lane, 0);
        Due.is("grass by item " + v, x.grass(0, 7), sown == NOT ? 5 : sown);
        return sown;
    }

    private static void keeps(int lane, int v, int due) {
        Due.is("lane " + lane + ": " + v, kept(lane, v), due);
    }

    /** "its lowest bits (with its sign)". */
    private static void lowestBitsOfBytes() {
        for (int v = 0; v < 256; v++) {
            int due = v <= 9 ? v : NOT;
            keeps(0, v, due);
            keeps(0, v + 256, due);
            keeps(0, v - 256, due);
        }
        keeps(0, MOST, NOT);
        keeps(0, LEAST, 0);
        keeps(0, LEAST + 9, 9);
        keeps(0, 0x7FFFFF05, 5);
    }

    private static void lowestBitsOfShorts() {
        for (int v : new int[] {0, 1, 9, 10, 127, 128, 255, 256, 265, 32767, 32768, 65535}) {
            int due = v <= 9 ? v : NOT;
            keeps(1, v, due);
            keeps(1, v + 65536, due);
            keeps(1, v - 65536, due);
        }
        keeps(1, MOST, NOT);
        keeps(1, LEAST, 0);
        keeps(1, LEAST + 9, 9);
        keeps(1, -1, NOT);
        keeps(1, 0x7FFF0005, 5);
    }

    private static void allBitsOfInts() {
        for (int v = 0; v <= 9; v++) {
            keeps(2, v, v);
        }
        for (int v : new int[] {-1, 10, 128, 256, 265, 65536, 65545, LEAST, LEAST + 9, MOST}) {
            keeps(2, v, NOT);
        }
    }

    /** "GRASS of a STRIP becomes 15 items": each CELL, and of no other STRIP. */
    private static void sowFifteen() {
        MownWords x = Due.of("012", "");
        x.sheet(0, 1, 17);
        for (int i = 0; i < 17; i++) {
            x.item(0, 1, i, (i + 8) % 10);
        }
        Due.is("from 1 on", x.sow(1, 0, 1, 1), 9 + 45 + 0 + 1 + 2 + 3);
        Due.grass("sown", x, 1, 9, 0, 1, 2, 3, 4, 5, 6, 7, 8, 9, 0, 1, 2, 3);
        Due.grass("before it", x, 0, Due.all(5));
        Due.grass("behind it", x, 2, Due.all(5));
        x.item(0, 1, 1, 1);
        Due.is("the grass is its own", x.grass(1, 0), 9);
        x.cut(1);
        Due.is("and the row as well", x.sow(2, 0, 1, 1), 1 + 45 + 6);
    }

    /** "INDEX": of the first and the last of 15 items. */
    private static void sowPlaces() {
        for (int n = 13; n <= 24; n++) {
            MownWords x = Due.of("0", "");
            x.sheet(0, 0, n);
            for (int from = -1; from <= 11; from++) {
                Due.is("of " + n + " from " + from, x.sow(0, 0, 0, from), from >= 0 && from + 15 <= n ? 0 : INDEX);
            }
            for (int from : ELSEWHERE) {
                Due.is("of " + n + " from " + from, x.sow(0, 0, 0, from), INDEX);
            }
        }
        MownWords x = Due.of("0", "");
        x.sheet(0, 0, 0);
        Due.is("of none", x.sow(0, 0, 0, 0), INDEX);
        Due.grass("nothing sown", x, 0, Due.all(5));
    }

    /** "15 items (0 .. 9)"; "NOT: one is not 0 .. 9". */
    private static void sowNoughtToNine() {
        for (int place = 0; place < 17; place++) {
            for (int v : new int[] {-1, 0, 9, 10}) {
                MownWords x = Due.of("0", "");
                x.sheet(0, 2, 17);
                x.item(0, 2, place, v);
                boolean in = place >= 1 && place <= 15;
                boolean not = in && (v < 0 || v > 9);
                Due.is("item " + place + " is " + v, x.sow(0, 0, 2, 1), not ? NOT : in ? v : 0);
                Due.is("grass by it", x.grass(0, in ? place - 1 : 0), not ? 5 : in ? v : 0);
                Due.is("grass at its end", x.grass(0, 14), not ? 5 : place == 15 ? v : 0);
            }
        }
    }

    /** "BAD; NULL; CAST; INDEX; NOT". */
    private static void sowInOrderOfRefusals() {
        MownWords x = Due.of("0", "");
        Due.is("all is wrong, bad first", x.sow(1, 0, 0, -1), BAD);
        Due.is("lane 3 of nothing", x.sow(0, 0, 3, -1), BAD);
        Due.is("nothing there", x.sow(0, 0, 0, -1), NULL);
        x.sheet(0, 0, 16);
        for (int i = 0; i < 16; i++) {
            x.item(0, 0, i, 10);
        }
        Due.is("strip 1 of another lane", x.sow(1, 0, 1, -1), BAD);
        Due.is("another lane, no index, no grass", x.sow(0, 0, 1, -1), CAST);
        Due.is("no index, no grass", x.sow(0, 0, 0, -1), INDEX);
        Due.is("no index at the end, no grass", x.sow(0, 0, 0, 2), INDEX);
        Due.is("no grass", x.sow(0, 0, 0, 1), NOT);
        Due.is("strip 1, no grass", x.sow(1, 0, 0, 1), BAD);
        Due.is("strip -1, no grass", x.sow(-1, 0, 0, 1), BAD);
        Due.is("no strips", new MownWords().sow(0, 0, 0, 0), BAD);
        Due.grass("nothing sown", x, 0, Due.all(5));
    }

    private static void sowMakesNoHay() {
        MownWords x = Due.of("3", "");
        x.sheet(0, 0, 15);
        Due.is("all is 0", x.sow(0, 0, 0, 0), 0);
        Due.is("no hay", x.hay(3), 0);
        Due.is("all seen", x.seen(0), 32767);
    }

    /** "What STRIPS READ as, by numbers, comes to a SHEET, from one on: how many." */
    private static void filmOfAllStrips() {
        for (int lane = 0; lane < 3; lane++) {
            MownWords x = Due.of("012345012", "");
            for (int strip = 0; strip < 9; strip++) {
                Due.show(x, strip, x.letter(8 - strip));
            }
            x.sheet(0, lane, 24);
            Due.is("nine", x.film(0, lane, 15), 9);
            Due.is("eight downward, sown", x.sow(4, 0, lane, 9), 36);
            Due.grass("by numbers", x, 4, 0, 0, 0, 0, 0, 0, 8, 7, 6, 5, 4, 3, 2, 1, 0);
        }
    }

    /** "INDEX": of the first and of the last STRIP. */
    private static void filmPlaces() {
        for (int strips = 1; strips <= 9; strips++) {
            MownWords x = Due.of("012345012".substring(0, strips), "");
            for (int n : new int[] {0, strips - 1, strips, strips + 1, 24}) {
                x.sheet(0, 0, n);
                Due.is(strips + " of " + n + " from 0", x.film(0, 0, 0), strips <= n ? strips : INDEX);
                Due.is(strips + " of " + n + " to the end", x.film(0, 0, n - strips), strips <= n ? strips : INDEX);
                Due.is(strips + " of " + n + " beyond the end", x.film(0, 0, n - strips + 1), INDEX);
                Due.is(strips + " of " + n + " from the end", x.film(0, 0, n), INDEX);
                for (int from : ELSEWHERE) {
                    Due.is(strips + " of " + n + " from " + from, x.film(0, 0, from), INDEX);
                }
            }
        }
    }

    /** "(of none, too: from below 0, or above how many there are)". */
    private static void filmOfNone() {
        for (int n : new int[] {0, 1, 24}) {
            MownWords x = new MownWords();
            x.sheet(0, 0, n);
            Due.is("none of " + n + " from 0", x.film(0, 0, 0), 0);
            Due.is("none of " + n + " from the end", x.film(0, 0, n), 0);
            Due.is("none of " + n + " from behind it", x.film(0, 0, n + 1), INDEX);
            for (int from : ELSEWHERE) {
                Due.is("none of " + n + " from " + from, x.film(0, 0, from), INDEX);
            }
            Due.is("none as another lane", x.film(0, 1, 0), CAST);
            Due.is("none as lane 3", x.film(0, 3, 0), BAD);
            Due.is("none on nothing", x.film(1, 0, 0), NULL);
        }
    }

    /** "(-4: nothing)": what is not read is no nought. */
    private static void filmOfNothingRead() {
        for (int lane = 0; lane < 3; lane++) {
            MownWords x = Due.of("01", "");
            x.sheet(0, lane, 15);
            Due.is("two", x.film(0, lane, 13), 2);
            Due.is("they are not 0 .. 9", x.sow(0, 0, lane, 0), NOT);
            x.item(0, lane, 13, 0);
            Due.is("the last is not either", x.sow(0, 0, lane, 0), NOT);
            x.item(0, lane, 14, 0);
            Due.is("but those were all", x.sow(0, 0, lane, 0), 0);
        }
    }

    private static void filmLeavesTheRest() {
        MownWords x = Due.of("01", "");
        x.sheet(0, 0, 16);
        for (int i = 0; i < 16; i++) {
            x.item(0, 0, i, 9);
        }
        Due.show(x, 0, x.letter(2));
        Due.show(x, 1, x.letter(3));
        Due.is("refused", x.film(0, 0, 15), INDEX);
        Due.is("nines", x.sow(1, 0, 0, 1), 135);
        Due.show(x, 1, x.letter(3));
        Due.is("two", x.film(0, 0, 7), 2);
        Due.is("thirteen nines, 2 and 3", x.sow(1, 0, 0, 0), 13 * 9 + 5);
        Due.is("2", x.grass(1, 7), 2);
        Due.is("3", x.grass(1, 8), 3);
        Due.is("9 before", x.grass(1, 6), 9);
        Due.is("9 behind", x.grass(1, 9), 9);
    }
}
