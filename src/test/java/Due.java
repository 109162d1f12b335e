/** Counts the answers that are not the due ones, and helps to tell texts. */
final class Due {
    private static int wrong = 0;

    private Due() {
    }

    static void is(String call, long got, long want) {
        if (got != want) {
            wrong++;
            System.out.println(call + " answered " + got + ", due is " + want);
        }
    }

    /** Types a text of one byte or more: what the last call answered. */
    static int type(MownWords x, String text) {
        int answer = 0;
        for (int from = 0; from < text.length(); from += 8) {
            String part = text.substring(from, Math.min(from + 8, text.length()));
            long w = 0;
            for (char sign : part.toCharArray()) {
                w = w << 8 | sign;
            }
            answer = x.type(w, part.length());
        }
        return answer;
    }

    static int strips(MownWords x, String text) {
        type(x, text);
        return x.strips();
    }

    static int words(MownWords x, String text) {
        type(x, text);
        return x.words();
    }

    /** Makes the GRASS of a STRIP high, but for the CELLS of a set, which become 0; by way of SHEET 3, which is lost. */
    static void show(MownWords x, int strip, int cells) {
        x.sheet(3, 0, 15);
        for (int cell = 0; cell < 15; cell++) {
            x.item(3, 0, cell, (cells >> cell & 1) == 1 ? 0 : 9);
        }
        is("sow for show", x.sow(strip, 3, 0, 0), 9 * (15 - Integer.bitCount(cells)));
        x.drop(3);
    }

    static void end() {
        System.out.println(wrong == 0 ? "all answers are as due" : wrong + " answers are not as due");
        if (wrong != 0) {
            System.exit(1);
        }
    }
}
