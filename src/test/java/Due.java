import java.util.Arrays;

/** Counts the answers that are not the due ones, and helps to make meadows. */
final class Due {
    private static int wrong = 0;

    private Due() {
    }

    static void is(String call, long got, long want) {
        if (got != want) {
            wrong++;
            System.out.println(call + " answered " + got + ", due is " + want);
        }
    }

    /** A new object with STRIPS of these OWNERS and these WORDS; none, if a text is empty. */
    static MownWords of(String owners, String words) {
        MownWords x = new MownWords();
        if (!owners.isEmpty()) {
            is("strips " + owners, strips(x, owners), owners.length());
        }
        String[] each = words.split(",");
        for (int from = 0; from < each.length && !words.isEmpty(); from += 4) {
            String[] some = Arrays.copyOfRange(each, from, Math.min(from + 4, each.length));
            is("words " + String.join(",", some), words(x, String.join(",", some)), some.length);
        }
        return x;
    }

    /** Types a text of one byte or more: what the last call answered. */
    static int type(MownWords x, String text) {
        int answer = 0;
        for (int from = 0; from < text.length(); from += 8) {
            String part = text.substring(from, Math.min(from + 8, text.length()));
            long w = 0;
            for (char sign : part.toCharArray()) {
                w = w << 8 | sign;
            }
            answer = x.type(w, part.length());
        }
        return answer;
    }

    static int strips(MownWords x, String text) {
        type(x, text);
        return x.strips();
    }

    static int words(MownWords x, String text) {
        type(x, text);
        return x.words();
    }

    /** Makes the GRASS of a STRIP high, but for the CELLS of a set, which become 0; by way of SHEET 3, which is lost. */
    static void show(MownWords x, int strip, int cells) {
        int[] blades = new int[15];
        for (int cell = 0; cell < 15; cell++) {
            blades[cell] = (cells >> cell & 1) == 1 ? 0 : 9;
        }
        sow(x, strip, blades);
    }

    /** Lets the first STRIPS read as a text ('.': as nothing). */
    static void show(MownWords x, String text) {
        for (int strip = 0; strip < text.length(); strip++) {
            show(x, strip, text.charAt(strip) == '.' ? 0 : x.letter(text.charAt(strip) - 'a'));
        }
    }

    /** Makes GRASS of a STRIP what is told, in 18 calls; by way of SHEET 3, which is lost. */
    static void sow(MownWords x, int strip, int... blades) {
        x.sheet(3, 0, 15);
        int sum = 0;
        for (int cell = 0; cell < 15; cell++) {
            x.item(3, 0, cell, blades[cell]);
            sum += blades[cell];
        }
        is("sow of strip " + strip, x.sow(strip, 3, 0, 0), sum);
        x.drop(3);
    }

    /** Each CELL of a STRIP, in 15 calls. */
    static void grass(String when, MownWords x, int strip, int... blades) {
        for (int cell = 0; cell < 15; cell++) {
            is(when + ": grass of strip " + strip + ", cell " + cell, x.grass(strip, cell), blades[cell]);
        }
    }

    /** Fifteen times the same. */
    static int[] all(int blade) {
        int[] blades = new int[15];
        Arrays.fill(blades, blade);
        return blades;
    }

    static void end() {
        System.out.println(wrong == 0 ? "all answers are as due" : wrong + " answers are not as due");
        if (wrong != 0) {
            System.exit(1);
        }
    }
}
