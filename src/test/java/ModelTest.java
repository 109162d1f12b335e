import java.util.StringJoiner;

/** Long mixed runs of calls, each answer held against the Model. */
public final class ModelTest {
    private static final int CALLS = 512;
    private static final String[] WORDS = {
        "mow", "mown", "ow", "own", "hay", "cow", "ox", "amen", "men", "me", "a", "lilt", "till", "it", "tilt", "om", "no", "won"};

    private long seed;
    private MownWords x;
    private Model model;
    private int left;
    private String run;

    private ModelTest(long seed) {
        this.seed = seed;
    }

    public static void main(String[] args) {
        for (int run = 1; run <= 400; run++) {
            ModelTest test = new ModelTest(run * 7919L);
            test.run = "run " + run + ": ";
            test.go();
        }
        Due.end();
    }

    private int below(int bound) {
        seed = seed * 6364136223846793005L + 1442695040888963407L;
        return (int) ((seed >>> 33) % bound);
    }

    /** Mostly from 0 to bound - 1, at times beside that, seldom far off. */
    private int around(int bound) {
        int way = below(40);
        if (way == 0) {
            return new int[] {Integer.MIN_VALUE, Integer.MAX_VALUE, -1, bound, bound + 1, -2}[below(6)];
        }
        return way == 1 ? below(bound + 2) - 1 : below(Math.max(1, bound));
    }

    private void is(String call, int got, int want) {
        left--;
        Due.is(run + call, got, want);
    }

    private void go() {
        x = new MownWords();
        model = new Model();
        left = CALLS;
        if (below(10) > 0) {
            type(" 012345012".substring(below(2), 2 + below(9)));
            is("strips", x.strips(), model.strips());
            type(someWords());
            is("words", x.words(), model.words());
        }
        for (int turn = 0; left > 30; turn++) {
            change(below(28));
            ask(below(26), around(model.count(1)), around(model.count(0)));
            if (turn % 40 == 39) {
                askAll();
            }
        }
    }

    private void askAll() {
        for (int i = -2; i <= 5 && left > 30; i++) {
            is("read " + i, x.read(i), model.read(i));
            is("plan " + i, x.plan(i), model.plan(i));
        }
        for (int word = 0; word < model.count(1) && left > 30; word++) {
            int strip = below(Math.max(1, model.count(0)));
            is("written " + word + " " + strip, x.written(word, strip), model.written(word, strip));
            is("may " + word + " " + strip, x.may(word, strip), model.may(word, strip));
            is("fades " + word + " " + strip, x.fades(word, strip), model.fades(word, strip));
        }
    }

    private String someWords() {
        StringJoiner text = new StringJoiner(below(4) == 0 ? " , " : ",");
        for (int i = below(5); i >= 0; i--) {
            String word = WORDS[below(WORDS.length)];
            int way = below(6);
            text.add(way < 3 ? word + ":" + below(way == 0 ? 110 : 100) : way == 3 ? word + " : 00" + below(60) : word);
        }
        return text.toString();
    }

    private String spoilt(String text) {
        if (below(4) > 0 || text.isEmpty()) {
            return text;
        }
        int place = below(text.length());
        return text.substring(0, place) + " ,:0a9z5;6-".charAt(below(11)) + text.substring(place + below(2));
    }

    private void type(String text) {
        for (int from = 0; from < text.length(); from += 8) {
            String part = text.substring(from, Math.min(text.length(), from + 8));
            long w = below(2) == 0 ? 0 : 0x6162636465666768L;
            for (char sign : part.toCharArray()) {
                w = w << 8 | sign;
            }
            is("type " + part, x.type(w, part.length()), model.type(w, part.length()));
        }
    }

    private void change(int what) {
        int strip = around(model.count(0));
        int word = around(model.count(1));
        switch (what) {
            case 0 -> {
                int owner = around(6);
                is("strip " + owner, x.strip(owner), model.strip(owner));
            }
            case 1, 2 -> {
                int setting = around(4);
                int v = around(6);
                is("set " + setting + " " + v, x.set(setting, v), model.set(setting, v));
            }
            case 3, 4, 5 -> mow(strip);
            case 6 -> is("cut " + strip, x.cut(strip), model.cut(strip));
            case 7, 8 -> {
                int cell = around(15);
                int fault = around(2);
                is("fault " + strip + " " + cell + " " + fault, x.fault(strip, cell, fault), model.fault(strip, cell, fault));
            }
            case 9, 10, 11 -> {
                int n = below(3) == 0 ? around(31) : 1 + below(3);
                is("weeks " + n, x.weeks(n), model.weeks(n));
            }
            case 12 -> tell();
            case 13 -> {
                int v = around(100);
                is("pay " + word + " " + v, x.pay(word, v), model.pay(word, v));
            }
            case 14 -> {
                int one = around(6);
                int other = around(6);
                boolean feud = below(3) == 0;
                is("feud " + one + " " + other + " " + feud, x.feud(one, other, feud), model.feud(one, other, feud));
            }
            case 15, 16, 17 -> is("write " + word + " " + strip, x.write(word, strip), model.write(word, strip));
            case 18 -> changeImage();
            case 19, 20 -> sheets();
            case 21 -> sow();
            default -> mowPlan();
        }
    }

    private void mow(int strip) {
        String word = WORDS[below(WORDS.length)];
        int letter = below(3) == 0 ? around(26) : word.charAt(below(word.length())) - 'a';
        is("mow " + strip + " " + letter, x.mow(strip, letter), model.mow(strip, letter));
    }

    private void mowPlan() {
        int first = model.plan(0);
        is("plan 0", x.plan(0), first);
        if (first >= 0) {
            is("write the first of the plan", x.write(first % 10, first / 10), model.write(first % 10, first / 10));
        }
    }

    private void tell() {
        if (below(4) == 0) {
            type(spoilt("0 1 2 3 4 5 0 1 2 3".substring(0, 1 + below(18))));
            is("strips", x.strips(), model.strips());
        } else {
            type(spoilt(someWords()));
            is("words", x.words(), model.words());
        }
    }

    private void changeImage() {
        if (below(3) > 0) {
            is("image", x.image(), model.image());
        } else {
            is("restore", x.restore(), model.restore());
        }
    }

    private void sheets() {
        int sheet = around(4);
        int lane = around(3);
        int i = around(24);
        switch (below(5)) {
            case 0 -> is("sheet " + sheet + " " + lane + " " + i, x.sheet(sheet, lane, i), model.sheet(sheet, lane, i));
            case 1 -> is("drop " + sheet, x.drop(sheet), model.drop(sheet));
            case 2, 3 -> {
                int v = below(2) == 0 ? below(14) : (below(3) - 1) * 65536 + below(10);
                is("item " + sheet + " " + lane + " " + i + " " + v, x.item(sheet, lane, i, v), model.item(sheet, lane, i, v));
            }
            default -> is("film " + sheet + " " + lane + " " + i, x.film(sheet, lane, i), model.film(sheet, lane, i));
        }
    }

    private void sow() {
        int strip = around(model.count(0));
        int sheet = around(4);
        int lane = around(3);
        int from = around(10);
        if (below(3) == 0 && left > 60) {
            is("sheet", x.sheet(sheet, lane, 24), model.sheet(sheet, lane, 24));
            int shape = Model.SHAPES[below(26)];
            for (int i = 0; i < 15; i++) {
                int v = below(20) == 0 ? below(12) - 1 : (shape >> i & 1) == 1 ? below(3) : 3 + below(7);
                is("item", x.item(sheet, lane, from + i, v), model.item(sheet, lane, from + i, v));
            }
        }
        is("sow " + strip + " " + sheet + " " + lane + " " + from, x.sow(strip, sheet, lane, from), model.sow(strip, sheet, lane, from));
    }

    private void ask(int what, int word, int strip) {
        String at = " " + word + " " + strip;
        int small = around(3);
        int place = around(11) - 2;
        int letter = around(26);
        switch (what) {
            case 0 -> is("grass" + at, x.grass(strip, letter - 5), model.grass(strip, letter - 5));
            case 1 -> is("letter " + letter, x.letter(letter), model.letter(letter));
            case 2 -> is("seen " + strip, x.seen(strip), model.seen(strip));
            case 3 -> is("reads " + strip, x.reads(strip), model.reads(strip));
            case 4 -> is("off " + strip, x.off(strip), model.off(strip));
            case 5 -> is("hay " + place, x.hay(place), model.hay(place));
            case 6 -> is("told " + word + " " + place, x.told(word, place), model.told(word, place));
            case 7 -> is("count " + small, x.count(small + 1), model.count(small + 1));
            case 8 -> is("written" + at, x.written(word, strip), model.written(word, strip));
            case 9, 10, 11 -> is("read " + place, x.read(place), model.read(place));
            case 12, 13 -> is("nearest" + at + " " + small, x.nearest(strip, small), model.nearest(strip, small));
            case 14 -> is("may" + at, x.may(word, strip), model.may(word, strip));
            case 15 -> is("lost" + at, x.lost(word, strip), model.lost(word, strip));
            case 16, 17, 18 -> is("plan " + place, x.plan(place), model.plan(place));
            case 19, 20 -> {
                int owner = around(6);
                is("share" + at + " " + owner, x.share(word, strip, owner), model.share(word, strip, owner));
            }
            case 21 -> odds(letter, around(9));
            case 22, 23 -> is("fades" + at, x.fades(word, strip), model.fades(word, strip));
            default -> is("brief " + word, x.brief(word), model.brief(word));
        }
    }

    private void odds(int letter, int c) {
        is("sure " + letter + " " + c, x.sure(letter, c), model.sure(letter, c));
        is("taken " + letter + " " + c, x.taken(letter, c), model.taken(letter, c));
    }
}
