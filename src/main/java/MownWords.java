import java.util.Arrays;

/** Strips of meadow into which letters are mown, and the words that monks read there. */
public final class MownWords {
    public static final int BAD = -1, NOT = -2, FULL = -3, NONE = -4, NULL = -11, CAST = -12, INDEX = -13, SIZE = -14;

    private static final int OWNERS = 6, STRIPS = 9, CELLS = 15, LETTERS = 26, WORDS = 10;
    private static final int LONGEST_WORD = 6, MOST_WORDS_TOLD = 4, MOST_WEEKS = 30, MOST_SIXTEENTHS = 8;
    private static final int ALL_CELLS = (1 << CELLS) - 1;

    private static final int FRESH_GRASS = 5, HIGHEST_GRASS = 9, TOO_SHORT_TO_MOW = 2;
    private static final int FIRST_PAY = 10, HIGHEST_PAY = 99;

    private static final int GROWS = 0, LOW = 1, FAR = 2, PRICE = 3;
    private static final int[] FIRST_SETTINGS = {2, 2, 3, 1};
    private static final int[] HIGHEST_SETTINGS = {5, 8, 7, 9};

    private static final int[] SHAPES = {
        23530, 15083, 25166, 15211, 29391, 4815, 27470, 23533, 29847, 11044, 23277, 31305, 23549,
        23547, 11114, 5099, 26474, 22379, 14478, 9367, 27501, 11117, 24557, 23213, 9389, 29351};

    /** A key is this times the CELLS in which a LETTER differs, and the LETTER: the least key is the closest, first LETTER. */
    private static final int KEY_OFF = 32;

    private static final int TAPE_LENGTH = 80, FIRST_FAULT = -20, TAPE_END = -1;
    private static final int SHEETS = 4, SHEET_LENGTH = 24;
    private static final int BYTES = 0, SHORTS = 1, INTS = 2, NO_LANE = -1;

    private final Meadow meadow = new Meadow();
    private final Meadow kept = new Meadow();
    private boolean isKept = false;
    private final Row row = new Row();
    private final Odds odds = new Odds();
    private final Tape tape = new Tape();
    private final Sheet[] sheets = new Sheet[SHEETS];

    public MownWords() {
        for (int sheet = 0; sheet < SHEETS; sheet++) {
            sheets[sheet] = new Sheet();
        }
    }

    // ---- 1 strips, grass

    public int strip(int owner) {
        if (!isBelow(owner, OWNERS)) {
            return BAD;
        }
        if (meadow.stripCount >= STRIPS) {
            return FULL;
        }
        meadow.addStrip(owner);
        return meadow.stripCount - 1;
    }

    public int set(int what, int v) {
        if (!isBelow(what, HIGHEST_SETTINGS.length) || v < 0 || v > HIGHEST_SETTINGS[what]) {
            return BAD;
        }
        int old = meadow.settings[what];
        meadow.settings[what] = v;
        return old;
    }

    public int grass(int strip, int cell) {
        return isStrip(strip) && isBelow(cell, CELLS) ? meadow.strips[strip].blades[cell] : BAD;
    }

    public int letter(int letter) {
        return isBelow(letter, LETTERS) ? SHAPES[letter] : BAD;
    }

    public int seen(int strip) {
        return isStrip(strip) ? meadow.seenCells(strip) : BAD;
    }

    public int reads(int strip) {
        return isStrip(strip) ? meadow.letterOn(strip) : BAD;
    }

    public int off(int strip) {
        return isStrip(strip) ? closestKey(meadow.seenCells(strip)) / KEY_OFF : BAD;
    }

    public int mow(int strip, int letter) {
        if (!isStrip(strip) || !isBelow(letter, LETTERS)) {
            return BAD;
        }
        return meadow.strips[strip].hasGrown(SHAPES[letter]) ? meadow.harvest(strip, SHAPES[letter]) : NOT;
    }

    public int cut(int strip) {
        return isStrip(strip) ? meadow.harvest(strip, meadow.strips[strip].grownCells()) : BAD;
    }

    public int fault(int strip, int cell, int what) {
        if (!isStrip(strip) || !isBelow(cell, CELLS) || !isBelow(what, 2)) {
            return BAD;
        }
        int[] blades = meadow.strips[strip].blades;
        int old = blades[cell];
        blades[cell] = what == 0 ? 0 : HIGHEST_GRASS;
        return old;
    }

    public int weeks(int n) {
        return n >= 1 && n <= MOST_WEEKS ? meadow.growFor(n) : BAD;
    }

    public int hay(int owner) {
        return isBelow(owner, OWNERS) ? meadow.hays[owner] : BAD;
    }

    public int type(long w, int n) {
        return n >= 1 && n <= 8 ? tape.append(w, n) : BAD;
    }

    public int strips() {
        int told = tape.readOwners();
        tape.length = 0;
        if (told > 0) {
            meadow.replaceStrips(tape.owners, told);
        }
        return told;
    }

    public int words() {
        int told = tape.readWords();
        tape.length = 0;
        if (told > WORDS - meadow.wordCount) {
            return FULL;
        }
        for (int word = 0; word < told; word++) {
            meadow.addWord(tape.toldWords[word]);
        }
        return told;
    }

    public int told(int word, int i) {
        if (!isWord(word) || i < -2) {
            return BAD;
        }
        Word told = meadow.words[word];
        if (i == -2) {
            return told.wage;
        }
        if (i == -1) {
            return told.length;
        }
        return i < told.length ? told.letters[i] : NONE;
    }

    public int pay(int word, int v) {
        if (!isWord(word) || v < 0 || v > HIGHEST_PAY) {
            return BAD;
        }
        int old = meadow.words[word].wage;
        meadow.words[word].wage = v;
        return old;
    }

    public int feud(int one, int other, boolean is) {
        if (!isBelow(one, OWNERS) || !isBelow(other, OWNERS) || one == other) {
            return BAD;
        }
        int old = meadow.foes[one] >> other & 1;
        meadow.setFoe(one, other, is);
        meadow.setFoe(other, one, is);
        return old;
    }

    public int count(int what) {
        switch (what) {
            case 0: return meadow.stripCount;
            case 1: return meadow.wordCount;
            case 2: return meadow.feudCount();
            case 3: return meadow.allHay();
            default: return BAD;
        }
    }

    // ---- 2 words

    public int written(int word, int strip) {
        if (!isWord(word) || !isStrip(strip)) {
            return BAD;
        }
        return meadow.isWritten(meadow.words[word], strip, 0) ? 1 : 0;
    }

    public int read(int i) {
        if (!isRowPlace(i)) {
            return BAD;
        }
        row.weighWritten(meadow);
        row.choose(meadow);
        return row.answer(i);
    }

    public int nearest(int strip, int what) {
        if (!isStrip(strip) || !isBelow(what, 2)) {
            return BAD;
        }
        int nearest = NONE;
        int fewest = NONE;
        for (int word = 0; word < meadow.wordCount; word++) {
            if (meadow.hasRoom(meadow.words[word], strip)) {
                int differ = meadow.cellsOff(meadow.words[word], strip);
                if (nearest == NONE || differ < fewest) {
                    nearest = word;
                    fewest = differ;
                }
            }
        }
        return what == 0 ? nearest : fewest;
    }

    public int may(int word, int strip) {
        if (!isWord(word) || !isStrip(strip)) {
            return BAD;
        }
        return meadow.isAllowed(meadow.words[word], strip) ? 1 : 0;
    }

    public int lost(int word, int strip) {
        if (!isWord(word) || !isStrip(strip)) {
            return BAD;
        }
        return meadow.hasRoom(meadow.words[word], strip) ? meadow.lossBy(meadow.words[word], strip) : NOT;
    }

    public int plan(int i) {
        if (!isRowPlace(i)) {
            return BAD;
        }
        row.weighAllowed(meadow);
        row.choose(meadow);
        return row.answer(i);
    }

    public int write(int word, int strip) {
        if (!isWord(word) || !isStrip(strip)) {
            return BAD;
        }
        Word mown = meadow.words[word];
        if (!meadow.isAllowed(mown, strip)) {
            return NOT;
        }
        int harvested = 0;
        for (int i = 0; i < mown.length; i++) {
            harvested += meadow.harvest(strip + i, SHAPES[mown.letters[i]]);
        }
        return harvested;
    }

    public int share(int word, int strip, int owner) {
        if (!isWord(word) || !isStrip(strip) || !isBelow(owner, OWNERS)) {
            return BAD;
        }
        Word shared = meadow.words[word];
        if (!meadow.hasRoom(shared, strip)) {
            return NOT;
        }
        int surplus = shared.wage - meadow.lossBy(shared, strip);
        return surplus < 0 ? NOT : meadow.shareOf(shared, strip, owner, surplus);
    }

    // ---- 3 odds, fading, short forms

    public int sure(int letter, int c) {
        if (!isBelow(letter, LETTERS) || c < 0 || c > MOST_SIXTEENTHS) {
            return BAD;
        }
        return odds.surenessOf(letter, c, meadow.settings[FAR]);
    }

    public int taken(int letter, int c) {
        if (!isBelow(letter, LETTERS) || c < 0 || c > MOST_SIXTEENTHS) {
            return BAD;
        }
        return odds.mistakeFor(letter, c, meadow.settings[FAR]);
    }

    public int fades(int word, int strip) {
        if (!isWord(word) || !isStrip(strip)) {
            return BAD;
        }
        Word fading = meadow.words[word];
        if (!meadow.isWritten(fading, strip, 0)) {
            return NOT;
        }
        for (int week = 1; week <= MOST_WEEKS; week++) {
            if (!meadow.isWritten(fading, strip, week)) {
                return week;
            }
        }
        return NONE;
    }

    public int brief(int word) {
        if (!isWord(word)) {
            return BAD;
        }
        int best = NONE;
        int fewest = LONGEST_WORD + 1;
        int all = 1 << meadow.words[word].length;
        for (int form = 1; form < all; form++) {
            if (Integer.bitCount(form) < fewest && meadow.isOwnForm(meadow.words[word], form)) {
                best = form;
                fewest = Integer.bitCount(form);
            }
        }
        return best;
    }

    public int image() {
        kept.copyFrom(meadow);
        isKept = true;
        return 1;
    }

    public int restore() {
        if (!isKept) {
            return NONE;
        }
        meadow.copyFrom(kept);
        return 1;
    }

    // ---- 4 sheets

    public int sow(int strip, int sheet, int lane, int from) {
        if (!isStrip(strip) || !isSheet(sheet, lane)) {
            return BAD;
        }
        Sheet sown = sheets[sheet];
        int refused = sown.refusal(lane, from, CELLS);
        if (refused != 0) {
            return refused;
        }
        return sown.holdsGrass(from) ? meadow.strips[strip].sowFrom(sown.items, from) : NOT;
    }

    public int sheet(int sheet, int lane, int n) {
        if (!isSheet(sheet, lane) || n > SHEET_LENGTH) {
            return BAD;
        }
        if (n < 0) {
            return SIZE;
        }
        sheets[sheet].begin(lane, n);
        return n;
    }

    public int drop(int sheet) {
        if (!isBelow(sheet, SHEETS)) {
            return BAD;
        }
        Sheet dropped = sheets[sheet];
        if (dropped.lane == NO_LANE) {
            return NULL;
        }
        dropped.lane = NO_LANE;
        return dropped.length;
    }

    public int item(int sheet, int lane, int i, int v) {
        if (!isSheet(sheet, lane)) {
            return BAD;
        }
        int refused = sheets[sheet].refusal(lane, i, 1);
        if (refused != 0) {
            return refused;
        }
        sheets[sheet].put(i, v);
        return 1;
    }

    public int film(int sheet, int lane, int from) {
        if (!isSheet(sheet, lane)) {
            return BAD;
        }
        int refused = sheets[sheet].refusal(lane, from, meadow.stripCount);
        if (refused != 0) {
            return refused;
        }
        for (int strip = 0; strip < meadow.stripCount; strip++) {
            sheets[sheet].put(from + strip, meadow.letterOn(strip));
        }
        return meadow.stripCount;
    }

    // ---- what calls may name

    private static boolean isBelow(int number, int bound) {
        return number >= 0 && number < bound;
    }

    private boolean isStrip(int strip) {
        return isBelow(strip, meadow.stripCount);
    }

    private boolean isWord(int word) {
        return isBelow(word, meadow.wordCount);
    }

    private static boolean isRowPlace(int i) {
        return i >= -2 && i < STRIPS;
    }

    private static boolean isSheet(int sheet, int lane) {
        return isBelow(sheet, SHEETS) && isBelow(lane, INTS + 1);
    }

    /** The key of the LETTER that differs from a set of CELLS in the fewest. */
    private static int closestKey(int cells) {
        int least = KEY_OFF * (CELLS + 1);
        for (int letter = 0; letter < LETTERS; letter++) {
            least = Math.min(least, KEY_OFF * Integer.bitCount(cells ^ SHAPES[letter]) + letter);
        }
        return least;
    }

    /** A STRIP: its OWNER and its GRASS. */
    private static final class Strip {
        int owner = 0;
        final int[] blades = new int[CELLS];

        void begin(int newOwner) {
            owner = newOwner;
            Arrays.fill(blades, FRESH_GRASS);
        }

        void copyFrom(Strip other) {
            owner = other.owner;
            System.arraycopy(other.blades, 0, blades, 0, CELLS);
        }

        int cellsUpTo(int height) {
            int cells = 0;
            for (int cell = 0; cell < CELLS; cell++) {
                if (blades[cell] <= height) {
                    cells |= 1 << cell;
                }
            }
            return cells;
        }

        int grownCells() {
            return ALL_CELLS & ~cellsUpTo(TOO_SHORT_TO_MOW);
        }

        boolean hasGrown(int cells) {
            return (cells & ~grownCells()) == 0;
        }

        int grassOf(int cells) {
            int sum = 0;
            for (int cell = 0; cell < CELLS; cell++) {
                if ((cells >> cell & 1) == 1) {
                    sum += blades[cell];
                }
            }
            return sum;
        }

        void cutDown(int cells) {
            for (int cell = 0; cell < CELLS; cell++) {
                if ((cells >> cell & 1) == 1) {
                    blades[cell] = 0;
                }
            }
        }

        int growBy(int more) {
            int highest = 0;
            for (int cell = 0; cell < CELLS; cell++) {
                blades[cell] = Math.min(HIGHEST_GRASS, blades[cell] + more);
                if (blades[cell] == HIGHEST_GRASS) {
                    highest++;
                }
            }
            return highest;
        }

        int sowFrom(int[] items, int from) {
            System.arraycopy(items, from, blades, 0, CELLS);
            return grassOf(ALL_CELLS);
        }
    }

    /** A WORD: its LETTERS and its PAY. */
    private static final class Word {
        int length = 0;
        int wage = FIRST_PAY;
        final int[] letters = new int[LONGEST_WORD];

        void copyFrom(Word other) {
            length = other.length;
            wage = other.wage;
            System.arraycopy(other.letters, 0, letters, 0, LONGEST_WORD);
        }

        boolean isLike(Word other) {
            if (length != other.length) {
                return false;
            }
            for (int i = 0; i < length; i++) {
                if (letters[i] != other.letters[i]) {
                    return false;
                }
            }
            return true;
        }

        /** Whether the LETTERS of a form of this WORD stand in another one in the same order, others between them or not. */
        boolean hasFormIn(int form, Word other) {
            int from = 0;
            for (int i = 0; i < length; i++) {
                if ((form >> i & 1) == 1) {
                    from = other.placeBehind(letters[i], from);
                    if (from < 0) {
                        return false;
                    }
                }
            }
            return true;
        }

        private int placeBehind(int letter, int from) {
            for (int i = from; i < length; i++) {
                if (letters[i] == letter) {
                    return i + 1;
                }
            }
            return NONE;
        }
    }

    /** All that an IMAGE keeps. */
    private static final class Meadow {
        final int[] settings = new int[FIRST_SETTINGS.length];
        final Strip[] strips = new Strip[STRIPS];
        int stripCount = 0;
        final Word[] words = new Word[WORDS];
        int wordCount = 0;
        /** Of each OWNER the set of those with whom a FEUD is. */
        final int[] foes = new int[OWNERS];
        final int[] hays = new int[OWNERS];

        Meadow() {
            System.arraycopy(FIRST_SETTINGS, 0, settings, 0, FIRST_SETTINGS.length);
            for (int strip = 0; strip < STRIPS; strip++) {
                strips[strip] = new Strip();
            }
            for (int word = 0; word < WORDS; word++) {
                words[word] = new Word();
            }
        }

        void copyFrom(Meadow other) {
            System.arraycopy(other.settings, 0, settings, 0, FIRST_SETTINGS.length);
            System.arraycopy(other.foes, 0, foes, 0, OWNERS);
            System.arraycopy(other.hays, 0, hays, 0, OWNERS);
            stripCount = other.stripCount;
            for (int strip = 0; strip < STRIPS; strip++) {
                strips[strip].copyFrom(other.strips[strip]);
            }
            wordCount = other.wordCount;
            for (int word = 0; word < WORDS; word++) {
                words[word].copyFrom(other.words[word]);
            }
        }

        void addStrip(int owner) {
            if (stripCount < STRIPS) {
                strips[stripCount].begin(owner);
                stripCount++;
            }
        }

        void replaceStrips(int[] owners, int number) {
            stripCount = 0;
            for (int strip = 0; strip < number; strip++) {
                addStrip(owners[strip]);
            }
        }

        void addWord(Word word) {
            if (wordCount < WORDS) {
                words[wordCount].copyFrom(word);
                wordCount++;
            }
        }

        void setFoe(int owner, int other, boolean is) {
            foes[owner] = is ? foes[owner] | 1 << other : foes[owner] & ~(1 << other);
        }

        int feudCount() {
            int sides = 0;
            for (int owner = 0; owner < OWNERS; owner++) {
                sides += Integer.bitCount(foes[owner]);
            }
            return sides / 2;
        }

        int allHay() {
            int sum = 0;
            for (int owner = 0; owner < OWNERS; owner++) {
                sum += hays[owner];
            }
            return sum;
        }

        int growFor(int weeks) {
            int highest = 0;
            for (int strip = 0; strip < stripCount; strip++) {
                highest += strips[strip].growBy(weeks * settings[GROWS]);
            }
            return highest;
        }

        int harvest(int strip, int cells) {
            int harvested = strips[strip].grassOf(cells);
            strips[strip].cutDown(cells);
            hays[strips[strip].owner] += harvested;
            return harvested;
        }

        int seenCells(int strip) {
            return strips[strip].cellsUpTo(settings[LOW]);
        }

        int letterOn(int strip) {
            return letterSeenAs(seenCells(strip));
        }

        int letterSeenAs(int cells) {
            int key = closestKey(cells);
            return key / KEY_OFF > settings[FAR] ? NONE : key % KEY_OFF;
        }

        boolean hasRoom(Word word, int strip) {
            return strip + word.length <= stripCount;
        }

        boolean isWritten(Word word, int strip, int weeksOn) {
            if (!hasRoom(word, strip)) {
                return false;
            }
            // What grows by so much stays seen if it is that much lower now: no GRASS has to grow to tell.
            int low = settings[LOW] - weeksOn * settings[GROWS];
            for (int i = 0; i < word.length; i++) {
                if (letterSeenAs(strips[strip + i].cellsUpTo(low)) != word.letters[i]) {
                    return false;
                }
            }
            return true;
        }

        int cellsOff(Word word, int strip) {
            int differ = 0;
            for (int i = 0; i < word.length; i++) {
                differ += Integer.bitCount(seenCells(strip + i) ^ SHAPES[word.letters[i]]);
            }
            return differ;
        }

        boolean isAllowed(Word word, int strip) {
            if (!hasRoom(word, strip) || hasFeud(word, strip)) {
                return false;
            }
            for (int i = 0; i < word.length; i++) {
                if (!wouldRead(strip + i, word.letters[i])) {
                    return false;
                }
            }
            return true;
        }

        private boolean hasFeud(Word word, int strip) {
            int owners = 0;
            int hated = 0;
            for (int i = 0; i < word.length; i++) {
                owners |= 1 << strips[strip + i].owner;
                hated |= foes[strips[strip + i].owner];
            }
            return (owners & hated) != 0;
        }

        private boolean wouldRead(int strip, int letter) {
            int shape = SHAPES[letter];
            return strips[strip].hasGrown(shape) && letterSeenAs(seenCells(strip) | shape) == letter;
        }

        int lossBy(Word word, int strip) {
            int sum = 0;
            for (int i = 0; i < word.length; i++) {
                sum += lossOn(strip + i, word.letters[i]);
            }
            return sum;
        }

        private int lossOn(int strip, int letter) {
            int left = strips[strip].grownCells() & ~SHAPES[letter];
            return settings[PRICE] * strips[strip].grassOf(left);
        }

        int shareOf(Word word, int strip, int owner, int surplus) {
            if (word.length < 1) {
                return 0;
            }
            int part = surplus / word.length;
            int over = surplus % word.length;
            int sum = 0;
            for (int i = 0; i < word.length; i++) {
                if (strips[strip + i].owner == owner) {
                    sum += lossOn(strip + i, word.letters[i]) + part + (i < over ? 1 : 0);
                }
            }
            return sum;
        }

        boolean isOwnForm(Word word, int form) {
            for (int other = 0; other < wordCount; other++) {
                if (!word.isLike(words[other]) && word.hasFormIn(form, words[other])) {
                    return false;
                }
            }
            return true;
        }
    }

    /** The WORDS for most in the row of STRIPS, none on a STRIP of another one. */
    private static final class Row {
        /** Below all that a WORD can be worth. */
        private static final int ABSENT = -1000000;

        private final int[][] worths = new int[STRIPS][WORDS];
        /** Of each STRIP the most that is to be had from there on. */
        private final int[] most = new int[STRIPS + 1];
        private final int[] chosen = new int[STRIPS];
        private int length = 0;

        void weighWritten(Meadow meadow) {
            for (int strip = 0; strip < meadow.stripCount; strip++) {
                for (int at = 0; at < meadow.wordCount; at++) {
                    Word word = meadow.words[at];
                    worths[strip][at] = meadow.isWritten(word, strip, 0) ? word.wage : ABSENT;
                }
            }
        }

        void weighAllowed(Meadow meadow) {
            for (int strip = 0; strip < meadow.stripCount; strip++) {
                for (int at = 0; at < meadow.wordCount; at++) {
                    Word word = meadow.words[at];
                    worths[strip][at] = meadow.isAllowed(word, strip) ? word.wage - meadow.lossBy(word, strip) : ABSENT;
                }
            }
        }

        /** To go on wherever the most allows it is the order that is asked: lesser STRIPS, lesser WORDS, longer rows first. */
        void choose(Meadow meadow) {
            sumUp(meadow);
            length = 0;
            int next = 0;
            for (int strip = 0; strip < meadow.stripCount; strip++) {
                int at = strip < next ? NONE : firstForMost(meadow, strip);
                if (at != NONE) {
                    chosen[length] = 10 * strip + at;
                    length++;
                    next = strip + meadow.words[at].length;
                }
            }
        }

        /** The sum (-1), how many (-2), the i-th as 10 STRIP and WORD. */
        int answer(int i) {
            if (i == -1) {
                return most[0];
            }
            if (i == -2) {
                return length;
            }
            return isBelow(i, length) ? chosen[i] : NONE;
        }

        private void sumUp(Meadow meadow) {
            most[meadow.stripCount] = 0;
            for (int strip = meadow.stripCount - 1; strip >= 0; strip--) {
                most[strip] = most[strip + 1];
                for (int at = 0; at < meadow.wordCount; at++) {
                    if (worths[strip][at] != ABSENT) {
                        most[strip] = Math.max(most[strip], mostBy(meadow, strip, at));
                    }
                }
            }
        }

        private int mostBy(Meadow meadow, int strip, int at) {
            return worths[strip][at] + most[strip + meadow.words[at].length];
        }

        private int firstForMost(Meadow meadow, int strip) {
            for (int at = 0; at < meadow.wordCount; at++) {
                if (worths[strip][at] != ABSENT && mostBy(meadow, strip, at) == most[strip]) {
                    return at;
                }
            }
            return NONE;
        }
    }

    /** As what LETTERS are read, if each CELL may be taken for the other. Its rows are made once, as a call is to make none. */
    private static final class Odds {
        private static final int MISTAKES = CELLS + 1;
        /** The sets of CELLS that are unlike in the first 6 alone are as many as a long has bits: they are looked at together. */
        private static final int LOW_CELLS = 6, LOW_SETS = 1 << LOW_CELLS, HIGH_SETS = 1 << CELLS - LOW_CELLS;

        /** Of each LETTER, of each number of LOW_CELLS: the low sets (bit: set) that differ from it in so many. */
        private final long[][] rings = new long[LETTERS][LOW_CELLS + 1];
        /** In how many ways the counted LETTER reads as which: by how many CELLS are mistaken. */
        private final int[][] ways = new int[LETTERS][MISTAKES];
        private final long[] weights = new long[MISTAKES];
        private int countedLetter = NONE;
        private int countedFar = NONE;

        Odds() {
            for (int letter = 0; letter < LETTERS; letter++) {
                for (int low = 0; low < LOW_SETS; low++) {
                    rings[letter][Integer.bitCount(low ^ SHAPES[letter] % LOW_SETS)] |= 1L << low;
                }
            }
        }

        int surenessOf(int letter, int c, int far) {
            weigh(c);
            countWays(letter, far);
            long odds = oddsToRead(letter);
            // A thousand times the odds, in parts of 2 to the 60, is more than a long holds: so half of the bits at a time.
            int half = 30;
            long high = 1000 * (odds >> half);
            long low = 1000 * (odds & (1L << half) - 1);
            return (int) (high + (low >> half) >> half);
        }

        int mistakeFor(int letter, int c, int far) {
            weigh(c);
            countWays(letter, far);
            int likeliest = NONE;
            long most = 0;
            for (int other = 0; other < LETTERS; other++) {
                long odds = other == letter ? 0 : oddsToRead(other);
                if (odds > most) {
                    likeliest = other;
                    most = odds;
                }
            }
            return likeliest;
        }

        /** The odds, in parts of 16 to the 15, that just certain CELLS are mistaken: by how many these are. */
        private void weigh(int c) {
            for (int mistaken = 0; mistaken < MISTAKES; mistaken++) {
                long weight = 1;
                for (int cell = 0; cell < CELLS; cell++) {
                    weight *= cell < mistaken ? c : 16 - c;
                }
                weights[mistaken] = weight;
            }
        }

        private long oddsToRead(int letter) {
            long odds = 0;
            for (int mistaken = 0; mistaken < MISTAKES; mistaken++) {
                odds += ways[letter][mistaken] * weights[mistaken];
            }
            return odds;
        }

        private void countWays(int letter, int far) {
            if (letter == countedLetter && far == countedFar) {
                return;
            }
            countedLetter = letter;
            countedFar = far;
            for (int other = 0; other < LETTERS; other++) {
                Arrays.fill(ways[other], 0);
            }
            for (int high = 0; high < HIGH_SETS; high++) {
                countWaysOf(high, letter, far);
            }
        }

        /** The nearest LETTERS take their sets first, of like ones the first: as these sets READ. */
        private void countWaysOf(int high, int letter, int far) {
            long left = -1;
            for (int off = 0; off <= far && left != 0; off++) {
                for (int other = 0; other < LETTERS; other++) {
                    int lowOff = off - highOff(high, other);
                    if (lowOff >= 0 && lowOff <= LOW_CELLS) {
                        long sets = left & rings[other][lowOff];
                        left &= ~sets;
                        addWays(ways[other], sets, letter, highOff(high, letter));
                    }
                }
            }
        }

        private void addWays(int[] waysToRead, long sets, int letter, int highMistaken) {
            for (int mistaken = 0; mistaken <= LOW_CELLS && sets != 0; mistaken++) {
                waysToRead[highMistaken + mistaken] += Long.bitCount(sets & rings[letter][mistaken]);
            }
        }

        private static int highOff(int high, int letter) {
            return Integer.bitCount(high ^ SHAPES[letter] / LOW_SETS);
        }
    }

    /** THE TAPE, and what it tells. */
    private static final class Tape {
        final byte[] bytes = new byte[TAPE_LENGTH];
        int length = 0;
        final int[] owners = new int[STRIPS];
        final Word[] toldWords = new Word[MOST_WORDS_TOLD];
        /** The place of the byte that is read next. */
        private int at = 0;

        Tape() {
            for (int word = 0; word < MOST_WORDS_TOLD; word++) {
                toldWords[word] = new Word();
            }
        }

        int append(long w, int n) {
            for (int i = 0; i < n; i++) {
                byte sign = (byte) (w >> 8 * i);
                if (sign < 32 || sign > 126) {
                    return BAD;
                }
            }
            if (n > TAPE_LENGTH - length) {
                return FULL;
            }
            for (int i = n - 1; i >= 0; i--) {
                bytes[length] = (byte) (w >> 8 * i);
                length++;
            }
            return length;
        }

        int readOwners() {
            int number = 0;
            for (int place = 0; place < length; place++) {
                if (bytes[place] == ' ') {
                    continue;
                }
                int owner = bytes[place] - '0';
                if (!isBelow(owner, OWNERS) || number >= STRIPS) {
                    return faultAt(place);
                }
                owners[number] = owner;
                number++;
            }
            return number == 0 ? faultAt(length) : number;
        }

        int readWords() {
            at = 0;
            for (int number = 0; number < MOST_WORDS_TOLD; number++) {
                int fault = readWord(toldWords[number]);
                if (fault != 0) {
                    return fault;
                }
                int sign = nextSign();
                if (sign == TAPE_END) {
                    return number + 1;
                }
                if (sign != ',' || number + 1 == MOST_WORDS_TOLD) {
                    return faultAt(at);
                }
                at++;
            }
            return faultAt(at);
        }

        /** 0, or a FAULT. */
        private int readWord(Word word) {
            word.length = 0;
            word.wage = FIRST_PAY;
            while (word.length < LONGEST_WORD && isBelow(nextSign() - 'a', LETTERS)) {
                word.letters[word.length] = bytes[at] - 'a';
                word.length++;
                at++;
            }
            if (word.length == 0) {
                return faultAt(at);
            }
            if (nextSign() != ':') {
                return 0;
            }
            at++;
            return readPay(word);
        }

        /** 0, or a FAULT. */
        private int readPay(Word word) {
            if (!isFigure(nextSign())) {
                return faultAt(at);
            }
            int first = at;
            int number = 0;
            while (at < length && isFigure(bytes[at])) {
                number = Math.min(HIGHEST_PAY + 1, 10 * number + bytes[at] - '0');
                at++;
            }
            word.wage = number;
            return number > HIGHEST_PAY ? faultAt(first) : 0;
        }

        private static boolean isFigure(int sign) {
            return isBelow(sign - '0', 10);
        }

        private static int faultAt(int place) {
            return FIRST_FAULT - place;
        }

        /** The next byte that is no blank; it stays the next. */
        private int nextSign() {
            while (at < length && bytes[at] == ' ') {
                at++;
            }
            return at < length ? bytes[at] : TAPE_END;
        }
    }

    /** A SHEET: nothing, or a row of a LANE. */
    private static final class Sheet {
        int lane = NO_LANE;
        int length = 0;
        final int[] items = new int[SHEET_LENGTH];

        void begin(int newLane, int newLength) {
            lane = newLane;
            length = newLength;
            Arrays.fill(items, 0);
        }

        /** Why the row can't be taken as one of a LANE that has so many items from one on: 0 if it can. */
        int refusal(int asLane, int from, int number) {
            if (lane == NO_LANE) {
                return NULL;
            }
            if (lane != asLane) {
                return CAST;
            }
            return from < 0 || from > length - number ? INDEX : 0;
        }

        boolean holdsGrass(int from) {
            for (int i = from; i < from + CELLS; i++) {
                if (items[i] < 0 || items[i] > HIGHEST_GRASS) {
                    return false;
                }
            }
            return true;
        }

        void put(int i, int v) {
            switch (lane) {
                case BYTES: items[i] = (byte) v; break;
                case SHORTS: items[i] = (short) v; break;
                default: items[i] = v; break;
            }
        }
    }
}
