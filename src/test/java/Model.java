import java.math.BigInteger;
import java.util.ArrayList;
import java.util.Arrays;
import java.util.List;
import java.util.TreeSet;

/** The document once more, in another way and without care for speed: what ModelTest holds the program against. */
final class Model {
    static final int[] SHAPES = {
        23530, 15083, 25166, 15211, 29391, 4815, 27470, 23533, 29847, 11044, 23277, 31305, 23549,
        23547, 11114, 5099, 26474, 22379, 14478, 9367, 27501, 11117, 24557, 23213, 9389, 29351};

    private static final class State {
        int[] settings = {2, 2, 3, 1};
        List<Integer> owners = new ArrayList<>();
        List<int[]> grass = new ArrayList<>();
        List<String> words = new ArrayList<>();
        List<Integer> pays = new ArrayList<>();
        TreeSet<String> feuds = new TreeSet<>();
        int[] hay = new int[6];

        State copy() {
            State to = new State();
            to.settings = settings.clone();
            to.owners.addAll(owners);
            for (int[] blades : grass) {
                to.grass.add(blades.clone());
            }
            to.words.addAll(words);
            to.pays.addAll(pays);
            to.feuds.addAll(feuds);
            to.hay = hay.clone();
            return to;
        }
    }

    private State now = new State();
    private State image = null;
    private String tape = "";
    private final Object[] sheets = new Object[4];

    private static boolean in(int v, int from, int to) {
        return from <= v && v <= to;
    }

    private boolean badStrip(int strip) {
        return !in(strip, 0, now.owners.size() - 1);
    }

    private boolean badWord(int word) {
        return !in(word, 0, now.words.size() - 1);
    }

    int strip(int owner) {
        if (!in(owner, 0, 5)) {
            return -1;
        }
        if (now.owners.size() == 9) {
            return -3;
        }
        newStrip(owner);
        return now.owners.size() - 1;
    }

    private void newStrip(int owner) {
        int[] blades = new int[15];
        Arrays.fill(blades, 5);
        now.owners.add(owner);
        now.grass.add(blades);
    }

    int set(int what, int v) {
        if (!in(what, 0, 3) || !in(v, 0, "5879".charAt(what) - '0')) {
            return -1;
        }
        int old = now.settings[what];
        now.settings[what] = v;
        return old;
    }

    int grass(int strip, int cell) {
        return badStrip(strip) || !in(cell, 0, 14) ? -1 : now.grass.get(strip)[cell];
    }

    int letter(int letter) {
        return in(letter, 0, 25) ? SHAPES[letter] : -1;
    }

    private int seenOf(int[] blades) {
        int set = 0;
        for (int cell = 0; cell < 15; cell++) {
            set += blades[cell] <= now.settings[1] ? 1 << cell : 0;
        }
        return set;
    }

    private static int offOf(int set) {
        return Arrays.stream(SHAPES).map(shape -> Integer.bitCount(shape ^ set)).min().getAsInt();
    }

    private static int readsOf(int set, int far) {
        for (int off = 0; off <= far; off++) {
            for (int letter = 0; letter < 26; letter++) {
                if (Integer.bitCount(SHAPES[letter] ^ set) == off) {
                    return letter;
                }
            }
        }
        return -4;
    }

    private int readsOf(int[] blades) {
        return readsOf(seenOf(blades), now.settings[2]);
    }

    int seen(int strip) {
        return badStrip(strip) ? -1 : seenOf(now.grass.get(strip));
    }

    int reads(int strip) {
        return badStrip(strip) ? -1 : readsOf(now.grass.get(strip));
    }

    int off(int strip) {
        return badStrip(strip) ? -1 : offOf(seen(strip));
    }

    private static boolean canMow(int[] blades, int set) {
        for (int cell = 0; cell < 15; cell++) {
            if ((set >> cell & 1) == 1 && blades[cell] <= 2) {
                return false;
            }
        }
        return true;
    }

    private int take(int strip, int set) {
        int sum = 0;
        int[] blades = now.grass.get(strip);
        for (int cell = 0; cell < 15; cell++) {
            if ((set >> cell & 1) == 1 && blades[cell] > 2) {
                sum += blades[cell];
                blades[cell] = 0;
            }
        }
        now.hay[now.owners.get(strip)] += sum;
        return sum;
    }

    int mow(int strip, int letter) {
        if (badStrip(strip) || !in(letter, 0, 25)) {
            return -1;
        }
        return canMow(now.grass.get(strip), SHAPES[letter]) ? take(strip, SHAPES[letter]) : -2;
    }

    int cut(int strip) {
        return badStrip(strip) ? -1 : take(strip, 32767);
    }

    int fault(int strip, int cell, int what) {
        if (badStrip(strip) || !in(cell, 0, 14) || !in(what, 0, 1)) {
            return -1;
        }
        int old = now.grass.get(strip)[cell];
        now.grass.get(strip)[cell] = 9 * what;
        return old;
    }

    private void week(int[] blades) {
        for (int cell = 0; cell < 15; cell++) {
            blades[cell] = Math.min(9, blades[cell] + now.settings[0]);
        }
    }

    int weeks(int n) {
        if (!in(n, 1, 30)) {
            return -1;
        }
        int high = 0;
        for (int[] blades : now.grass) {
            for (int week = 0; week < n; week++) {
                week(blades);
            }
            high += (int) Arrays.stream(blades).filter(g -> g == 9).count();
        }
        return high;
    }

    int hay(int owner) {
        return in(owner, 0, 5) ? now.hay[owner] : -1;
    }

    int type(long w, int n) {
        if (!in(n, 1, 8)) {
            return -1;
        }
        StringBuilder more = new StringBuilder();
        for (int i = n - 1; i >= 0; i--) {
            int sign = (int) (w >>> 8 * i & 255);
            if (!in(sign, 32, 126)) {
                return -1;
            }
            more.append((char) sign);
        }
        if (tape.length() + n > 80) {
            return -3;
        }
        tape += more;
        return tape.length();
    }

    int strips() {
        String text = tape;
        tape = "";
        for (int end = 1; end <= text.length(); end++) {
            if (!text.substring(0, end).matches(" *([0-5] *){0,9}")) {
                return -20 - (end - 1);
            }
        }
        String told = text.replace(" ", "");
        if (told.isEmpty()) {
            return -20 - text.length();
        }
        now.owners.clear();
        now.grass.clear();
        for (char owner : told.toCharArray()) {
            newStrip(owner - '0');
        }
        return told.length();
    }

    int words() {
        String text = tape;
        tape = "";
        String word = " *([a-z] *){1,6}(: *0*[0-9]{1,2} *)?";
        String begun = " *([a-z] *){0,6}|" + word + "| *([a-z] *){1,6}: *0*";
        for (int end = 1; end <= text.length(); end++) {
            String part = text.substring(0, end);
            if (!part.matches("(" + word + ",){0,3}(" + begun + ")")) {
                int place = end - 1;
                if (Character.isDigit(text.charAt(place))) {
                    place = firstOfTooGreat(text, place);
                }
                return -20 - place;
            }
        }
        if (!text.matches("(" + word + ",){0,3}" + word)) {
            return -20 - text.length();
        }
        String[] told = text.replace(" ", "").split(",");
        if (now.words.size() + told.length > 10) {
            return -3;
        }
        for (String one : told) {
            String[] parts = one.split(":");
            now.words.add(parts[0]);
            now.pays.add(parts.length == 1 ? 10 : Integer.parseInt(parts[1].replaceFirst("^0+(?=.)", "")));
        }
        return told.length;
    }

    /** A figure that can't stand there: the first one of its number, if that is what is wrong, or the place itself. */
    private static int firstOfTooGreat(String text, int place) {
        int first = place;
        while (first > 0 && Character.isDigit(text.charAt(first - 1))) {
            first--;
        }
        return first;
    }

    int told(int word, int i) {
        if (badWord(word) || i < -2) {
            return -1;
        }
        String letters = now.words.get(word);
        if (i < 0) {
            return i == -1 ? letters.length() : now.pays.get(word);
        }
        return i < letters.length() ? letters.charAt(i) - 'a' : -4;
    }

    int pay(int word, int v) {
        return badWord(word) || !in(v, 0, 99) ? -1 : now.pays.set(word, v);
    }

    private static String pair(int one, int other) {
        return Math.min(one, other) + "-" + Math.max(one, other);
    }

    int feud(int one, int other, boolean is) {
        if (!in(one, 0, 5) || !in(other, 0, 5) || one == other) {
            return -1;
        }
        boolean changed = is ? now.feuds.add(pair(one, other)) : now.feuds.remove(pair(one, other));
        return changed != is ? 1 : 0;
    }

    int count(int what) {
        return switch (what) {
            case 0 -> now.owners.size();
            case 1 -> now.words.size();
            case 2 -> now.feuds.size();
            case 3 -> Arrays.stream(now.hay).sum();
            default -> -1;
        };
    }

    private boolean room(int word, int strip) {
        return now.words.get(word).length() + strip <= now.owners.size();
    }

    private String rowText(List<int[]> grass) {
        StringBuilder text = new StringBuilder();
        for (int[] blades : grass) {
            int letter = readsOf(blades);
            text.append(letter < 0 ? '?' : (char) ('a' + letter));
        }
        return text.toString();
    }

    int written(int word, int strip) {
        if (badWord(word) || badStrip(strip)) {
            return -1;
        }
        return rowText(now.grass).startsWith(now.words.get(word), strip) ? 1 : 0;
    }

    private interface Worth {
        /** null: it does not count. */
        Integer of(int word, int strip);
    }

    private record Choice(int sum, List<Integer> row) {
        boolean beats(Choice other) {
            if (sum != other.sum) {
                return sum > other.sum;
            }
            for (int i = 0; i < Math.min(row.size(), other.row.size()); i++) {
                if (!row.get(i).equals(other.row.get(i))) {
                    return row.get(i) < other.row.get(i);
                }
            }
            return row.size() > other.row.size();
        }
    }

    private Choice best(int strip, Worth worth) {
        Choice[] from = new Choice[now.owners.size() + 1];
        from[now.owners.size()] = new Choice(0, List.of());
        for (int at = now.owners.size() - 1; at >= strip; at--) {
            from[at] = from[at + 1];
            for (int word = 0; word < now.words.size(); word++) {
                Integer more = worth.of(word, at);
                if (more != null) {
                    Choice rest = from[at + now.words.get(word).length()];
                    List<Integer> row = new ArrayList<>(List.of(10 * at + word));
                    row.addAll(rest.row);
                    Choice by = new Choice(more + rest.sum, row);
                    from[at] = by.beats(from[at]) ? by : from[at];
                }
            }
        }
        return from[strip];
    }

    private int told(Choice choice, int i) {
        if (i < 0) {
            return i == -1 ? choice.sum : choice.row.size();
        }
        return i < choice.row.size() ? choice.row.get(i) : -4;
    }

    int read(int i) {
        if (!in(i, -2, 8)) {
            return -1;
        }
        return told(best(0, (word, strip) -> written(word, strip) == 1 ? now.pays.get(word) : null), i);
    }

    int nearest(int strip, int what) {
        if (badStrip(strip) || !in(what, 0, 1)) {
            return -1;
        }
        int[] best = {-4, -4};
        for (int word = now.words.size() - 1; word >= 0; word--) {
            if (room(word, strip)) {
                int differ = 0;
                for (int i = 0; i < now.words.get(word).length(); i++) {
                    differ += Integer.bitCount(seen(strip + i) ^ SHAPES[now.words.get(word).charAt(i) - 'a']);
                }
                best = best[0] < 0 || differ <= best[1] ? new int[] {word, differ} : best;
            }
        }
        return best[what];
    }

    int may(int word, int strip) {
        if (badWord(word) || badStrip(strip)) {
            return -1;
        }
        if (!room(word, strip)) {
            return 0;
        }
        String letters = now.words.get(word);
        for (int i = 0; i < letters.length(); i++) {
            for (int j = 0; j < i; j++) {
                if (now.feuds.contains(pair(now.owners.get(strip + i), now.owners.get(strip + j)))) {
                    return 0;
                }
            }
            int[] blades = now.grass.get(strip + i).clone();
            int letter = letters.charAt(i) - 'a';
            if (!canMow(blades, SHAPES[letter])) {
                return 0;
            }
            for (int cell = 0; cell < 15; cell++) {
                blades[cell] = (SHAPES[letter] >> cell & 1) == 1 ? 0 : blades[cell];
            }
            if (readsOf(blades) != letter) {
                return 0;
            }
        }
        return 1;
    }

    private int[] losses(int word, int strip) {
        int[] losses = new int[now.words.get(word).length()];
        for (int i = 0; i < losses.length; i++) {
            for (int cell = 0; cell < 15; cell++) {
                int blade = now.grass.get(strip + i)[cell];
                boolean stays = (SHAPES[now.words.get(word).charAt(i) - 'a'] >> cell & 1) == 0;
                losses[i] += blade > 2 && stays ? blade * now.settings[3] : 0;
            }
        }
        return losses;
    }

    int lost(int word, int strip) {
        if (badWord(word) || badStrip(strip)) {
            return -1;
        }
        return room(word, strip) ? Arrays.stream(losses(word, strip)).sum() : -2;
    }

    int plan(int i) {
        if (!in(i, -2, 8)) {
            return -1;
        }
        return told(best(0, (word, strip) -> may(word, strip) == 1 ? now.pays.get(word) - lost(word, strip) : null), i);
    }

    int write(int word, int strip) {
        int may = may(word, strip);
        if (may < 1) {
            return may == 0 ? -2 : may;
        }
        int sum = 0;
        for (char sign : now.words.get(word).toCharArray()) {
            sum += take(strip++, SHAPES[sign - 'a']);
        }
        return sum;
    }

    int share(int word, int strip, int owner) {
        if (badWord(word) || badStrip(strip) || !in(owner, 0, 5)) {
            return -1;
        }
        if (!room(word, strip) || now.pays.get(word) < lost(word, strip)) {
            return -2;
        }
        int[] parts = losses(word, strip);
        int left = now.pays.get(word) - lost(word, strip);
        for (int i = 0; left > 0; left--) {
            parts[i]++;
            i = (i + 1) % parts.length;
        }
        int sum = 0;
        for (int i = 0; i < parts.length; i++) {
            sum += now.owners.get(strip + i) == owner ? parts[i] : 0;
        }
        return sum;
    }

    /** Of each LETTER the odds, times 16 to the 15, that one reads as it. */
    private BigInteger[] odds(int letter, int c) {
        BigInteger[] weights = new BigInteger[16];
        for (int k = 0; k < 16; k++) {
            weights[k] = BigInteger.valueOf(c).pow(k).multiply(BigInteger.valueOf(16 - c).pow(15 - k));
        }
        long[][] ways = new long[26][16];
        for (int set = 0; set < 32768; set++) {
            int as = readsOf(set, now.settings[2]);
            if (as >= 0) {
                ways[as][Integer.bitCount(set ^ SHAPES[letter])]++;
            }
        }
        BigInteger[] odds = new BigInteger[26];
        for (int as = 0; as < 26; as++) {
            odds[as] = BigInteger.ZERO;
            for (int k = 0; k < 16; k++) {
                odds[as] = odds[as].add(weights[k].multiply(BigInteger.valueOf(ways[as][k])));
            }
        }
        return odds;
    }

    int sure(int letter, int c) {
        if (!in(letter, 0, 25) || !in(c, 0, 8)) {
            return -1;
        }
        BigInteger thousand = odds(letter, c)[letter].multiply(BigInteger.valueOf(1000));
        return thousand.divide(BigInteger.valueOf(16).pow(15)).intValue();
    }

    int taken(int letter, int c) {
        if (!in(letter, 0, 25) || !in(c, 0, 8)) {
            return -1;
        }
        BigInteger[] odds = odds(letter, c);
        odds[letter] = BigInteger.ZERO;
        int best = 25;
        for (int other = 24; other >= 0; other--) {
            best = odds[other].compareTo(odds[best]) >= 0 ? other : best;
        }
        return odds[best].signum() == 0 ? -4 : best;
    }

    int fades(int word, int strip) {
        int written = written(word, strip);
        if (written < 1) {
            return written == 0 ? -2 : written;
        }
        List<int[]> grass = now.copy().grass;
        for (int week = 1; week <= 30; week++) {
            grass.forEach(this::week);
            if (!rowText(grass).startsWith(now.words.get(word), strip)) {
                return week;
            }
        }
        return -4;
    }

    int brief(int word) {
        if (badWord(word)) {
            return -1;
        }
        String letters = now.words.get(word);
        for (int size = 1; size <= letters.length(); size++) {
            for (int set = 1; set < 1 << letters.length(); set++) {
                if (Integer.bitCount(set) == size && isOwn(letters, set)) {
                    return set;
                }
            }
        }
        return -4;
    }

    private boolean isOwn(String letters, int set) {
        StringBuilder pattern = new StringBuilder(".*");
        for (int i = 0; i < letters.length(); i++) {
            if ((set >> i & 1) == 1) {
                pattern.append(letters.charAt(i)).append(".*");
            }
        }
        return now.words.stream().filter(other -> !other.equals(letters)).noneMatch(other -> other.matches(pattern.toString()));
    }

    int image() {
        image = now.copy();
        return 1;
    }

    int restore() {
        if (image == null) {
            return -4;
        }
        now = image.copy();
        return 1;
    }

    private static int length(Object sheet) {
        return java.lang.reflect.Array.getLength(sheet);
    }

    private int refusal(int sheet, int lane, long from, int number) {
        if (!in(sheet, 0, 3) || !in(lane, 0, 2)) {
            return -1;
        }
        if (sheets[sheet] == null) {
            return -11;
        }
        Class<?>[] lanes = {byte[].class, short[].class, int[].class};
        if (sheets[sheet].getClass() != lanes[lane]) {
            return -12;
        }
        return from < 0 || from + number > length(sheets[sheet]) ? -13 : 0;
    }

    int sow(int strip, int sheet, int lane, int from) {
        if (badStrip(strip)) {
            return -1;
        }
        int refusal = refusal(sheet, lane, from, 15);
        if (refusal < 0) {
            return refusal;
        }
        int[] blades = new int[15];
        for (int i = 0; i < 15; i++) {
            blades[i] = java.lang.reflect.Array.getInt(sheets[sheet], from + i);
            if (!in(blades[i], 0, 9)) {
                return -2;
            }
        }
        now.grass.set(strip, blades);
        return Arrays.stream(blades).sum();
    }

    int sheet(int sheet, int lane, int n) {
        if (!in(sheet, 0, 3) || !in(lane, 0, 2) || n > 24) {
            return -1;
        }
        if (n < 0) {
            return -14;
        }
        sheets[sheet] = lane == 0 ? new byte[n] : lane == 1 ? new short[n] : new int[n];
        return n;
    }

    int drop(int sheet) {
        if (!in(sheet, 0, 3)) {
            return -1;
        }
        Object old = sheets[sheet];
        sheets[sheet] = null;
        return old == null ? -11 : length(old);
    }

    private void put(int sheet, int i, int v) {
        if (sheets[sheet] instanceof byte[] row) {
            row[i] = (byte) v;
        } else if (sheets[sheet] instanceof short[] row) {
            row[i] = (short) v;
        } else if (sheets[sheet] instanceof int[] row) {
            row[i] = v;
        }
    }

    int item(int sheet, int lane, int i, int v) {
        int refusal = refusal(sheet, lane, i, 1);
        if (refusal < 0) {
            return refusal;
        }
        put(sheet, i, v);
        return 1;
    }

    int film(int sheet, int lane, int from) {
        int refusal = refusal(sheet, lane, from, now.owners.size());
        if (refusal < 0) {
            return refusal;
        }
        for (int strip = 0; strip < now.owners.size(); strip++) {
            put(sheet, from + strip, reads(strip));
        }
        return now.owners.size();
    }
}
