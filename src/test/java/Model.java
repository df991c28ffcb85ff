import java.math.BigInteger;
import java.util.ArrayList;
import java.util.Arrays;
import java.util.HashSet;
import java.util.List;
import java.util.TreeMap;

/**
 * The document once more, written apart from the class and in another manner (whole states are copied, all orders
 * listed, lots of fractions kept as they are), for RandomRunsTest to compare. It has the methods of the face.
 */
final class Model {
    private static final int BAD = -1, FULL = -2, FINDING = -3, STATE = -4, NONE = -9;

    private record Letter(char sign, int house, int words) {
        int kind() {
            return "ltbvkf".indexOf(sign);
        }

        boolean is(int kind) {
            return kind == 0 || kind == kind() || kind == 1 && sign == 'k' || kind == 3 && sign == 'f';
        }

        int end(int mood) {
            return endOf(sign, words, mood);
        }

        static int endOf(char sign, int words, int mood) {
            int both = words + mood;
            return switch (sign) {
                case 't' -> words;
                case 'b' -> both < 10 ? 5 : both / 2;
                case 'v', 'f' -> both > 9 ? 9 : both;
                case 'k' -> words < 5 ? 5 : words;
                default -> both / 2;
            };
        }
    }

    /** All that deeds change, copied as a whole. */
    private static final class Stand {
        int mood, weather, house, day;
        int[] bonds = {};
        TreeMap<Integer, Integer> ended = new TreeMap<>();

        Stand copy() {
            Stand s = new Stand();
            s.mood = mood;
            s.weather = weather;
            s.house = house;
            s.day = day;
            s.bonds = bonds.clone();
            s.ended.putAll(ended);
            return s;
        }

        void lift(int n) {
            for (int i = 0; i < Math.abs(n); i++) {
                mood += n > 0 ? mood < 9 ? 1 : 0 : mood > 0 ? -1 : 0;
            }
        }

        int take(List<Letter> letters, int l) {
            Letter one = letters.get(l);
            while (house != one.house()) {
                house += house < one.house() ? 1 : -1;
                lift(weather - 1);
            }
            int warm = one.end(mood);
            ended.put(l, warm);
            int bond = bonds[house] + warm - 5;
            bonds[house] = bond < 0 ? 0 : bond > 20 ? 20 : bond;
            if (one.sign() != 'f') {
                lift(warm >= 6 ? 1 : warm <= 3 ? -1 : 0);
            }
            return warm;
        }

        void newDay() {
            house = 0;
            ended.clear();
        }
    }

    private final int[][] rows = new int[6][];
    private final byte[][] texts = new byte[4][];
    private List<Letter> letters = new ArrayList<>();
    /** How it stood ahead of each deed, and stands now. */
    private List<Stand> stands = new ArrayList<>(List.of(new Stand()));
    private final List<List<Stand>> kept = new ArrayList<>(Arrays.asList(null, null, null));
    private final int[] found = new int[6];
    private int finding, asked;
    private BigInteger upper = BigInteger.ZERO, lower = BigInteger.ONE;

    private Stand now() {
        return stands.get(stands.size() - 1);
    }

    private int deeds() {
        return stands.size() - 1;
    }

    private int find(int f) {
        finding = f;
        found[f]++;
        return FINDING;
    }

    private int tell(int v) {
        asked = v;
        return 1;
    }

    private int tellPart(BigInteger up, BigInteger low) {
        BigInteger common = up.gcd(low);
        upper = up.divide(common);
        lower = low.divide(common);
        return 1;
    }

    private boolean noLetter(int l) {
        return l < 0 || l >= letters.size();
    }

    private static boolean out(int v, int low, int high) {
        return v < low || v > high;
    }

    int row(int r, int n) {
        if (out(r, 0, 5) || n > 40) return BAD;
        if (n < 0) return find(5);
        rows[r] = new int[n];
        return n;
    }

    int lay(int r, int i, int v) {
        int got = at(r, i);
        if (got == 1) rows[r][i] = v;
        return got;
    }

    int at(int r, int i) {
        if (out(r, 0, 5)) return BAD;
        if (rows[r] == null) return find(1);
        if (out(i, 0, rows[r].length - 1)) return find(2);
        return tell(rows[r][i]);
    }

    int tear(int r) {
        if (out(r, 0, 5)) return BAD;
        if (rows[r] == null) return find(1);
        rows[r] = null;
        return 1;
    }

    int copy(int r, int i, int to, int j, int n) {
        if (out(r, 0, 5) || out(to, 0, 5)) return BAD;
        if (n < 0) return find(5);
        if (rows[r] == null || rows[to] == null) return find(1);
        if (i < 0 || j < 0 || (long) i + n > rows[r].length || (long) j + n > rows[to].length) return find(2);
        int[] before = rows[r].clone();
        for (int k = 0; k < n; k++) rows[to][j + k] = before[i + k];
        return 1;
    }

    int mean(int r) {
        if (out(r, 0, 5)) return BAD;
        if (rows[r] == null) return find(1);
        if (rows[r].length == 0) return find(4);
        BigInteger sum = BigInteger.ZERO;
        for (int v : rows[r]) sum = sum.add(BigInteger.valueOf(v));
        return tell(sum.divide(BigInteger.valueOf(rows[r].length)).intValueExact());
    }

    int text(int t, int n) {
        if (out(t, 0, 3) || n > 60) return BAD;
        if (n < 0) return find(5);
        texts[t] = new byte[n];
        Arrays.fill(texts[t], (byte) 32);
        return n;
    }

    int put(int t, int i, int v) {
        if (out(t, 0, 3)) return BAD;
        if (texts[t] == null) return find(1);
        if (out(i, 0, texts[t].length - 1)) return find(2);
        int before = texts[t][i];
        texts[t][i] = (byte) v;
        return 1000 + before;
    }

    /** Sign by sign: which signs can come next is a text; a fault is the first that is not among them. */
    private int scan(byte[] text, Stand stand, List<Letter> into) {
        List<Integer> bonds = new ArrayList<>();
        char item = ' ';
        int within = 0;
        int figure = 0;
        boolean opened = false;
        for (int i = 0; i < text.length; i++) {
            char c = (char) (text[i] & 255);
            if (within == 0) {
                if (c == ' ') continue;
                String can = !opened ? "p" : (into.isEmpty() && bonds.size() < 6 ? "h" : "")
                    + (!bonds.isEmpty() && into.size() < 6 ? "ltbvkf" : "");
                if (can.indexOf(c) < 0) return i;
                item = c;
                opened = true;
                within = 1;
            } else if (within == 1) {
                String can = item == 'p' || item == 'h' ? "0123456789" : "012345".substring(0, bonds.size());
                if (can.indexOf(c) < 0) return i;
                figure = c - '0';
                within = 2;
            } else {
                String can = item == 'p' ? "012" : "0123456789";
                if (can.indexOf(c) < 0) return i;
                if (item == 'p') {
                    stand.mood = figure;
                    stand.weather = c - '0';
                } else if (item == 'h') {
                    if (10 * figure + c - '0' > 20) return i - 1;
                    bonds.add(10 * figure + c - '0');
                } else {
                    into.add(new Letter(item, figure, c - '0'));
                }
                within = 0;
            }
        }
        stand.bonds = bonds.stream().mapToInt(b -> b).toArray();
        return within > 0 || into.isEmpty() ? text.length : NONE;
    }

    int fault(int t) {
        if (out(t, 0, 3)) return BAD;
        if (texts[t] == null) return find(1);
        return scan(texts[t], new Stand(), new ArrayList<>());
    }

    int post(int t) {
        if (out(t, 0, 3)) return BAD;
        if (texts[t] == null) return find(1);
        Stand stand = new Stand();
        List<Letter> into = new ArrayList<>();
        if (scan(texts[t], stand, into) != NONE) return STATE;
        letters = into;
        stands = new ArrayList<>(List.of(stand));
        for (int k = 0; k < 3; k++) kept.set(k, null);
        return letters.size();
    }

    private int houseTells(int h, int what) {
        if (what == 0) return now().bonds[h];
        if (what == 2) return h > now().house ? h - now().house : now().house - h;
        int bits = 0;
        for (int l = 0; l < letters.size(); l++) bits += letters.get(l).house() == h ? 1 << l : 0;
        return bits;
    }

    int house(int h, int what) {
        if (out(h, 0, now().bonds.length - 1) || out(what, 0, 2)) return BAD;
        return tell(houseTells(h, what));
    }

    private int letterTells(int l, int what) {
        return switch (what) {
            case 0 -> letters.get(l).kind();
            case 1 -> letters.get(l).house();
            case 2 -> letters.get(l).words();
            case 3 -> now().ended.getOrDefault(l, NONE);
            default -> now().copy().take(letters, l);
        };
    }

    int letter(int l, int what) {
        if (noLetter(l) || out(what, 0, 4)) return BAD;
        return tell(letterTells(l, what));
    }

    int mark(int l, int kind) {
        if (noLetter(l) || out(kind, 1, 5)) return BAD;
        Letter one = letters.get(l);
        if (!one.is(kind)) return find(3);
        int mood = now().mood;
        int words = one.words();
        if (kind == 1) return mood > words ? mood - words : words - mood;
        if (kind == 2) return one.end(mood) - Letter.endOf('l', words, mood);
        if (kind == 4) return words < 5 ? 5 - words : 0;
        if (kind == 5) return one.end(9 - mood);
        int least = 0;
        while (one.end(least) < 9) least++;
        return least;
    }

    private Stand deed() {
        stands.add(now().copy());
        return now();
    }

    int carry(int l) {
        if (noLetter(l)) return BAD;
        if (now().ended.containsKey(l)) return STATE;
        if (deeds() >= 40) return FULL;
        return deed().take(letters, l);
    }

    int bribe(int n) {
        if (out(n, 1, 9)) return BAD;
        if (letters.isEmpty() || now().mood == 9) return STATE;
        if (deeds() >= 40) return FULL;
        deed().lift(n);
        return now().mood;
    }

    int weather(int w) {
        if (out(w, 0, 2)) return BAD;
        if (letters.isEmpty() || now().weather == w) return STATE;
        if (deeds() >= 40) return FULL;
        int before = now().weather;
        deed().weather = w;
        return before;
    }

    int day() {
        if (letters.isEmpty()) return STATE;
        if (deeds() >= 40) return FULL;
        int many = now().ended.size();
        deed().newDay();
        now().day++;
        return many;
    }

    int undo(int n) {
        if (out(n, 0, deeds())) return BAD;
        int many = deeds() - n;
        stands = new ArrayList<>(stands.subList(0, n + 1));
        return many;
    }

    int keep(int k) {
        if (out(k, 0, 2)) return BAD;
        if (letters.isEmpty()) return STATE;
        kept.set(k, new ArrayList<>(stands));
        return deeds();
    }

    int on(int k) {
        if (out(k, 0, 2)) return BAD;
        if (kept.get(k) == null) return find(1);
        stands = new ArrayList<>(kept.get(k));
        return deeds();
    }

    int ends(int l, int words, int mood) {
        if (noLetter(l) || out(words, 0, 9) || out(mood, 0, 9)) return BAD;
        return Letter.endOf(letters.get(l).sign(), words, mood);
    }

    int bond(int l) {
        if (noLetter(l)) return BAD;
        Stand s = now().copy();
        s.take(letters, l);
        tell(s.mood);
        return s.bonds[letters.get(l).house()];
    }

    int least(int l, int v) {
        if (noLetter(l) || out(v, 0, 9)) return BAD;
        for (int n = 9, best = NONE; n >= -1; n--) {
            if (n < 0) return best;
            Stand s = now().copy();
            s.lift(n);
            if (s.take(letters, l) >= v) best = n;
        }
        return NONE;
    }

    /** All orders of so many of these letters, the first ones first. */
    private static List<List<Integer>> ordersOf(List<Integer> these, int many) {
        List<List<Integer>> all = new ArrayList<>();
        if (many == 0) {
            all.add(List.of());
            return all;
        }
        for (Integer first : these) {
            List<Integer> others = new ArrayList<>(these);
            others.remove(first);
            for (List<Integer> behind : ordersOf(others, many - 1)) {
                List<Integer> order = new ArrayList<>(List.of(first));
                order.addAll(behind);
                all.add(order);
            }
        }
        return all;
    }

    private static int[] asRow(List<Integer> order) {
        return order.stream().mapToInt(l -> l).toArray();
    }

    int round(int set, int r) {
        if (out(r, 0, 5) || out(set, 0, (1 << letters.size()) - 1)) return BAD;
        List<Integer> these = new ArrayList<>();
        for (int l = 0; l < letters.size(); l++) if ((set >> l) % 2 == 1) these.add(l);
        for (int l : these) if (now().ended.containsKey(l)) return STATE;
        int most = -1;
        for (List<Integer> order : ordersOf(these, these.size())) {
            Stand s = now().copy();
            int sum = 0;
            for (int l : order) sum += s.take(letters, l);
            if (sum > most) {
                most = sum;
                rows[r] = asRow(order);
            }
        }
        return most;
    }

    private List<Integer> left() {
        List<Integer> these = new ArrayList<>();
        for (int l = 0; l < letters.size(); l++) if (!now().ended.containsKey(l)) these.add(l);
        return these;
    }

    int plan(int h, int v, int r) {
        if (out(h, 0, now().bonds.length - 1) || out(v, 0, 20) || out(r, 0, 5)) return BAD;
        for (int many = 0; many <= left().size(); many++) {
            for (List<Integer> order : ordersOf(left(), many)) {
                Stand s = now().copy();
                for (int l : order) s.take(letters, l);
                if (s.bonds[h] >= v) {
                    rows[r] = asRow(order);
                    return many;
                }
            }
        }
        return NONE;
    }

    private int wrongLetters(int r, boolean carriedToo) {
        if (rows[r] == null) return 1;
        if (rows[r].length > 6) return 5;
        HashSet<Integer> seen = new HashSet<>();
        for (int l : rows[r]) {
            if (noLetter(l) || !seen.add(l) || carriedToo && now().ended.containsKey(l)) return 3;
        }
        return 0;
    }

    int rest(int h, int n, int r) {
        if (out(h, 0, now().bonds.length - 1) || out(n, 0, 20) || out(r, 0, 5)) return BAD;
        int wrong = wrongLetters(r, false);
        if (wrong > 0) return find(wrong);
        Stand s = now().copy();
        for (int d = 1; d <= n; d++) {
            s.newDay();
            for (int l : rows[r]) s.take(letters, l);
        }
        return s.bonds[h];
    }

    private int wrongPairs(int r) {
        if (rows[r] == null) return 1;
        if (rows[r].length % 2 == 1 || rows[r].length / 2 > 8) return 5;
        for (int v : rows[r]) if (out(v, 0, 9)) return 3;
        return 0;
    }

    private List<Integer> wordsBy(char sign, int[] pairs) {
        List<Integer> can = new ArrayList<>();
        for (int words = 0; words <= 9; words++) {
            boolean fits = true;
            for (int i = 0; i < pairs.length; i += 2) fits &= Letter.endOf(sign, words, pairs[i]) == pairs[i + 1];
            if (fits) can.add(words);
        }
        return can;
    }

    int meant(int l, int r) {
        if (noLetter(l) || out(r, 0, 5)) return BAD;
        if (wrongPairs(r) > 0) return find(wrongPairs(r));
        return wordsBy(letters.get(l).sign(), rows[r]).stream().mapToInt(w -> 1 << w).sum();
    }

    int kinds(int l, int r) {
        if (noLetter(l) || out(r, 0, 5)) return BAD;
        if (wrongPairs(r) > 0) return find(wrongPairs(r));
        int bits = 0;
        for (int k = 0; k < 6; k++) {
            if (wordsBy("ltbvkf".charAt(k), rows[r]).contains(letters.get(l).words())) bits += 1 << k;
        }
        return bits;
    }

    int test(int l, int r) {
        if (noLetter(l) || out(r, 0, 5)) return BAD;
        if (wrongPairs(r) > 0) return find(wrongPairs(r));
        char sign = letters.get(l).sign();
        List<Integer> can = wordsBy(sign, rows[r]);
        if (can.isEmpty()) return NONE;
        int[] parts = new int[10];
        for (int mood = 0; mood <= 9; mood++) {
            TreeMap<Integer, Integer> many = new TreeMap<>();
            for (int words : can) many.merge(Letter.endOf(sign, words, mood), 1, Integer::sum);
            parts[mood] = many.values().stream().mapToInt(m -> m).max().orElse(0);
        }
        int least = Arrays.stream(parts).min().orElse(0);
        int mood = 0;
        while (parts[mood] != least) mood++;
        tell(least);
        return mood;
    }

    private List<Integer> setsOf(int v) {
        List<Integer> all = new ArrayList<>();
        for (int set = 0; set < 1 << letters.size(); set++) {
            int sum = 0;
            for (int l = 0; l < letters.size(); l++) sum += (set >> l & 1) * letters.get(l).words();
            if (sum == v) all.add(set);
        }
        return all;
    }

    int sets(int v) {
        if (out(v, 0, 54)) return BAD;
        if (letters.isEmpty()) return STATE;
        List<Integer> all = setsOf(v);
        tellPart(BigInteger.valueOf(all.size()), BigInteger.ONE);
        return tell(all.isEmpty() ? NONE : all.get(0));
    }

    int sure(int v) {
        if (out(v, 0, 54)) return BAD;
        if (letters.isEmpty()) return STATE;
        List<Integer> all = setsOf(v);
        if (all.isEmpty()) return find(4);
        int each = 0;
        int none = 0;
        for (int l = 0; l < letters.size(); l++) {
            int bit = 1 << l;
            each += all.stream().allMatch(s -> (s & bit) != 0) ? bit : 0;
            none += all.stream().noneMatch(s -> (s & bit) != 0) ? bit : 0;
        }
        tell(none);
        return each;
    }

    private int play(Stand s, int turns, int sign) {
        int best = Integer.MIN_VALUE;
        for (int l = 0; l < letters.size() && turns > 0; l++) {
            if (s.ended.containsKey(l)) continue;
            Stand next = s.copy();
            int sum = next.take(letters, l);
            sum += play(next, turns - 1, -sign);
            best = Math.max(best, sign * sum);
        }
        return best == Integer.MIN_VALUE ? 0 : sign * best;
    }

    int duel(int n) {
        if (out(n, 0, 3)) return BAD;
        if (letters.isEmpty()) return STATE;
        return tell(play(now(), n + n, 1));
    }

    /** How likely each sum is, in parts of 12 for each letter. */
    private TreeMap<Integer, BigInteger> sums(int r, int p) {
        TreeMap<Integer, BigInteger> all = new TreeMap<>();
        int many = rows[r].length;
        for (int lifted = 0; lifted < 1 << many; lifted++) {
            Stand s = now().copy();
            int sum = 0;
            BigInteger weight = BigInteger.ONE;
            for (int i = 0; i < many; i++) {
                boolean up = (lifted >> i & 1) == 1;
                s.lift(up ? 1 : 0);
                weight = weight.multiply(BigInteger.valueOf(up ? p : 12 - p));
                sum += s.take(letters, rows[r][i]);
            }
            all.merge(sum, weight, BigInteger::add);
        }
        return all;
    }

    int odds(int r, int v, int p) {
        if (out(r, 0, 5) || out(v, 0, 54) || out(p, 0, 12)) return BAD;
        int wrong = wrongLetters(r, true);
        if (wrong > 0) return find(wrong);
        BigInteger up = BigInteger.ZERO;
        for (BigInteger one : sums(r, p).tailMap(v).values()) up = up.add(one);
        return tellPart(up, BigInteger.valueOf(12).pow(rows[r].length));
    }

    int mid(int r, int p) {
        if (out(r, 0, 5) || out(p, 0, 12)) return BAD;
        int wrong = wrongLetters(r, true);
        if (wrong > 0) return find(wrong);
        BigInteger up = BigInteger.ZERO;
        for (var one : sums(r, p).entrySet()) up = up.add(one.getValue().multiply(BigInteger.valueOf(one.getKey())));
        return tellPart(up, BigInteger.valueOf(12).pow(rows[r].length));
    }

    int lots(int n, int seed) {
        if (out(n, 1, 20) || out(seed, 1, 2147483646)) return BAD;
        if (letters.isEmpty()) return STATE;
        if (deeds() + n > 40) return FULL;
        BigInteger it = BigInteger.valueOf(seed);
        for (int i = 0; i < n; i++) {
            it = it.multiply(BigInteger.valueOf(48271)).mod(BigInteger.valueOf(2147483647));
            int x = it.intValueExact();
            int what = (x >> 3) & 7;
            Stand s = deed();
            if (what < 5 && !s.ended.containsKey(x % letters.size())) s.take(letters, x % letters.size());
            if (what == 5) s.lift(1 + (x >> 6) % 9);
            if (what == 6) s.weather = (x >> 6) % 3;
            if (what == 7) {
                s.newDay();
                s.day++;
            }
        }
        return Arrays.stream(now().bonds).sum();
    }

    int asked() {
        return asked;
    }

    long upper() {
        return upper.longValueExact();
    }

    long lower() {
        return lower.longValueExact();
    }

    int count(int what) {
        return switch (what) {
            case 0 -> now().bonds.length;
            case 1 -> letters.size();
            case 2 -> now().day;
            case 3 -> deeds();
            case 4 -> now().mood;
            case 5 -> now().weather;
            case 6 -> now().house;
            case 7 -> now().ended.keySet().stream().mapToInt(l -> 1 << l).sum();
            case 8 -> Arrays.stream(now().bonds).sum();
            case 9 -> (int) letters.stream().filter(l -> l.is(1)).count();
            case 10 -> (int) letters.stream().filter(l -> l.is(3)).count();
            case 11 -> (int) Arrays.stream(rows).filter(r -> r != null).count();
            case 12 -> (int) Arrays.stream(texts).filter(t -> t != null).count();
            case 13 -> (int) kept.stream().filter(k -> k != null).count();
            default -> BAD;
        };
    }

    int finding() {
        return finding;
    }

    int findings(int f) {
        return out(f, 1, 5) ? BAD : found[f];
    }

    long digest() {
        List<Integer> all = new ArrayList<>();
        for (int what = 0; what <= 13; what++) all.add(count(what));
        for (int h = 0; h < now().bonds.length; h++) for (int what = 0; what <= 2; what++) all.add(houseTells(h, what));
        for (int l = 0; l < letters.size(); l++) for (int what = 0; what <= 4; what++) all.add(letterTells(l, what));
        for (List<Stand> one : kept) all.add(one == null ? -1 : one.size() - 1);
        for (int[] row : rows) {
            all.add(row == null ? -1 : row.length);
            if (row != null) for (int v : row) all.add(v);
        }
        for (byte[] text : texts) {
            all.add(text == null ? -1 : text.length);
            if (text != null) for (byte v : text) all.add((int) v);
        }
        long h = 17;
        for (int v : all) h = 31 * h + v;
        return h;
    }
}
