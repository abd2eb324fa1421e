import java.math.BigInteger;
import java.util.ArrayList;
import java.util.Arrays;
import java.util.List;
import java.util.regex.Matcher;
import java.util.regex.Pattern;

/** The document once more, in the plainest way and with no thought of cost: what answers are compared with. */
final class PlainModel {
    private static final int NONE = -1, UNKNOWN = -2, OUTSIDE = -3, NOT = -4, FULL = -5;
    private static final List<String> KINDS = List.of("room", "roof", "cellar", "bells");

    private static final class Told {
        final List<int[]> storeys = new ArrayList<>();
        final List<int[]> pairs = new ArrayList<>();
        final int[] wind = new int[40];
        int bears = 500;
        int soft = 10;

        Told copy() {
            Told other = new Told();
            for (int[] s : storeys) {
                other.storeys.add(s.clone());
            }
            other.pairs.addAll(pairs);
            System.arraycopy(wind, 0, other.wind, 0, 40);
            other.bears = bears;
            other.soft = soft;
            return other;
        }
    }

    private record Kept(List<Integer> up, int day) {
    }

    private record Token(String text, int at) {
    }

    private String text = "";
    private Told told = new Told();
    private Told draft;
    private List<Integer> up = new ArrayList<>();
    private int day = 0;
    private final Kept[] kept = new Kept[2];
    private final List<Integer> row = new ArrayList<>();
    private final List<int[]> seen = new ArrayList<>();

    int write(long bytes, int n) {
        if (n < 1 || n > 8) {
            return OUTSIDE;
        }
        if (text.length() + n > 200) {
            return FULL;
        }
        for (int i = 0; i < n; i++) {
            text += (char) (bytes >>> 8 * i & 0xff);
        }
        return text.length();
    }

    int erase() {
        int had = text.length();
        text = "";
        return had;
    }

    private List<Token> tokens() {
        List<Token> all = new ArrayList<>();
        Matcher m = Pattern.compile("[a-z]+|[0-9]+|[^ ]", Pattern.DOTALL).matcher(text);
        while (m.find()) {
            all.add(new Token(m.group(), m.start()));
        }
        all.add(new Token("", text.length()));
        return all;
    }

    int fault() {
        draft = told.copy();
        List<Token> tokens = tokens();
        int at = 0;
        for (int line = 1;; line++) {
            int[] numbers = new int[3];
            String word = tokens.get(at).text;
            boolean isKind = KINDS.contains(word);
            int many = switch (word) {
                case "site" -> 0;
                case "jacks", "soft" -> 1;
                case "folk", "above" -> 2;
                case "room", "roof", "cellar", "bells", "wind" -> 3;
                default -> NONE;
            };
            if (many == NONE || isKind && draft.storeys.size() == 8 || word.equals("above") && draft.pairs.size() == 8) {
                return tokens.get(at).at;
            }
            for (int i = 0; i < many; i++) {
                at++;
                String number = tokens.get(at).text;
                if (!number.matches("[0-9]{1,3}")) {
                    return tokens.get(at).at;
                }
                numbers[i] = Integer.parseInt(number);
                if (!isInBounds(word, i, numbers)) {
                    return tokens.get(at).at;
                }
            }
            doLine(word, numbers);
            at++;
            if (at == tokens.size() - 1) {
                return NONE;
            }
            if (!tokens.get(at).text.equals(";") || line == 12) {
                return tokens.get(at).at;
            }
            at++;
        }
    }

    private boolean isInBounds(String word, int slot, int[] numbers) {
        int value = numbers[slot];
        int n = draft.storeys.size();
        return switch (word) {
            case "jacks" -> true;
            case "soft" -> value >= 1 && value <= 99;
            case "folk" -> slot == 0 ? value < n : value <= 99;
            case "above" -> value < n && (slot == 0 || value != numbers[0]);
            case "wind" -> slot == 0 ? value < 40 : slot == 1 ? value < 40 && value >= numbers[0] : value <= 9;
            default -> slot == 1 || value >= 1 && value <= (slot == 0 ? 99 : 9);
        };
    }

    private void doLine(String word, int[] numbers) {
        switch (word) {
            case "site" -> draft = new Told();
            case "jacks" -> draft.bears = numbers[0];
            case "soft" -> draft.soft = numbers[0];
            case "folk" -> draft.storeys.get(numbers[0])[4] = numbers[1];
            case "above" -> draft.pairs.add(numbers.clone());
            case "wind" -> Arrays.fill(draft.wind, numbers[0], numbers[1] + 1, numbers[2]);
            default -> draft.storeys.add(new int[] {KINDS.indexOf(word), numbers[0], numbers[1], numbers[2], 0});
        }
    }

    int site() {
        if (fault() != NONE) {
            return NOT;
        }
        told = draft;
        int lines = text.split(";", -1).length;
        text = "";
        up = new ArrayList<>();
        day = 0;
        kept[0] = null;
        kept[1] = null;
        row.clear();
        seen.clear();
        return lines;
    }

    private boolean isStorey(int s) {
        return s >= 0 && s < told.storeys.size();
    }

    int storey(int s, int what) {
        return !isStorey(s) ? UNKNOWN : what < 0 || what > 4 ? OUTSIDE : told.storeys.get(s)[what];
    }

    int as(int s, int kind) {
        if (!isStorey(s)) {
            return UNKNOWN;
        }
        if (kind < 0 || kind > 4) {
            return OUTSIDE;
        }
        List<List<Integer>> such = List.of(List.of(0, 1), List.of(0, 1, 2), List.of(0, 1, 3), List.of(0, 4));
        return such.get(told.storeys.get(s)[0]).contains(kind) ? load(List.of(s)) : NOT;
    }

    private int load(List<Integer> ones) {
        int load = 0;
        for (int s : ones) {
            load += told.storeys.get(s)[1] + told.storeys.get(s)[4];
        }
        return load;
    }

    private int height(List<Integer> ones) {
        int height = 0;
        for (int s : ones) {
            height += told.storeys.get(s)[3];
        }
        return height;
    }

    private int windOf(int d) {
        return d > 39 ? 0 : told.wind[d];
    }

    private int reason(int s, List<Integer> ones, int bears, int wind) {
        if (ones.contains(s)) {
            return 1;
        }
        int[] it = told.storeys.get(s);
        boolean place = !(it[0] == 1 && !ones.isEmpty()) && !(it[0] == 3 && ones.size() >= 3);
        for (int one : ones) {
            place &= told.storeys.get(one)[0] != 2;
        }
        for (int[] pair : told.pairs) {
            place &= pair[1] != s || ones.contains(pair[0]);
        }
        if (!place) {
            return 2;
        }
        return it[2] < load(ones) ? 3 : bears < load(ones) ? 4 : wind == 9 ? 5 : 0;
    }

    int why(int s) {
        return isStorey(s) ? reason(s, up, told.bears, windOf(day)) : UNKNOWN;
    }

    int lift(int s) {
        int why = why(s);
        if (why == UNKNOWN) {
            return UNKNOWN;
        }
        if (why != 0) {
            return NOT;
        }
        if (day + 1 > 9999) {
            return FULL;
        }
        up.add(s);
        day++;
        return up.size();
    }

    int rest(int n) {
        if (n < 1 || n > 99) {
            return OUTSIDE;
        }
        if (day + n > 9999) {
            return FULL;
        }
        day += n;
        return day;
    }

    int up(int i) {
        return i < 0 ? OUTSIDE : i < up.size() ? up.get(i) : NONE;
    }

    int floor(int s) {
        if (!isStorey(s)) {
            return UNKNOWN;
        }
        int at = up.indexOf(s);
        return at < 0 ? NONE : height(up.subList(at + 1, up.size()));
    }

    int keep(int k) {
        if (k != 0 && k != 1) {
            return UNKNOWN;
        }
        kept[k] = new Kept(new ArrayList<>(up), day);
        return up.size();
    }

    int back(int k) {
        if (k != 0 && k != 1) {
            return UNKNOWN;
        }
        if (kept[k] == null) {
            return NOT;
        }
        up = new ArrayList<>(kept[k].up);
        day = kept[k].day;
        seen.clear();
        return up.size();
    }

    /** All rows of LIFTS that can be, whole or not, the empty one too, in the order of their numbers. */
    private List<List<Integer>> allRows(int bears) {
        List<List<Integer>> rows = new ArrayList<>();
        addRows(new ArrayList<>(), bears, rows);
        return rows;
    }

    private void addRows(List<Integer> ones, int bears, List<List<Integer>> rows) {
        rows.add(new ArrayList<>(ones));
        for (int s = 0; s < told.storeys.size(); s++) {
            if (reason(s, ones, bears, 0) == 0) {
                ones.add(s);
                addRows(ones, bears, rows);
                ones.remove(ones.size() - 1);
            }
        }
    }

    private List<List<Integer>> wholeRows(int bears) {
        List<List<Integer>> whole = allRows(bears);
        whole.removeIf(r -> r.size() < told.storeys.size());
        return whole;
    }

    int orders(int i) {
        if (i < NONE) {
            return OUTSIDE;
        }
        List<List<Integer>> whole = wholeRows(told.bears);
        if (i == NONE) {
            return whole.size();
        }
        return whole.isEmpty() || i >= told.storeys.size() ? NONE : whole.get(0).get(i);
    }

    int tallest(int what) {
        if (what < 0 || what > 1) {
            return OUTSIDE;
        }
        int best = 0;
        int set = 0;
        for (List<Integer> r : allRows(told.bears)) {
            int bits = 0;
            for (int s : r) {
                bits |= 1 << s;
            }
            if (height(r) > best || height(r) == best && bits < set) {
                best = height(r);
                set = bits;
            }
        }
        return what == 0 ? best : set;
    }

    int jacks() {
        int least = NONE;
        for (List<Integer> r : wholeRows(99999)) {
            int most = 0;
            for (int i = 0; i < r.size(); i++) {
                most = Math.max(most, load(r.subList(0, i)));
            }
            least = least == NONE ? most : Math.min(least, most);
        }
        return least;
    }

    int soonest(int many) {
        if (many < 1 || many > 8) {
            return OUTSIDE;
        }
        int d = 0;
        for (int left = many; left > 0; d++) {
            left -= windOf(d) == 9 ? 0 : 1;
        }
        return d - 1;
    }

    /** Day by day: by how many parts of ten to the d-th so many DAYS were still. */
    long odds(int d, int k, int p, int part) {
        if (d < 0 || d > 18 || k < 0 || k > 18 || p < 0 || p > 10 || part < 0 || part > 1) {
            return OUTSIDE;
        }
        BigInteger[] still = new BigInteger[20];
        Arrays.fill(still, BigInteger.ZERO);
        still[0] = BigInteger.ONE;
        for (int i = 0; i < d; i++) {
            for (int j = 19; j >= 0; j--) {
                BigInteger from = j == 0 ? BigInteger.ZERO : still[j - 1].multiply(BigInteger.valueOf(10 - p));
                still[j] = still[j].multiply(BigInteger.valueOf(p)).add(from);
            }
        }
        BigInteger above = BigInteger.ZERO;
        for (int j = k; j < 20; j++) {
            above = above.add(still[j]);
        }
        BigInteger below = BigInteger.TEN.pow(d);
        return (part == 0 ? above : below).divide(above.gcd(below)).longValueExact();
    }

    private int firstStuck(List<Integer> ones) {
        for (int i = 0; i < ones.size(); i++) {
            if (reason(ones.get(i), ones.subList(0, i), told.bears, 0) != 0) {
                return i;
            }
        }
        return NONE;
    }

    int without(int s) {
        if (!isStorey(s)) {
            return UNKNOWN;
        }
        if (!up.contains(s)) {
            return NOT;
        }
        List<Integer> left = new ArrayList<>(up);
        left.remove(Integer.valueOf(s));
        return firstStuck(left);
    }

    int in(int s, int i) {
        if (!isStorey(s)) {
            return UNKNOWN;
        }
        if (i < 0 || i > up.size()) {
            return OUTSIDE;
        }
        if (up.contains(s)) {
            return NOT;
        }
        List<Integer> more = new ArrayList<>(up);
        more.add(i, s);
        return firstStuck(more) == NONE ? 1 : 0;
    }

    int row(int s) {
        if (!isStorey(s)) {
            return UNKNOWN;
        }
        if (row.size() == 8) {
            return FULL;
        }
        row.add(s);
        return row.size();
    }

    int burn() {
        int had = row.size();
        row.clear();
        return had;
    }

    int judge(int what) {
        if (what < 0 || what > 1) {
            return OUTSIDE;
        }
        for (int i = 0; i < row.size(); i++) {
            int why = reason(row.get(i), row.subList(0, i), told.bears, windOf(i));
            if (why != 0) {
                return what == 0 ? i : why;
            }
        }
        return what == 0 ? NONE : 0;
    }

    int seen(int i, int g) {
        if (i < 0 || i >= up.size() || g < 0 || g > 999) {
            return OUTSIDE;
        }
        if (seen.size() == 8) {
            return FULL;
        }
        seen.add(new int[] {i, g});
        return seen.size();
    }

    int forget() {
        int had = seen.size();
        seen.clear();
        return had;
    }

    int fits(int s, int what) {
        if (!isStorey(s)) {
            return UNKNOWN;
        }
        if (what < 0 || what > 2) {
            return OUTSIDE;
        }
        List<Integer> fit = new ArrayList<>();
        int is = told.storeys.get(s)[1];
        for (int w = 1; w <= 99; w++) {
            told.storeys.get(s)[1] = w;
            boolean so = true;
            for (int[] one : seen) {
                so &= load(up.subList(0, one[0])) / told.soft == one[1];
            }
            if (so) {
                fit.add(w);
            }
        }
        told.storeys.get(s)[1] = is;
        if (what == 0) {
            return fit.size();
        }
        return fit.isEmpty() ? NONE : fit.get(what == 1 ? 0 : fit.size() - 1);
    }

    int count(int what) {
        return switch (what) {
            case 0 -> told.storeys.size();
            case 1 -> told.bears;
            case 2 -> told.soft;
            case 3 -> told.pairs.size();
            case 4 -> up.size();
            case 5 -> day;
            case 6 -> height(up);
            case 7 -> load(up);
            case 8 -> windOf(day);
            case 9 -> row.size();
            case 10 -> seen.size();
            case 11 -> text.length();
            default -> OUTSIDE;
        };
    }
}
