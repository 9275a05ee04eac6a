import java.math.BigInteger;
import java.util.ArrayDeque;
import java.util.ArrayList;
import java.util.Arrays;
import java.util.Deque;
import java.util.HashMap;
import java.util.HashSet;
import java.util.List;
import java.util.Map;
import java.util.Set;
import java.util.regex.Matcher;
import java.util.regex.Pattern;

/**
 * The document once more, as plainly as can be and by other ways than the class: lists of lines instead of
 * bits, all rings instead of those of three, fractions of any size. ModelTest holds the class against it.
 */
final class Model {
    record Line(int hand, int place, int matter, int say, int inches) {
    }

    record Bid(int hand, int place, int inches, int pays) {
    }

    record State(List<Line> lines, Set<Integer> struck, Set<Integer> folded) {
        State copy() {
            return new State(new ArrayList<>(lines), new HashSet<>(struck), new HashSet<>(folded));
        }
    }

    static final class Told {
        int wet = -1;
        final List<Integer> ranks = new ArrayList<>();
        final List<Integer> rooms = new ArrayList<>();
        final List<int[]> overs = new ArrayList<>();
        final List<Integer> purses = new ArrayList<>();
        int matters;
        final List<Line> lines = new ArrayList<>();
        final List<Integer> hidden = new ArrayList<>();
        final Map<Integer, Integer> done = new HashMap<>();
        final List<Bid> bids = new ArrayList<>();
    }

    // ---- the text

    private static final Map<String, String> FORMS = Map.of(
            "letter", "wet #0-100",
            "place", "+p rank #0-99 room #1-9",
            "over", "p p",
            "hand", "+h purse #0-99",
            "matter", "+m",
            "wrote", "h p m say inches #1-9",
            "hidden", "p",
            "done", "m told",
            "bid", "h p inches #1-9 pays #0-99");
    private static final Map<String, Integer> MOST = Map.of("place", 6, "over", 6, "hand", 4, "matter", 4, "wrote", 8, "hidden", 3, "bid", 6);

    int fault;
    int faultAt;
    private Told told;
    private Map<String, String> sorts;
    private Map<String, Integer> numbers;
    private Map<String, Integer> counts;

    /** The letter of a text, or null with fault and faultAt. */
    Told parse(String text) {
        told = new Told();
        sorts = new HashMap<>();
        numbers = new HashMap<>();
        counts = new HashMap<>();
        fault = 0;
        faultAt = -1;
        List<String> tokens = new ArrayList<>();
        List<Integer> at = new ArrayList<>();
        Matcher matcher = Pattern.compile("[a-z]+|[0-9]+|[^ ]", Pattern.DOTALL).matcher(text);
        while (matcher.find()) {
            tokens.add(matcher.group());
            at.add(matcher.start());
        }
        tokens.add("");
        at.add(text.length());
        int i = 0;
        while (true) {
            int used = parseLine(tokens, i);
            if (fault != 0) {
                faultAt = at.get(used);
                return null;
            }
            i = used;
            if (tokens.get(i).equals(";")) {
                i++;
                continue;
            }
            if (!tokens.get(i).isEmpty()) {
                fault = 1;
            } else if (told.ranks.isEmpty()) {
                fault = 6;
            }
            faultAt = fault == 0 ? -1 : at.get(i);
            return fault == 0 ? told : null;
        }
    }

    private int parseLine(List<String> tokens, int start) {
        String word = tokens.get(start);
        if (!FORMS.containsKey(word)) {
            fault = 1;
            return start;
        }
        boolean head = word.equals("letter");
        if (head != (told.wet < 0)) {
            fault = head ? 3 : 6;
            return start;
        }
        if (counts.getOrDefault(word, 0) >= MOST.getOrDefault(word, 99)) {
            fault = 5;
            return start;
        }
        List<Integer> values = new ArrayList<>();
        int i = start + 1;
        for (String want : FORMS.get(word).split(" ")) {
            fault = accept(word, want, tokens.get(i), values);
            if (fault != 0) {
                return i;
            }
            i++;
        }
        counts.merge(word, 1, Integer::sum);
        keep(word, values);
        return i;
    }

    private int accept(String word, String want, String token, List<Integer> values) {
        if (want.startsWith("#")) {
            if (!token.matches("[0-9]{1,3}")) {
                return 1;
            }
            String[] ends = want.substring(1).split("-");
            int value = Integer.parseInt(token);
            if (value < Integer.parseInt(ends[0]) || value > Integer.parseInt(ends[1])) {
                return 4;
            }
            values.add(value);
            if (word.equals("place") && values.size() == 1 && told.ranks.contains(value)) {
                return 3;
            }
            if (word.equals("wrote")) {
                int p = values.get(1);
                int used = told.lines.stream().filter(l -> l.place() == p).mapToInt(Line::inches).sum();
                return value + used > told.rooms.get(p) ? 7 : 0;
            }
            return 0;
        }
        if (want.equals("say") || want.equals("told")) {
            int say = List.of("not", "do").indexOf(token);
            if (say < 0 && !(want.equals("told") && token.equals("doubt"))) {
                return 1;
            }
            values.add(say < 0 ? -2 : say);
            return 0;
        }
        if (want.length() > 2) {
            return token.equals(want) ? 0 : 1;
        }
        if (!token.matches("[a-z]{1,8}") || FORMS.containsKey(token)) {
            return 1;
        }
        if (want.startsWith("+")) {
            if (sorts.containsKey(token)) {
                return 3;
            }
            String sort = want.substring(1);
            numbers.put(token, (int) sorts.values().stream().filter(sort::equals).count());
            sorts.put(token, sort);
            return 0;
        }
        if (!want.equals(sorts.get(token))) {
            return 2;
        }
        int number = numbers.get(token);
        values.add(number);
        if (word.equals("done") && told.done.containsKey(number)) {
            return 3;
        }
        if (word.equals("over") && values.size() == 2) {
            int p = values.get(0);
            boolean twice = told.overs.stream().anyMatch(o -> Set.of(o[0], o[1]).equals(new HashSet<>(List.of(p, number))));
            return p == number || twice ? 3 : 0;
        }
        return 0;
    }

    private void keep(String word, List<Integer> v) {
        switch (word) {
            case "letter" -> told.wet = v.get(0);
            case "place" -> {
                told.ranks.add(v.get(0));
                told.rooms.add(v.get(1));
            }
            case "over" -> told.overs.add(new int[] {v.get(0), v.get(1)});
            case "hand" -> told.purses.add(v.get(0));
            case "matter" -> told.matters++;
            case "wrote" -> told.lines.add(new Line(v.get(0), v.get(1), v.get(2), v.get(3), v.get(4)));
            case "hidden" -> told.hidden.add(v.get(0));
            case "done" -> told.done.put(v.get(0), v.get(1));
            default -> told.bids.add(new Bid(v.get(0), v.get(1), v.get(2), v.get(3)));
        }
    }

    // ---- the state

    Told t;
    State now;
    final Deque<State> past = new ArrayDeque<>();
    final List<State> images = new ArrayList<>();

    void take(Told letter) {
        t = letter;
        now = new State(new ArrayList<>(letter.lines), new HashSet<>(), new HashSet<>());
        past.clear();
        images.clear();
    }

    int places() {
        return t == null ? 0 : t.ranks.size();
    }

    int hands() {
        return t == null ? 0 : t.purses.size();
    }

    int matters() {
        return t == null ? 0 : t.matters;
    }

    int lines() {
        return t == null ? 0 : now.lines().size();
    }

    // ---- now

    boolean outranks(int p, int q, int dropped) {
        for (int i = 0; i < t.overs.size(); i++) {
            int[] o = t.overs.get(i);
            if ((dropped >> i & 1) == 1) {
                continue;
            }
            if (o[0] == p && o[1] == q) {
                return true;
            }
            if (o[0] == q && o[1] == p) {
                return false;
            }
        }
        return t.ranks.get(p) > t.ranks.get(q);
    }

    boolean read(State s, int k) {
        return !s.struck().contains(k) && !s.folded().contains(s.lines().get(k).place());
    }

    boolean beats(State s, int j, int k) {
        Line a = s.lines().get(j);
        Line b = s.lines().get(k);
        if (j == k || !read(s, j) || !read(s, k) || a.matter() != b.matter()) {
            return false;
        }
        return a.place() == b.place() ? j > k : outranks(a.place(), b.place(), 0);
    }

    int stands(State s, int m) {
        for (int k = 0; k < s.lines().size(); k++) {
            boolean free = read(s, k) && s.lines().get(k).matter() == m;
            for (int j = 0; j < s.lines().size() && free; j++) {
                free = !beats(s, j, k);
            }
            if (free) {
                return k;
            }
        }
        return -2;
    }

    int done(State s, int m) {
        int k = stands(s, m);
        return k == -2 ? -2 : s.lines().get(k).say();
    }

    int room(State s, int p) {
        return t.rooms.get(p) - s.lines().stream().filter(l -> l.place() == p).mapToInt(Line::inches).sum();
    }

    State without(State s, int bits) {
        State c = s.copy();
        for (int k = 0; k < 16; k++) {
            if ((bits >> k & 1) == 1) {
                c.struck().add(k);
            }
        }
        return c;
    }

    State with(State s, int p, int m, int say) {
        State c = s.copy();
        c.lines().add(new Line(-1, p, m, say, 1));
        return c;
    }

    State first(State s, int n) {
        return new State(new ArrayList<>(s.lines().subList(0, n)), s.struck(), s.folded());
    }

    int readBits(State s) {
        int bits = 0;
        for (int k = 0; k < s.lines().size(); k++) {
            bits |= read(s, k) ? 1 << k : 0;
        }
        return bits;
    }

    int place(int p, int what) {
        int bits = 0;
        switch (what) {
            case 0:
                return t.ranks.get(p);
            case 1:
                return t.rooms.get(p);
            case 2:
                return room(now, p);
            case 3:
                for (int q = 0; q < places(); q++) {
                    bits |= q != p && outranks(p, q, 0) ? 1 << q : 0;
                }
                return bits;
            case 4:
                for (int k = 0; k < lines(); k++) {
                    bits |= now.lines().get(k).place() == p ? 1 << k : 0;
                }
                return bits;
            default:
                return now.folded().contains(p) ? 1 : 0;
        }
    }

    int linesOfHand(int h) {
        int bits = 0;
        for (int k = 0; k < lines(); k++) {
            bits |= now.lines().get(k).hand() == h ? 1 << k : 0;
        }
        return bits;
    }

    int ruled(int h) {
        int bits = 0;
        for (int m = 0; m < matters(); m++) {
            int k = stands(now, m);
            bits |= k >= 0 && now.lines().get(k).hand() == h ? 1 << m : 0;
        }
        return bits;
    }

    int hand(int h, int what) {
        return what == 0 ? t.purses.get(h) : what == 1 ? linesOfHand(h) : ruled(h);
    }

    int line(int k, int what) {
        Line l = now.lines().get(k);
        if (what < 5) {
            return new int[] {l.hand(), l.place(), l.matter(), l.say(), l.inches()}[what];
        }
        if (what == 5) {
            return now.struck().contains(k) ? 1 : 0;
        }
        if (what == 6) {
            return read(now, k) ? 1 : 0;
        }
        int bits = 0;
        for (int j = 0; j < lines(); j++) {
            bits |= beats(now, j, k) ? 1 << j : 0;
        }
        return bits;
    }

    int allDone() {
        int bits = 0;
        for (int m = 0; m < matters(); m++) {
            bits |= done(now, m) == 1 ? 1 << m : 0;
        }
        return bits;
    }

    int otherwise(State s) {
        int many = 0;
        for (int m = 0; m < matters(); m++) {
            many += done(s, m) != done(now, m) ? 1 : 0;
        }
        return many;
    }

    /** The first index of the most, if that is above none, else -2. */
    private static int firstMost(int[] counts) {
        int best = -2;
        int most = 0;
        for (int i = 0; i < counts.length; i++) {
            if (counts[i] > most) {
                most = counts[i];
                best = i;
            }
        }
        return best;
    }

    int ruler() {
        int[] counts = new int[hands()];
        Arrays.setAll(counts, h -> Integer.bitCount(ruled(h)));
        return firstMost(counts);
    }

    int power() {
        int[] counts = new int[hands()];
        Arrays.setAll(counts, h -> otherwise(without(now, linesOfHand(h))));
        return firstMost(counts);
    }

    // ---- line by line

    int doneBy(int m, int n) {
        return done(first(now, n), m);
    }

    int changes(int m) {
        int many = 0;
        for (int n = 1; n <= lines(); n++) {
            many += doneBy(m, n) != doneBy(m, n - 1) ? 1 : 0;
        }
        return many;
    }

    int since(int m) {
        for (int n = 0; n <= lines(); n++) {
            boolean all = true;
            for (int i = n; i <= lines(); i++) {
                all &= doneBy(m, i) == done(now, m);
            }
            if (all) {
                return n;
            }
        }
        throw new IllegalStateException();
    }

    int idle() {
        int bits = 0;
        for (int k = 0; k < lines(); k++) {
            bits |= read(now, k) && otherwise(without(now, 1 << k)) == 0 ? 1 << k : 0;
        }
        return bits;
    }

    int turn(int m) {
        int read = readBits(now);
        for (int size = 1; size <= 8; size++) {
            for (int bits = 0; bits < 256; bits++) {
                if ((bits & ~read) == 0 && Integer.bitCount(bits) == size && done(without(now, bits), m) != done(now, m)) {
                    return bits;
                }
            }
        }
        return -2;
    }

    int weakest() {
        int best = -2;
        for (int m = 0; m < matters(); m++) {
            int bits = turn(m);
            if (bits != -2 && (best == -2 || Integer.bitCount(bits) < Integer.bitCount(turn(best)))) {
                best = m;
            }
        }
        return best;
    }

    // ---- holding

    boolean open(State s, int p) {
        return !s.folded().contains(p) && room(s, p) >= 1;
    }

    int holds(int m, int say) {
        int bits = 0;
        for (int p = 0; p < places(); p++) {
            if (!open(now, p)) {
                continue;
            }
            State s = with(now, p, m, say);
            int k = lines();
            boolean held = stands(s, m) == k;
            for (int q = 0; q < places(); q++) {
                if (open(s, q) && beats(with(s, q, m, 0), k + 1, k)) {
                    held = false;
                }
            }
            bits |= held ? 1 << p : 0;
        }
        return bits;
    }

    boolean wins(State s, int m, int left, boolean one) {
        if (left == 0) {
            return done(s, m) == 1;
        }
        List<Boolean> ways = new ArrayList<>();
        ways.add(wins(s, m, left - 1, !one));
        for (int p = 0; p < places(); p++) {
            if (open(s, p)) {
                ways.add(wins(with(s, p, m, one ? 1 : 0), m, left - 1, !one));
            }
        }
        return one ? ways.contains(true) : !ways.contains(false);
    }

    int winsBy(int m, int n) {
        if (wins(now, m, n - 1, false)) {
            return -2;
        }
        for (int p = 0; p < places(); p++) {
            if (open(now, p) && wins(with(now, p, m, 1), m, n - 1, false)) {
                return p;
            }
        }
        return -2;
    }

    // ---- rings

    List<Integer> ring(int p, int dropped) {
        for (int size = 3; size <= places(); size++) {
            List<Integer> row = new ArrayList<>(List.of(p));
            if (extend(row, size, dropped)) {
                return row;
            }
        }
        return List.of();
    }

    private boolean extend(List<Integer> row, int size, int dropped) {
        int last = row.get(row.size() - 1);
        if (row.size() == size) {
            return outranks(last, row.get(0), dropped);
        }
        for (int q = 0; q < places(); q++) {
            if (!row.contains(q) && outranks(last, q, dropped)) {
                row.add(q);
                if (extend(row, size, dropped)) {
                    return true;
                }
                row.remove(row.size() - 1);
            }
        }
        return false;
    }

    int free() {
        int best = -1;
        for (int dropped = (1 << t.overs.size()) - 1; dropped >= 0; dropped--) {
            boolean none = true;
            for (int p = 0; p < places(); p++) {
                none &= ring(p, dropped).isEmpty();
            }
            if (none && (best < 0 || Integer.bitCount(dropped) <= Integer.bitCount(best))) {
                best = dropped;
            }
        }
        return best;
    }

    int top() {
        int best = 0;
        for (int p = 0; p < places(); p++) {
            best = Integer.bitCount(place(p, 3)) > Integer.bitCount(place(best, 3)) ? p : best;
        }
        return best;
    }

    // ---- bids

    int[] taken(int without) {
        int best = 0;
        int most = 0;
        for (int bits = 0; bits < 1 << t.bids.size(); bits++) {
            int[] inches = new int[6];
            int[] pays = new int[4];
            int sum = 0;
            for (int b = 0; b < t.bids.size(); b++) {
                if ((bits >> b & 1) == 1) {
                    Bid bid = t.bids.get(b);
                    inches[bid.place()] += bid.inches();
                    pays[bid.hand()] += bid.pays();
                    sum += bid.pays();
                }
            }
            boolean good = (bits >> without & 1) == 0;
            for (int p = 0; p < places(); p++) {
                good &= inches[p] <= room(now, p);
            }
            for (int h = 0; h < hands(); h++) {
                good &= pays[h] <= t.purses.get(h);
            }
            if (good && sum > most) {
                most = sum;
                best = bits;
            }
        }
        return new int[] {best, most};
    }

    // ---- hidden lines

    List<List<Integer>> fits() {
        List<List<Integer>> all = new ArrayList<>();
        fill(new ArrayList<>(), all);
        return all;
    }

    private void fill(List<Integer> row, List<List<Integer>> all) {
        if (row.size() < t.hidden.size()) {
            for (int i = 0; i <= 2 * t.matters; i++) {
                row.add(i == 2 * t.matters ? -2 : i);
                fill(row, all);
                row.remove(row.size() - 1);
            }
            return;
        }
        State s = new State(new ArrayList<>(t.lines), Set.of(), Set.of());
        for (int k = 0; k < row.size(); k++) {
            if (row.get(k) >= 0) {
                s.lines().add(new Line(-1, t.hidden.get(k), row.get(k) / 2, row.get(k) % 2, 1));
            }
        }
        if (wrongMatter(s) == -2) {
            all.add(new ArrayList<>(row));
        }
    }

    private int wrongMatter(State s) {
        for (int m = 0; m < t.matters; m++) {
            if (t.done.containsKey(m) && t.done.get(m) != done(s, m)) {
                return m;
            }
        }
        return -2;
    }

    int judge() {
        return wrongMatter(new State(t.lines, Set.of(), Set.of()));
    }

    int[] ask() {
        List<List<Integer>> all = fits();
        int best = -2;
        int least = -2;
        for (int k = 0; k < t.hidden.size() && !all.isEmpty(); k++) {
            Map<Integer, Integer> left = new HashMap<>();
            for (List<Integer> row : all) {
                left.merge(row.get(k), 1, Integer::sum);
            }
            int most = left.values().stream().mapToInt(Integer::intValue).max().orElse(0);
            if (best == -2 || most < least) {
                best = k;
                least = most;
            }
        }
        return new int[] {best, least};
    }

    // ---- wet thumbs

    interface Count {
        int of(State s);
    }

    /** The mean of a count over what may be smudged, upper and lower. */
    long[] mean(Count count) {
        int read = readBits(now);
        BigInteger sum = BigInteger.ZERO;
        for (int smudged = 0; smudged < 256; smudged++) {
            if ((smudged & ~read) == 0) {
                int wets = Integer.bitCount(smudged);
                BigInteger likely = BigInteger.valueOf(t.wet).pow(wets)
                        .multiply(BigInteger.valueOf(100 - t.wet).pow(Integer.bitCount(read) - wets));
                sum = sum.add(likely.multiply(BigInteger.valueOf(count.of(without(now, smudged)))));
            }
        }
        BigInteger all = BigInteger.valueOf(100).pow(Integer.bitCount(read));
        BigInteger common = sum.gcd(all);
        return new long[] {sum.divide(common).longValueExact(), all.divide(common).longValueExact()};
    }

    State thumbs(int seed, int n) {
        State s = now.copy();
        s.struck().removeIf(k -> true);
        long draw = seed;
        for (int i = 0; i < n; i++) {
            draw = (75 * draw + 74) % 65537;
            if (draw % 100 < t.wet && lines() > 0) {
                draw = (75 * draw + 74) % 65537;
                s.struck().add((int) (draw % lines()));
            }
        }
        return s;
    }

    int thumbsDone(int m, int seed, int n) {
        State s = now.copy();
        s.struck().addAll(thumbs(seed, n).struck());
        return done(s, m);
    }

    int led(int i) {
        List<Integer> doubt = new ArrayList<>();
        for (int m = 0; m < matters(); m++) {
            if (done(now, m) == -2) {
                doubt.add(m);
            }
        }
        return i >= 0 && i < doubt.size() ? doubt.get(i) : -99;
    }

    // ---- acts

    void act() {
        past.addLast(now.copy());
        if (past.size() > 16) {
            past.removeFirst();
        }
    }
}
