import java.util.ArrayList;
import java.util.HashMap;
import java.util.HashSet;
import java.util.LinkedHashSet;
import java.util.List;
import java.util.Map;
import java.util.Set;
import java.util.TreeSet;

/** The document's words in the plainest way: in small texts all explanations are tried, in greater ones the best of each rest. */
final class Model {
    private static final int NONE = -1, UNKNOWN = -1001, OUTSIDE = -1002, NOT = -1003, FULL = -1004;

    private static final class Text {
        int writer, day;
        List<Integer> words = new ArrayList<>();
        Set<Integer> stops = new TreeSet<>();
    }

    private record Mark(int x, int i, int j, int y) { }

    private record Clause(String name, int value) { }

    private record Rule(int day, List<Clause> clauses) { }

    private record Piece(int i, int size) { }

    private record Spot(int text, int place) { }

    private final List<Text> texts = new ArrayList<>();
    private final List<int[]> meanings = new ArrayList<>();
    private final Set<Integer> commons = new HashSet<>();
    private final List<Mark> marks = new ArrayList<>();
    private final List<Rule> rules = new ArrayList<>();
    private final StringBuilder fed = new StringBuilder();
    private int faultAt = NONE;
    /** What was worked out since the latest change: what holds on a day, the least places of runs. */
    private final Map<Integer, Integer> held = new HashMap<>();
    private final Map<Integer, Integer> places = new HashMap<>();

    private static final int SMALL = 12;

    private boolean un(int x) {
        return x < 0 || x >= texts.size();
    }

    private static boolean out(int v, int low, int high) {
        return v < low || v > high;
    }

    private int size(int x) {
        return texts.get(x).words.size();
    }

    private void forget() {
        held.clear();
        places.clear();
    }

    // ---- texts

    int text(int writer, int day) {
        if (out(writer, 0, 9) || out(day, 0, 999)) return OUTSIDE;
        if (texts.size() == 10) return FULL;
        Text t = new Text();
        t.writer = writer;
        t.day = day;
        texts.add(t);
        forget();
        return texts.size() - 1;
    }

    int word(int x, int w) {
        if (un(x)) return UNKNOWN;
        if (out(w, 1, 200)) return OUTSIDE;
        if (size(x) == 60) return FULL;
        texts.get(x).words.add(w);
        forget();
        return size(x);
    }

    int stop(int x) {
        if (un(x)) return UNKNOWN;
        Text t = texts.get(x);
        if (size(x) == 0 || t.stops.contains(size(x) - 1)) return NOT;
        t.stops.add(size(x) - 1);
        return t.stops.size();
    }

    int copy(int x, int y, int i, int j) {
        if (un(x) || un(y)) return UNKNOWN;
        if (out(i, 0, size(y) - 1) || out(j, i, size(y) - 1)) return OUTSIDE;
        if (size(x) + (j - i + 1) > 60) return FULL;
        for (int m = i; m <= j; m++) {
            word(x, texts.get(y).words.get(m));
            if (texts.get(y).stops.contains(m)) stop(x);
        }
        return size(x);
    }

    int about(int x, int what) {
        if (un(x)) return UNKNOWN;
        if (out(what, 0, 6)) return OUTSIDE;
        Text t = texts.get(x);
        if (what < 4) return new int[] {t.writer, t.day, size(x), sentences(x).size()}[what];
        int n = 0;
        for (int m = 0; m < marks.size(); m++) if (marks.get(m).x() == x && stands(m) == what - 4) n++;
        return n;
    }

    int at(int x, int i) {
        if (un(x)) return UNKNOWN;
        return out(i, 0, size(x) - 1) ? NONE : texts.get(x).words.get(i);
    }

    private Set<Integer> meaning(int w) {
        Set<Integer> all = new TreeSet<>(Set.of(w));
        for (int turn = 0; turn <= meanings.size(); turn++) {
            for (int[] pair : meanings) {
                if (all.contains(pair[0])) all.add(pair[1]);
                if (all.contains(pair[1])) all.add(pair[0]);
            }
        }
        return all;
    }

    int same(int v, int w) {
        if (out(v, 1, 200) || out(w, 1, 200)) return OUTSIDE;
        if (meaning(v).contains(w)) return NOT;
        meanings.add(new int[] {v, w});
        forget();
        return meaning(v).size();
    }

    int common(int w, boolean is) {
        if (out(w, 1, 200)) return OUTSIDE;
        int was = commons.contains(w) ? 1 : 0;
        forget();
        if (is) commons.add(w);
        else commons.remove(w);
        return was;
    }

    int mark(int x, int i, int j, int y) {
        if (un(x) || (y != NONE && un(y))) return UNKNOWN;
        if (out(i, 0, size(x) - 1) || out(j, i, size(x) - 1) || x == y) return OUTSIDE;
        if (marks.size() == 30) return FULL;
        marks.add(new Mark(x, i, j, y));
        return marks.size() - 1;
    }

    int stands(int m) {
        if (m < 0 || m >= marks.size()) return UNKNOWN;
        Mark k = marks.get(m);
        if (k.y() == NONE) return 1;
        List<Integer> cited = texts.get(k.x()).words.subList(k.i(), k.j() + 1);
        boolean there = java.util.Collections.indexOfSubList(texts.get(k.y()).words, cited) >= 0;
        return older(k.y(), k.x()) && there ? 0 : 2;
    }

    int count(int what) {
        if (out(what, 0, 6)) return OUTSIDE;
        int words = 0, shared = 0;
        for (Text t : texts) words += t.words.size();
        for (int w = 1; w <= 200; w++) if (meaning(w).size() > 1) shared++;
        return new int[] {texts.size(), words, marks.size(), rules.size(), fed.length(), shared, commons.size()}[what];
    }

    private boolean older(int y, int x) {
        int a = texts.get(y).day, b = texts.get(x).day;
        return a < b || a == b && y < x;
    }

    // ---- rules

    int feed(int n, long bytes) {
        if (out(n, 1, 8)) return OUTSIDE;
        if (fed.length() + n > 120) return FULL;
        byte[] eight = java.nio.ByteBuffer.allocate(8).putLong(bytes).array();
        for (int m = 8 - n; m < 8; m++) fed.append((char) (eight[m] & 255));
        return fed.length();
    }

    private static final List<String> NAMES = List.of("least", "slips", "mean", "common", "free", "light", "heavy");
    private static final int[] LOW = {2, 0, 0, 0, 0, 0, 0}, HIGH = {20, 3, 1, 1, 999, 100, 100}, FIRST = {4, 0, 0, 1, 900, 10, 50};

    int rule(int day) {
        if (out(day, 0, 999)) return OUTSIDE;
        if (rules.size() == 8) return FULL;
        // Words, numbers and other signs with their places; the end is an empty one.
        List<String> tokens = new ArrayList<>();
        List<Integer> places = new ArrayList<>();
        java.util.regex.Matcher found = java.util.regex.Pattern.compile("[a-z]+|[0-9]+|[^ ]", java.util.regex.Pattern.DOTALL).matcher(fed);
        while (found.find()) {
            tokens.add(found.group());
            places.add(found.start());
        }
        tokens.add("");
        places.add(fed.length());
        fed.setLength(0);
        List<Clause> clauses = new ArrayList<>();
        for (int t = 0; ; t += 3) {
            if (tokens.get(t).isEmpty()) break;
            for (int m = 0; m < 3; m++) {
                int fault = tokenFault(tokens, t, m, clauses.size());
                if (fault != 0) {
                    faultAt = places.get(t + m);
                    return -10 - fault;
                }
            }
            String value = tokens.get(t + 1);
            clauses.add(new Clause(tokens.get(t), value.equals("yes") ? 1 : value.equals("no") ? 0 : Integer.parseInt(value)));
        }
        faultAt = NONE;
        rules.add(new Rule(day, clauses));
        forget();
        return rules.size() - 1;
    }

    private int tokenFault(List<String> tokens, int t, int m, int clauses) {
        String token = tokens.get(t + m), head = tokens.get(t);
        int kind = NAMES.indexOf(head);
        if (m == 0) {
            if (kind < 0 && !head.equals("strike")) return 1;
            return clauses == 8 ? 4 : 0;
        }
        if (m == 2) return token.equals(";") ? 0 : 1;
        if (head.equals("mean") || head.equals("common")) return token.equals("yes") || token.equals("no") ? 0 : 1;
        if (!token.matches("[0-9]+")) return 1;
        if (token.length() > 3) return 2;
        int value = Integer.parseInt(token);
        if (head.equals("strike")) return value < rules.size() ? 0 : 3;
        return out(value, LOW[kind], HIGH[kind]) ? 2 : 0;
    }

    int fault() {
        return faultAt;
    }

    int force(int what, int day) {
        if (out(what, 0, 6) || out(day, 0, 999)) return OUTSIDE;
        return holds(what, day);
    }

    private int holds(int what, int day) {
        Integer known = held.get(what * 1000 + day);
        if (known == null) held.put(what * 1000 + day, known = holdsAnew(what, day));
        return known;
    }

    private int holdsAnew(int what, int day) {
        Set<Integer> counting = new HashSet<>();
        for (int r = rules.size() - 1; r >= 0; r--) {
            boolean struck = false;
            for (int s : counting) {
                for (Clause c : rules.get(s).clauses()) if (c.name().equals("strike") && c.value() == r) struck = true;
            }
            if (rules.get(r).day() <= day && !struck) counting.add(r);
        }
        int value = FIRST[what];
        for (int d = 0; d <= day; d++) {
            for (int r = 0; r < rules.size(); r++) {
                if (rules.get(r).day() != d || !counting.contains(r)) continue;
                for (Clause c : rules.get(r).clauses()) if (c.name().equals(NAMES.get(what))) value = c.value();
            }
        }
        return value;
    }

    // ---- what is taken

    private Set<Integer> sourceSet(int x, int k) {
        int day = texts.get(x).day, free = holds(4, day);
        Set<Integer> set = new TreeSet<>();
        for (int y = 0; y < k; y++) if (older(y, x) && !(texts.get(y).day <= day - free)) set.add(y);
        return set;
    }

    private static int bits(Set<Integer> set) {
        int bits = 0;
        for (int y : set) bits |= 1 << y;
        return bits;
    }

    private boolean isRun(int x, int y, int i, int j, int n) {
        int day = texts.get(x).day;
        if (n < holds(0, day) || i + n > size(x) || j + n > size(y)) return false;
        int unlike = 0, own = 0;
        boolean[] like = new boolean[n];
        for (int m = 0; m < n; m++) {
            int a = texts.get(x).words.get(i + m), b = texts.get(y).words.get(j + m);
            like[m] = a == b || holds(2, day) == 1 && meaning(a).contains(b);
            if (m == 0 && !like[m]) return false;
            if (!like[m]) unlike++;
            if (!commons.contains(a)) own++;
        }
        boolean enough = holds(3, day) == 1 || own >= n / 2;
        return unlike <= holds(1, day) && like[0] && like[n - 1] && enough;
    }

    /** The first source and the least place with which these words are a run; null: with none. */
    private Spot from(int x, Set<Integer> set, int i, int n) {
        for (int y : set) {
            int key = ((x * 10 + y) * 60 + i) * 61 + n;
            Integer j = places.get(key);
            if (j == null) places.put(key, j = leastPlace(x, y, i, n));
            if (j != NONE) return new Spot(y, j);
        }
        return null;
    }

    private int leastPlace(int x, int y, int i, int n) {
        for (int j = 0; j < size(y); j++) if (isRun(x, y, i, j, n)) return j;
        return NONE;
    }

    private int refused(int x, int k) {
        return un(x) ? UNKNOWN : out(k, 0, texts.size()) ? OUTSIDE : 0;
    }

    int sources(int x, int k) {
        int refused = refused(x, k);
        return refused != 0 ? refused : bits(sourceSet(x, k));
    }

    int reach(int x, int k, int i, int what) {
        int refused = refused(x, k);
        if (refused != 0) return refused;
        if (out(i, 0, size(x) - 1) || out(what, 0, 2)) return OUTSIDE;
        for (int n = size(x) - i; n >= 1; n--) {
            Spot spot = from(x, sourceSet(x, k), i, n);
            if (spot != null) return new int[] {n, spot.text(), spot.place()}[what];
        }
        return what == 0 ? 0 : NONE;
    }

    private List<Piece> explanation(int x, Set<Integer> set) {
        List<Piece> possible = new ArrayList<>();
        for (int i = 0; i < size(x); i++) {
            for (int n = 1; n <= size(x) - i; n++) if (from(x, set, i, n) != null) possible.add(new Piece(i, n));
        }
        if (size(x) > SMALL) return bestOfEachRest(size(x), possible);
        List<List<Piece>> best = new ArrayList<>(List.of(new ArrayList<>()));
        tryAll(possible, 0, new ArrayList<>(), best);
        return best.get(0);
    }

    private static List<Piece> bestOfEachRest(int size, List<Piece> possible) {
        List<List<Piece>> best = new ArrayList<>();
        for (int i = 0; i <= size; i++) best.add(new ArrayList<>());
        for (int i = size - 1; i >= 0; i--) {
            best.set(i, best.get(i + 1));
            for (Piece p : possible) {
                if (p.i() != i) continue;
                List<Piece> with = new ArrayList<>(List.of(p));
                with.addAll(best.get(i + p.size()));
                if (better(with, best.get(i))) best.set(i, with);
            }
        }
        return best.get(0);
    }

    private void tryAll(List<Piece> possible, int end, List<Piece> sofar, List<List<Piece>> best) {
        if (better(sofar, best.get(0))) best.set(0, new ArrayList<>(sofar));
        for (Piece p : possible) {
            if (p.i() < end) continue;
            sofar.add(p);
            tryAll(possible, p.i() + p.size(), sofar, best);
            sofar.remove(sofar.size() - 1);
        }
    }

    private static int covered(List<Piece> pieces) {
        int words = 0;
        for (Piece p : pieces) words += p.size();
        return words;
    }

    private static boolean better(List<Piece> a, List<Piece> b) {
        if (covered(a) != covered(b)) return covered(a) > covered(b);
        if (a.size() != b.size()) return a.size() < b.size();
        for (int p = 0; p < a.size(); p++) {
            if (a.get(p).i() != b.get(p).i()) return a.get(p).i() < b.get(p).i();
            if (a.get(p).size() != b.get(p).size()) return a.get(p).size() > b.get(p).size();
        }
        return false;
    }

    int piece(int x, int k, int p, int what) {
        int refused = refused(x, k);
        if (refused != 0) return refused;
        List<Piece> pieces = explanation(x, sourceSet(x, k));
        if (p == NONE) return pieces.size();
        if (out(what, 0, 3)) return OUTSIDE;
        if (out(p, 0, pieces.size() - 1)) return NONE;
        Piece q = pieces.get(p);
        Spot spot = from(x, sourceSet(x, k), q.i(), q.size());
        return new int[] {q.i(), q.size(), spot.text(), spot.place()}[what];
    }

    private int[] judgement(int x, Set<Integer> set) {
        Set<Integer> taken = new TreeSet<>();
        for (Piece p : explanation(x, set)) for (int m = 0; m < p.size(); m++) taken.add(p.i() + m);
        Set<Integer> borrowed = new TreeSet<>(taken);
        for (int m = 0; m < marks.size(); m++) {
            Mark k = marks.get(m);
            if (k.x() == x && stands(m) == 0) borrowed.removeIf(i -> i >= k.i() && i <= k.j());
        }
        int share = size(x) == 0 ? 0 : borrowed.size() * 100 / size(x);
        int day = texts.get(x).day;
        int verdict = taken.isEmpty() ? 0 : borrowed.isEmpty() ? 1 : share >= holds(6, day) ? 4 : share <= holds(5, day) ? 2 : 3;
        return new int[] {taken.size(), borrowed.size(), share, verdict};
    }

    int judged(int x, int k, int what) {
        int refused = refused(x, k);
        if (refused != 0) return refused;
        return out(what, 0, 3) ? OUTSIDE : judgement(x, sourceSet(x, k))[what];
    }

    int fewest(int x, int k) {
        int refused = refused(x, k);
        if (refused != 0) return refused;
        Set<Integer> all = sourceSet(x, k);
        int wanted = covered(explanation(x, all));
        int best = bits(all);
        for (int part = bits(all); part >= 0; part--) {
            if ((part & ~bits(all)) != 0 || Integer.bitCount(part) > Integer.bitCount(best)) continue;
            Set<Integer> set = new TreeSet<>();
            for (int y : all) if ((part >> y & 1) == 1) set.add(y);
            if (covered(explanation(x, set)) == wanted) best = part;
        }
        return best;
    }

    int hangs(int x, int k) {
        int refused = refused(x, k);
        if (refused != 0) return refused;
        Set<Integer> all = sourceSet(x, k), on = new TreeSet<>();
        for (int y : all) {
            Set<Integer> without = new TreeSet<>(all);
            without.remove(y);
            if (judgement(x, without)[3] != judgement(x, all)[3]) on.add(y);
        }
        return bits(on);
    }

    // ---- who had it first

    /** The way of a word, itself included. */
    private List<Spot> way(int x, int i) {
        List<Spot> way = new ArrayList<>(List.of(new Spot(x, i)));
        Set<Integer> set = sourceSet(x, texts.size());
        for (Piece p : explanation(x, set)) {
            if (i < p.i() || i >= p.i() + p.size()) continue;
            Spot spot = from(x, set, p.i(), p.size());
            way.addAll(way(spot.text(), i - p.i() + spot.place()));
        }
        return way;
    }

    int first(int x, int i, int what) {
        if (un(x)) return UNKNOWN;
        if (out(i, 0, size(x) - 1) || out(what, 0, 2)) return OUTSIDE;
        List<Spot> way = way(x, i);
        Spot end = way.get(way.size() - 1);
        return new int[] {end.text(), end.place(), way.size() - 1}[what];
    }

    int passed(int x, int y) {
        if (un(x) || un(y)) return UNKNOWN;
        if (x == y) return OUTSIDE;
        int n = 0;
        for (int i = 0; i < size(x); i++) {
            boolean by = false;
            for (Spot s : way(x, i)) by |= s.text() == y;
            if (by) n++;
        }
        return n;
    }

    int sprung(int x) {
        if (un(x)) return UNKNOWN;
        int n = 0;
        for (int y = 0; y < texts.size(); y++) for (int i = 0; i < size(y); i++) if (first(y, i, 0) == x) n++;
        return n;
    }

    // ---- likeness, sentences

    private Set<List<Integer>> rowSet(int x, int r) {
        Set<List<Integer>> rows = new LinkedHashSet<>();
        for (int i = 0; i + r <= size(x); i++) rows.add(new ArrayList<>(texts.get(x).words.subList(i, i + r)));
        return rows;
    }

    int rows(int x, int r) {
        return un(x) ? UNKNOWN : out(r, 1, 5) ? OUTSIDE : rowSet(x, r).size();
    }

    private int[] fraction(int x, int y, int r) {
        Set<List<Integer>> both = rowSet(x, r), either = rowSet(x, r);
        both.retainAll(rowSet(y, r));
        either.addAll(rowSet(y, r));
        if (either.isEmpty()) return new int[] {0, 1};
        int d = java.math.BigInteger.valueOf(both.size()).gcd(java.math.BigInteger.valueOf(either.size())).intValue();
        return new int[] {both.size() / d, either.size() / d};
    }

    int likeness(int x, int y, int r, int what) {
        if (un(x) || un(y)) return UNKNOWN;
        return out(r, 1, 5) || out(what, 0, 1) ? OUTSIDE : fraction(x, y, r)[what];
    }

    int nearest(int x, int r) {
        if (un(x)) return UNKNOWN;
        if (out(r, 1, 5)) return OUTSIDE;
        int best = NONE;
        for (int y = texts.size() - 1; y >= 0; y--) {
            if (y == x) continue;
            if (best == NONE) best = y;
            int[] a = fraction(x, y, r), b = fraction(x, best, r);
            if (a[0] * b[1] >= b[0] * a[1]) best = y;
        }
        return best;
    }

    int family(int x, int r, int u) {
        if (un(x)) return UNKNOWN;
        if (out(r, 1, 5) || out(u, 0, 100)) return OUTSIDE;
        TreeSet<Integer> kin = new TreeSet<>(Set.of(x));
        for (int turn = 0; turn < texts.size(); turn++) {
            for (int y : new ArrayList<>(kin)) {
                for (int z = 0; z < texts.size(); z++) {
                    int[] f = fraction(y, z, r);
                    if (100 * f[0] >= u * f[1]) kin.add(z);
                }
            }
        }
        return kin.first();
    }

    private List<List<Integer>> sentences(int x) {
        List<List<Integer>> all = new ArrayList<>();
        List<Integer> open = new ArrayList<>();
        for (int i = 0; i < size(x); i++) {
            open.add(texts.get(x).words.get(i));
            if (texts.get(x).stops.contains(i)) {
                all.add(open);
                open = new ArrayList<>();
            }
        }
        if (!open.isEmpty()) all.add(open);
        return all;
    }

    int moved(int x, int y, int what) {
        if (un(x) || un(y)) return UNKNOWN;
        if (out(what, 0, 2)) return OUTSIDE;
        List<List<Integer>> left = sentences(x), right = sentences(y);
        List<Integer> partners = new ArrayList<>();
        for (List<Integer> s : left) {
            int t = right.indexOf(s);
            if (t < 0) continue;
            partners.add(t);
            right.set(t, List.of());
        }
        int stay = 0;
        for (int part = 0; part < 1 << partners.size(); part++) {
            int before = -1;
            boolean ordered = true;
            for (int p = 0; p < partners.size(); p++) {
                if ((part >> p & 1) == 0) continue;
                ordered &= partners.get(p) > before;
                before = partners.get(p);
            }
            if (ordered) stay = Math.max(stay, Integer.bitCount(part));
        }
        return new int[] {partners.size(), partners.size() - stay, left.size() - partners.size()}[what];
    }
}
