import java.util.ArrayDeque;
import java.util.ArrayList;
import java.util.Deque;
import java.util.List;
import java.util.Map;
import java.util.TreeMap;
import java.util.regex.Matcher;
import java.util.regex.Pattern;

/**
 * The document once more, told as plainly as can be and without regard for time: every row of
 * LENGTHS is tried, every row of PLACES is looked at. It shares no code with AskedMaps.
 */
final class Oracle {
    static final int BAD = -1, STATE = -2, FULL = -3, NONE = -9, NO = -1000000;

    private record Lane(int a, int b, int length, int spades) { }

    private record State(List<Integer> lengths, List<List<Integer>> maps, List<Integer> draft, int dug) {
        State withDraft(List<Integer> other) {
            return new State(lengths, maps, other, dug);
        }

        State withMaps(List<List<Integer>> other) {
            return new State(lengths, other, draft, dug);
        }

        State withLengths(List<Integer> other, int cost) {
            return new State(other, maps, draft, Math.min(99999, dug + cost));
        }
    }

    private record Answer(int cost, List<Integer> lengths) { }

    private record Token(int at, String is) { }

    private final StringBuilder text = new StringBuilder();
    private int places = 2;
    private List<Lane> lanes = List.of();
    private State now = new State(List.of(), List.of(), List.of(), 0);
    private final Deque<State> past = new ArrayDeque<>();
    private final State[] images = new State[2];
    private final List<int[]> took = new ArrayList<>();
    private long trace = 0;

    private List<List<Integer>> ways = List.of();
    private List<List<Integer>> rows = List.of();
    private long[] holding = {0};

    Oracle() {
        measureAll();
    }

    // ---- the text

    int type(int letter) {
        if (letter < 0 || letter > 255) {
            return BAD;
        }
        if (text.length() == 120) {
            return FULL;
        }
        text.append((char) letter);
        return text.length();
    }

    int clear() {
        int had = text.length();
        text.setLength(0);
        return had;
    }

    private List<Token> tokens() {
        List<Token> all = new ArrayList<>();
        Matcher m = Pattern.compile("[0-9]+|[^ ]", Pattern.DOTALL).matcher(text);
        while (m.find()) {
            all.add(new Token(m.start(), m.group()));
        }
        all.add(new Token(text.length(), ""));
        return all;
    }

    private static int number(Token t) {
        return t.is().matches("0|[1-9][0-9]?") ? Integer.parseInt(t.is()) : -1;
    }

    int land() {
        List<Token> all = tokens();
        int newPlaces = 2;
        List<Lane> newLanes = new ArrayList<>();
        List<List<Integer>> newMaps = new ArrayList<>();
        int items = 0;
        int i = 0;
        while (!all.get(i).is().isEmpty()) {
            Token head = all.get(i++);
            List<Integer> numbers = new ArrayList<>();
            if (!head.is().matches("[nlm]") || head.is().equals("n") && items > 0
                    || head.is().equals("l") && newLanes.size() == 6
                    || head.is().equals("m") && newMaps.size() == 4) {
                return -10 - head.at();
            }
            while (true) {
                Token t = all.get(i++);
                int many = numbers.size();
                boolean ends = switch (head.is()) {
                    case "n" -> many == 1;
                    case "l" -> many == 4;
                    default -> many >= 2;
                };
                if (t.is().equals(";") && ends) {
                    break;
                }
                int v = number(t);
                boolean fine = v >= 0 && switch (head.is()) {
                    case "n" -> many == 0 && v >= 2 && v <= 5;
                    case "l" -> laneNumber(newPlaces, newLanes, numbers, v);
                    default -> many < 5 && v < newPlaces && !numbers.contains(v)
                            && (many == 0 || joined(newLanes, numbers.get(many - 1), v) >= 0);
                };
                if (!fine) {
                    return -10 - t.at();
                }
                numbers.add(v);
            }
            items++;
            switch (head.is()) {
                case "n" -> newPlaces = numbers.get(0);
                case "l" -> newLanes.add(new Lane(numbers.get(0), numbers.get(1), numbers.get(2), numbers.get(3)));
                default -> newMaps.add(numbers);
            }
        }
        text.setLength(0);
        places = newPlaces;
        lanes = newLanes;
        now = new State(newLanes.stream().map(Lane::length).toList(), newMaps, List.of(), 0);
        past.clear();
        images[0] = null;
        images[1] = null;
        took.clear();
        measureAll();
        return items;
    }

    private static boolean laneNumber(int newPlaces, List<Lane> newLanes, List<Integer> numbers, int v) {
        return switch (numbers.size()) {
            case 0 -> v < newPlaces;
            case 1 -> v < newPlaces && v != numbers.get(0) && joined(newLanes, numbers.get(0), v) < 0;
            case 2 -> v >= 1 && v <= 5;
            case 3 -> v >= 1 && v <= 9;
            default -> false;
        };
    }

    private static int joined(List<Lane> among, int a, int b) {
        for (int l = 0; l < among.size(); l++) {
            Lane x = among.get(l);
            if (x.a() == a && x.b() == b || x.a() == b && x.b() == a) {
                return l;
            }
        }
        return -1;
    }

    // ---- WAYS, and by which LENGTHS each holds

    private boolean isWay(List<Integer> row) {
        for (int k = 1; k < row.size(); k++) {
            if (joined(lanes, row.get(k - 1), row.get(k)) < 0) {
                return false;
            }
        }
        return row.stream().distinct().count() == row.size();
    }

    private static int compare(List<Integer> a, List<Integer> b) {
        for (int k = 0; k < Math.min(a.size(), b.size()); k++) {
            if (!a.get(k).equals(b.get(k))) {
                return a.get(k) - b.get(k);
            }
        }
        return a.size() - b.size();
    }

    private void measureAll() {
        List<List<Integer>> found = new ArrayList<>();
        for (int size = 2; size <= 5; size++) {
            for (int code = 0; code < Math.pow(places, size); code++) {
                List<Integer> row = new ArrayList<>();
                for (int k = 0, rest = code; k < size; k++, rest /= places) {
                    row.add(rest % places);
                }
                if (row.get(0) < row.get(size - 1) && isWay(row)) {
                    found.add(row);
                }
            }
        }
        found.sort(Oracle::compare);
        ways = found;
        rows = new ArrayList<>();
        int many = 1;
        for (int l = 0; l < lanes.size(); l++) {
            many *= 5;
        }
        holding = new long[many];
        for (int code = 0; code < many; code++) {
            List<Integer> lengths = new ArrayList<>();
            for (int l = 0, rest = code; l < lanes.size(); l++, rest /= 5) {
                lengths.add(0, rest % 5 + 1);
            }
            rows.add(lengths);
            holding[code] = shortest(lengths);
        }
    }

    private long shortest(List<Integer> lengths) {
        Map<String, Integer> least = new TreeMap<>();
        for (List<Integer> w : ways) {
            least.merge(ends(w), length(w, lengths), Math::min);
        }
        long bits = 0;
        for (int w = 0; w < ways.size(); w++) {
            if (least.get(ends(ways.get(w))) == length(ways.get(w), lengths)) {
                bits |= 1L << w;
            }
        }
        return bits;
    }

    private static String ends(List<Integer> w) {
        return w.get(0) + " " + w.get(w.size() - 1);
    }

    private int length(List<Integer> row, List<Integer> lengths) {
        int sum = 0;
        for (int k = 1; k < row.size(); k++) {
            sum += lengths.get(joined(lanes, row.get(k - 1), row.get(k)));
        }
        return sum;
    }

    private long bit(List<Integer> row) {
        List<Integer> turned = new ArrayList<>(row);
        if (turned.get(0) > turned.get(turned.size() - 1)) {
            java.util.Collections.reverse(turned);
        }
        return 1L << ways.indexOf(turned);
    }

    private boolean holds(List<Integer> row) {
        return (shortest(now.lengths()) & bit(row)) != 0;
    }

    private boolean goesBy(List<Integer> row, int l) {
        for (int k = 1; k < row.size(); k++) {
            if (joined(lanes, row.get(k - 1), row.get(k)) == l) {
                return true;
            }
        }
        return false;
    }

    // ---- the land

    private boolean isLane(int l) {
        return l >= 0 && l < lanes.size();
    }

    private boolean isMap(int m) {
        return m >= 0 && m < now.maps().size();
    }

    private boolean isPlace(int p) {
        return p >= 0 && p < places;
    }

    int lane(int l, int what) {
        if (!isLane(l) || what < 0 || what > 4) {
            return BAD;
        }
        return switch (what) {
            case 0 -> lanes.get(l).a();
            case 1 -> lanes.get(l).b();
            case 2 -> now.lengths().get(l);
            case 3 -> lanes.get(l).spades();
            default -> (int) now.maps().stream().filter(r -> goesBy(r, l)).count();
        };
    }

    int map(int m, int what) {
        if (!isMap(m) || what < 0 || what > 2) {
            return BAD;
        }
        List<Integer> row = now.maps().get(m);
        return what == 0 ? row.size() : what == 1 ? length(row, now.lengths()) : holds(row) ? 1 : 0;
    }

    int place(int m, int k) {
        if (m != -1 && !isMap(m) || k < 0 || k > 4) {
            return BAD;
        }
        List<Integer> row = m == -1 ? now.draft() : now.maps().get(m);
        return k < row.size() ? row.get(k) : NONE;
    }

    int now(int what) {
        switch (what) {
            case 0:
                int bits = 0;
                for (int m = 0; m < now.maps().size(); m++) {
                    bits += holds(now.maps().get(m)) ? 1 << m : 0;
                }
                return bits;
            case 1: return now.draft().size();
            case 2: return now.dug();
            case 3: return past.size();
            default: return BAD;
        }
    }

    // ---- what is done

    private void change(State to) {
        past.push(now);
        if (past.size() > 10) {
            past.removeLast();
        }
        now = to;
    }

    int names(int p) {
        if (!isPlace(p)) {
            return BAD;
        }
        List<Integer> row = new ArrayList<>(now.draft());
        row.add(p);
        if (!isWay(row)) {
            return STATE;
        }
        change(now.withDraft(row));
        return row.size();
    }

    int asks() {
        Answer a = ask(now.maps(), now.draft());
        if (now.draft().size() < 2 || now.maps().size() == 4 || a == null) {
            return STATE;
        }
        List<List<Integer>> more = new ArrayList<>(now.maps());
        more.add(now.draft());
        change(now.withLengths(a.lengths(), a.cost()).withMaps(more).withDraft(List.of()));
        return a.cost();
    }

    int digs(int l, int length) {
        if (!isLane(l) || length < 1 || length > 5) {
            return BAD;
        }
        int old = now.lengths().get(l);
        if (old == length) {
            return STATE;
        }
        List<Integer> other = new ArrayList<>(now.lengths());
        other.set(l, length);
        change(now.withLengths(other, lanes.get(l).spades() * Math.abs(old - length)));
        return old;
    }

    private List<List<Integer>> without(int m) {
        List<List<Integer>> fewer = new ArrayList<>(now.maps());
        fewer.remove(m);
        return fewer;
    }

    int burns(int m) {
        if (!isMap(m)) {
            return BAD;
        }
        change(now.withMaps(without(m)));
        return now.maps().size();
    }

    int wipes() {
        int had = now.draft().size();
        if (had == 0) {
            return STATE;
        }
        change(now.withDraft(List.of()));
        return had;
    }

    int undo() {
        if (past.isEmpty()) {
            return STATE;
        }
        now = past.pop();
        return past.size();
    }

    // ---- the land as it is

    int far(int a, int b) {
        if (!isPlace(a) || !isPlace(b)) {
            return BAD;
        }
        if (a == b) {
            return 0;
        }
        return between(a, b).stream().mapToInt(w -> length(w, now.lengths())).min().orElse(NONE);
    }

    private List<List<Integer>> between(int a, int b) {
        return ways.stream().filter(w -> ends(w).equals(Math.min(a, b) + " " + Math.max(a, b))).toList();
    }

    int by(int a, int b) {
        if (!isPlace(a) || !isPlace(b) || a == b) {
            return BAD;
        }
        return (int) between(a, b).stream().filter(w -> length(w, now.lengths()) == far(a, b)).count();
    }

    int knot(int p) {
        if (!isPlace(p)) {
            return BAD;
        }
        int sum = 0;
        for (int l = 0; l < lanes.size(); l++) {
            if (lanes.get(l).a() == p || lanes.get(l).b() == p) {
                sum += lanes.get(l).spades() * now.lengths().get(l);
            }
        }
        return sum;
    }

    // ---- asking

    private Answer ask(List<List<Integer>> maps, List<Integer> draft) {
        long must = 0;
        for (List<Integer> m : maps) {
            must |= bit(m);
        }
        if (draft.size() >= 2) {
            must |= bit(draft);
        }
        Answer best = null;
        for (int code = 0; code < holding.length; code++) {
            if ((holding[code] & must) == must) {
                int cost = cost(rows.get(code));
                if (best == null || cost < best.cost()) {
                    best = new Answer(cost, rows.get(code));
                }
            }
        }
        return best;
    }

    private int cost(List<Integer> lengths) {
        int sum = 0;
        for (int l = 0; l < lanes.size(); l++) {
            sum += lanes.get(l).spades() * Math.abs(lengths.get(l) - now.lengths().get(l));
        }
        return sum;
    }

    int asking(int l) {
        if (l != -1 && !isLane(l)) {
            return BAD;
        }
        Answer a = ask(now.maps(), now.draft());
        return a == null ? NONE : l == -1 ? a.cost() : a.lengths().get(l);
    }

    private List<List<Integer>> some(int bits) {
        List<List<Integer>> of = new ArrayList<>();
        for (int m = 0; m < now.maps().size(); m++) {
            if ((bits >> m & 1) == 1) {
                of.add(now.maps().get(m));
            }
        }
        return of;
    }

    int clash() {
        for (int size = 1; size <= now.maps().size(); size++) {
            for (int bits = 0; bits < 1 << now.maps().size(); bits++) {
                if (Integer.bitCount(bits) == size && ask(some(bits), now.draft()) == null) {
                    return bits;
                }
            }
        }
        return 0;
    }

    int fire(int what) {
        if (what < 0 || what > 1) {
            return BAD;
        }
        int which = NONE;
        int least = Integer.MAX_VALUE;
        for (int m = now.maps().size() - 1; m >= 0; m--) {
            Answer a = ask(without(m), now.draft());
            int cost = a == null ? Integer.MAX_VALUE : a.cost();
            if (cost <= least) {
                which = m;
                least = cost;
            }
        }
        return what == 0 ? which : least == Integer.MAX_VALUE ? NONE : least;
    }

    /** The place of the WAY of SPITE, its cost, and how many are NONE. */
    private int[] spite() {
        int[] found = {-1, NONE, 0};
        for (int w = 0; w < ways.size(); w++) {
            Answer a = ask(now.maps(), ways.get(w));
            if (a == null) {
                found[2]++;
            } else if (a.cost() > found[1]) {
                found[0] = w;
                found[1] = a.cost();
            }
        }
        return found;
    }

    int spite(int what) {
        if (what < 0 || what > 2) {
            return BAD;
        }
        if (!now.draft().isEmpty()) {
            return STATE;
        }
        return what == 2 ? ways.size() : spite()[what + 1];
    }

    int spiteful(int k) {
        if (k < 0 || k > 4) {
            return BAD;
        }
        if (!now.draft().isEmpty()) {
            return STATE;
        }
        int w = spite()[0];
        return w < 0 || k >= ways.get(w).size() ? NONE : ways.get(w).get(k);
    }

    int odds(int x, int what) {
        if (x < 0 || x > 10 || what < 0 || what > 1) {
            return BAD;
        }
        int many = now.maps().size();
        long upper = 0;
        for (int bits = 0; bits < 1 << many; bits++) {
            if (ask(some(bits), now.draft()) != null) {
                int kept = Integer.bitCount(bits);
                upper += Math.round(Math.pow(10 - x, kept) * Math.pow(x, many - kept));
            }
        }
        java.math.BigInteger u = java.math.BigInteger.valueOf(upper);
        java.math.BigInteger l = java.math.BigInteger.TEN.pow(many);
        return (what == 0 ? u : l).divide(u.gcd(l)).intValueExact();
    }

    // ---- a stranger

    int took(int l, int is) {
        if (!isLane(l) || is < 0 || is > 1) {
            return BAD;
        }
        if (took.size() == 6) {
            return FULL;
        }
        took.add(new int[] {l, is});
        return took.size();
    }

    int forget() {
        int had = took.size();
        took.clear();
        return had;
    }

    private List<List<Integer>> possible() {
        return ways.stream().filter(w -> holds(w)
                && took.stream().allMatch(t -> goesBy(w, t[0]) == (t[1] == 1))).toList();
    }

    int can(int what) {
        if (what < 0 || what > 2) {
            return BAD;
        }
        List<List<Integer>> all = possible();
        if (what == 0) {
            return all.size();
        }
        if (what == 1 && all.isEmpty()) {
            return NONE;
        }
        int bits = 0;
        for (int l = 0; l < lanes.size(); l++) {
            int lane = l;
            boolean in = what == 1 ? all.stream().allMatch(w -> goesBy(w, lane))
                    : all.stream().anyMatch(w -> goesBy(w, lane));
            bits += in ? 1 << l : 0;
        }
        return bits;
    }

    int look() {
        List<List<Integer>> all = possible();
        int which = NONE;
        long least = Long.MAX_VALUE;
        for (int l = 0; l < lanes.size() && all.size() > 1; l++) {
            int lane = l;
            long by = all.stream().filter(w -> goesBy(w, lane)).count();
            long greater = Math.max(by, all.size() - by);
            if (greater < least) {
                least = greater;
                which = l;
            }
        }
        return which;
    }

    // ---- kinds, images

    private static class AnyLane {
        int rate(Oracle of, int l) {
            of.trace += 1;
            return of.now.lengths().get(l);
        }
    }

    private static class Brook extends AnyLane {
        @Override int rate(Oracle of, int l) {
            of.trace += 10;
            return super.rate(of, l) + of.lanes.get(l).spades();
        }
    }

    private static class Cart extends AnyLane {
        @Override int rate(Oracle of, int l) {
            of.trace += 100;
            return super.rate(of, l) - of.lane(l, 4);
        }
    }

    private static class Parlour extends Brook {
        @Override int rate(Oracle of, int l) {
            of.trace += 1000;
            return super.rate(of, l) * 2;
        }
    }

    private static class Home extends Cart {
        @Override int rate(Oracle of, int l) {
            of.trace += 10000;
            return super.rate(of, l) + l;
        }
    }

    private static class Sea extends AnyLane {
        @Override int rate(Oracle of, int l) {
            of.trace += 100000;
            return super.rate(of, l) + of.now.dug();
        }
    }

    int rate(int kind, int l) {
        if (kind < 0 || kind > 5 || !isLane(l)) {
            return NO;
        }
        return List.of(new AnyLane(), new Brook(), new Cart(), new Parlour(), new Home(), new Sea())
                .get(kind).rate(this, l);
    }

    int keep(int image) {
        if (image < 0 || image > 1) {
            return BAD;
        }
        images[image] = now;
        return now.maps().size();
    }

    int back(int image) {
        if (image < 0 || image > 1) {
            return BAD;
        }
        if (images[image] == null) {
            return STATE;
        }
        now = images[image];
        past.clear();
        return now.maps().size();
    }

    int count(int what) {
        int[] of = {places, lanes.size(), now.maps().size(), took.size(), text.length()};
        return what < 0 || what > 4 ? BAD : of[what];
    }

    long trace() {
        return trace;
    }
}
