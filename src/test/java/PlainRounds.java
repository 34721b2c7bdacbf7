import java.math.BigInteger;
import java.util.ArrayList;
import java.util.Collections;
import java.util.Comparator;
import java.util.HashMap;
import java.util.List;
import java.util.Map;
import java.util.PriorityQueue;
import java.util.regex.Matcher;
import java.util.regex.Pattern;

/**
 * The document once more, as plainly and slowly as can be, with the Java library and by other means than the class:
 * ways are tried one by one, rounds are sought by whole walks in the order of cost and streets. Tests compare the two.
 */
final class PlainRounds {
    record Street(int from, int to, int length, int kind, int figure, boolean open) {
        boolean due() {
            return open && kind != 5;
        }

        /** COST ON (back false) or BACK; -9 if it can't be walked so. */
        int cost(boolean back) {
            if (!open) {
                return -9;
            }
            return switch (kind) {
                case 0, 5 -> length;
                case 1 -> back ? -9 : length;
                case 2 -> back ? length + figure : length;
                case 3 -> back ? -9 : length + figure;
                default -> 2 * (back ? length + figure : length);
            };
        }
    }

    record Step(int street, boolean back, int to, int cost) {
    }

    /** A walk: where it came to, what of a set of streets it has still to walk, its steps. */
    record Walk(int at, int left, int cost, List<Step> steps) {
    }

    record Town(List<Street> streets, int home) {
        int due() {
            int bits = 0;
            for (int i = 0; i < streets.size(); i++) {
                bits |= streets.get(i).due() ? 1 << i : 0;
            }
            return bits;
        }

        Town with(int i, Street street) {
            List<Street> changed = new ArrayList<>(streets);
            changed.set(i, street);
            return new Town(List.copyOf(changed), home);
        }

        Town and(Street street) {
            List<Street> more = new ArrayList<>(streets);
            more.add(street);
            return new Town(List.copyOf(more), home);
        }

        List<Step> stepsFrom(int corner) {
            List<Step> steps = new ArrayList<>();
            for (int i = 0; i < streets.size(); i++) {
                Street s = streets.get(i);
                if (s.from == corner && s.cost(false) >= 0) {
                    steps.add(new Step(i, false, s.to, s.cost(false)));
                }
                if (s.to == corner && s.cost(true) >= 0) {
                    steps.add(new Step(i, true, s.from, s.cost(true)));
                }
            }
            return steps;
        }
    }

    private Town now = new Town(List.of(), 0);
    private Town kept = null;
    private List<Integer> row = new ArrayList<>();
    private StringBuilder letters = new StringBuilder();
    private final int[] refusals = new int[7];
    private static final Map<String, Map<Integer, Walk>> FOUND = new HashMap<>();

    private int no(int number) {
        refusals[-number]++;
        return number;
    }

    private boolean noCorner(int c) {
        return c < 0 || c > 5;
    }

    private boolean noStreet(int s) {
        return s < 0 || s >= now.streets.size();
    }

    // ---- seeking ----

    private static int compareSteps(List<Step> a, List<Step> b) {
        for (int i = 0; i < a.size() && i < b.size(); i++) {
            if (a.get(i).street != b.get(i).street) {
                return a.get(i).street - b.get(i).street;
            }
        }
        return a.size() - b.size();
    }

    /** By corner: the first of the least walks from home that walk the set and end there. */
    private static Map<Integer, Walk> walks(Town town, int set) {
        String key = town + ":" + set;
        if (FOUND.size() > 20000) {
            FOUND.clear();
        }
        return FOUND.computeIfAbsent(key, k -> seekWalks(town, set));
    }

    private static Map<Integer, Walk> seekWalks(Town town, int set) {
        PriorityQueue<Walk> open = new PriorityQueue<>(Comparator.comparingInt(Walk::cost)
                .thenComparing((a, b) -> compareSteps(a.steps, b.steps)));
        Map<Integer, Walk> ends = new HashMap<>();
        boolean[] settled = new boolean[6 * 256];
        open.add(new Walk(town.home, set, 0, List.of()));
        while (!open.isEmpty()) {
            Walk w = open.poll();
            if (settled[w.at * 256 + w.left]) {
                continue;
            }
            settled[w.at * 256 + w.left] = true;
            if (w.left == 0) {
                ends.putIfAbsent(w.at, w);
            }
            for (Step s : town.stepsFrom(w.at)) {
                int left = w.left & ~(1 << s.street);
                if (!settled[s.to * 256 + left]) {
                    List<Step> steps = new ArrayList<>(w.steps);
                    steps.add(s);
                    open.add(new Walk(s.to, left, w.cost + s.cost, steps));
                }
            }
        }
        return ends;
    }

    private static Walk theRound(Town town) {
        return walks(town, town.due()).get(town.home);
    }

    private static int costOf(Town town) {
        Walk w = theRound(town);
        return w == null ? -9 : w.cost;
    }

    /** {least cost, first step} by trying every way that comes to no corner twice. */
    private static int[] way(Town town, int from, int to) {
        if (from == to) {
            return new int[] {0, -9};
        }
        int[] best = {Integer.MAX_VALUE, -9};
        tryWays(town, from, to, 1 << from, 0, -9, best);
        return best[0] == Integer.MAX_VALUE ? new int[] {-9, -9} : best;
    }

    private static void tryWays(Town town, int at, int to, int seen, int cost, int first, int[] best) {
        if (at == to) {
            if (cost < best[0] || cost == best[0] && first < best[1]) {
                best[0] = cost;
                best[1] = first;
            }
            return;
        }
        for (Step s : town.stepsFrom(at)) {
            if ((seen >> s.to & 1) == 0) {
                int begun = first == -9 ? 2 * s.street + (s.back ? 1 : 0) : first;
                tryWays(town, s.to, to, seen | 1 << s.to, cost + s.cost, begun, best);
            }
        }
    }

    // ---- the face ----

    int letter(int c) {
        if (c < 0) {
            return no(-4);
        }
        if (c > 255 || letters.length() == 96) {
            return no(-6);
        }
        letters.append((char) c);
        return letters.length();
    }

    private static final Pattern MAP =
            Pattern.compile("(s[a-z][a-z][0-9][0-9];|[kl][0-9][0-9][0-9];|x[0-9];|h[a-z];)+", Pattern.DOTALL);

    int map() {
        String text = letters.toString();
        letters = new StringBuilder();
        for (int end = 1; end <= text.length(); end++) {
            Matcher m = MAP.matcher(text.substring(0, end));
            if (!m.matches() && !m.hitEnd()) {
                return -1000 - (end - 1);
            }
        }
        if (!MAP.matcher(text).matches()) {
            return -1000 - text.length();
        }
        Town town = now;
        int place = 0;
        String[] statements = text.split(";");
        for (String statement : statements) {
            town = told(town, statement);
            if (town == null) {
                return -2000 - place;
            }
            place += statement.length() + 1;
        }
        now = town;
        return statements.length;
    }

    private Town told(Town town, String s) {
        if (s.charAt(0) == 's') {
            int from = "abcdef".indexOf(s.charAt(1));
            int to = "abcdef".indexOf(s.charAt(2));
            int length = Integer.parseInt(s.substring(3));
            boolean bad = from < 0 || to < 0 || from == to || length == 0 || town.streets.size() == 8;
            return bad ? null : town.and(new Street(from, to, length, 0, 0, true));
        }
        if (s.charAt(0) == 'h') {
            int home = "abcdef".indexOf(s.charAt(1));
            return home < 0 ? null : new Town(town.streets, home);
        }
        int i = Integer.parseInt(s.substring(1, 2));
        if (i >= town.streets.size()) {
            return null;
        }
        Street o = town.streets.get(i);
        if (s.charAt(0) == 'x') {
            return town.with(i, new Street(o.from, o.to, o.length, o.kind, o.figure, !o.open));
        }
        if (s.charAt(0) == 'l') {
            int length = Integer.parseInt(s.substring(2));
            return length == 0 ? null : town.with(i, new Street(o.from, o.to, length, o.kind, o.figure, o.open));
        }
        int kind = Integer.parseInt(s.substring(2, 3));
        int figure = Integer.parseInt(s.substring(3));
        return kind > 5 ? null : town.with(i, new Street(o.from, o.to, o.length, kind, figure, o.open));
    }

    int streets(int from, int to, int length) {
        if (noCorner(from) || noCorner(to)) {
            return no(-1);
        }
        if (from == to) {
            return no(-3);
        }
        if (length < 1) {
            return no(-4);
        }
        if (length > 99 || now.streets.size() == 8) {
            return no(-6);
        }
        now = now.and(new Street(from, to, length, 0, 0, true));
        return now.streets.size() - 1;
    }

    int turns(int street) {
        if (noStreet(street)) {
            return no(-1);
        }
        Street o = now.streets.get(street);
        now = now.with(street, new Street(o.from, o.to, o.length, o.kind, o.figure, !o.open));
        return o.open ? 0 : 1;
    }

    int length(int street, int length) {
        if (noStreet(street)) {
            return no(-1);
        }
        if (length < 1) {
            return no(-4);
        }
        if (length > 99) {
            return no(-6);
        }
        Street o = now.streets.get(street);
        now = now.with(street, new Street(o.from, o.to, length, o.kind, o.figure, o.open));
        return o.length;
    }

    int kind(int street, int kind, int figure) {
        if (noStreet(street)) {
            return no(-1);
        }
        if (kind < 0 || kind > 5) {
            return no(-2);
        }
        if (figure < 0) {
            return no(-4);
        }
        if (figure > 9) {
            return no(-6);
        }
        Street o = now.streets.get(street);
        now = now.with(street, new Street(o.from, o.to, o.length, kind, figure, o.open));
        return 10 * o.kind + o.figure;
    }

    int home(int corner) {
        if (noCorner(corner)) {
            return no(-1);
        }
        int old = now.home;
        now = new Town(now.streets, corner);
        return old;
    }

    int street(int street, int what) {
        if (noStreet(street)) {
            return no(-1);
        }
        if (what < 0 || what > 7) {
            return no(-2);
        }
        Street s = now.streets.get(street);
        int[] answers = {s.from, s.to, s.length, s.kind, s.figure, s.open ? 1 : 0, s.cost(false), s.cost(true)};
        return answers[what];
    }

    int corner(int corner, int what) {
        if (noCorner(corner)) {
            return no(-1);
        }
        if (what < 0 || what > 2) {
            return no(-2);
        }
        int degree = 0;
        int streets = 0;
        int corners = 0;
        for (int i = 0; i < now.streets.size(); i++) {
            Street s = now.streets.get(i);
            if (s.from == corner || s.to == corner) {
                streets |= 1 << i;
                degree += s.due() ? 1 : 0;
            }
        }
        for (int c = 0; c < 6; c++) {
            corners |= way(now, corner, c)[0] >= 0 ? 1 << c : 0;
        }
        return new int[] {degree, streets, corners}[what];
    }

    int distance(int from, int to) {
        return noCorner(from) || noCorner(to) ? no(-1) : way(now, from, to)[0];
    }

    int next(int from, int to) {
        return noCorner(from) || noCorner(to) ? no(-1) : way(now, from, to)[1];
    }

    private boolean isAgain(List<Step> steps, int i) {
        int street = steps.get(i).street;
        return !now.streets.get(street).due() || steps.subList(0, i).stream().anyMatch(s -> s.street == street);
    }

    int round(int what) {
        if (what < 0 || what > 3) {
            return no(-2);
        }
        Walk w = theRound(now);
        if (w == null) {
            return -9;
        }
        int again = 0;
        int costAgain = 0;
        for (int i = 0; i < w.steps.size(); i++) {
            if (isAgain(w.steps, i)) {
                again++;
                costAgain += w.steps.get(i).cost;
            }
        }
        return new int[] {w.cost, w.steps.size(), again, costAgain}[what];
    }

    int step(int i, int what) {
        Walk w = theRound(now);
        if (w == null || i < 0 || i >= w.steps.size()) {
            return no(-1);
        }
        if (what < 0 || what > 4) {
            return no(-2);
        }
        Step s = w.steps.get(i);
        return new int[] {s.street, s.back ? 1 : 0, s.to, isAgain(w.steps, i) ? 1 : 0, s.cost}[what];
    }

    private static float timeOf(Walk w, int num, int den) {
        float time = 0.0f;
        for (Step s : w.steps) {
            time += (float) s.cost / ((float) num / (float) den);
        }
        return time;
    }

    int time(int num, int den) {
        Walk w = theRound(now);
        return Float.floatToIntBits(w == null ? -1.0f : timeOf(w, num, den));
    }

    int rank(int num, int den, int num2, int den2) {
        Walk w = theRound(now);
        return w == null ? -100000 + no(-3) : Float.compare(timeOf(w, num, den), timeOf(w, num2, den2));
    }

    long mean() {
        double sum = 0.0;
        int many = 0;
        for (Street s : now.streets) {
            if (s.open) {
                sum += s.length;
                many++;
            }
        }
        return many == 0 ? 0 : Double.doubleToLongBits(sum / many);
    }

    int odd() {
        int bits = 0;
        for (int c = 0; c < 6; c++) {
            bits |= (corner(c, 0) % 2) << c;
        }
        return bits;
    }

    /** Partners of the corners left, each pairing as a list of twos in their order; the least of all by sum, first found. */
    private List<int[]> pairings(List<Integer> left) {
        if (left.isEmpty()) {
            List<int[]> one = new ArrayList<>();
            one.add(new int[] {-9, -9, -9, -9, -9, -9, 0});
            return one;
        }
        List<int[]> all = new ArrayList<>();
        for (int k = 1; k < left.size(); k++) {
            int a = left.get(0);
            int b = left.get(k);
            int cost = way(now, a, b)[0];
            List<Integer> rest = new ArrayList<>(left);
            rest.remove(k);
            rest.remove(0);
            if (cost >= 0) {
                for (int[] p : pairings(rest)) {
                    p[a] = b;
                    p[b] = a;
                    p[6] += cost;
                    all.add(p);
                }
            }
        }
        return all;
    }

    private int[] bestPairing() {
        List<Integer> odd = new ArrayList<>();
        for (int c = 0; c < 6; c++) {
            if ((odd() >> c & 1) != 0) {
                odd.add(c);
            }
        }
        // A stable sort keeps the first of those that are alike.
        List<int[]> all = new ArrayList<>(pairings(odd));
        all.sort(Comparator.comparingInt(p -> p[6]));
        return all.isEmpty() ? null : all.get(0);
    }

    int matched(int corner) {
        if (noCorner(corner)) {
            return no(-1);
        }
        int[] p = bestPairing();
        return p == null ? -9 : p[corner];
    }

    int matching() {
        int[] p = bestPairing();
        return p == null ? -9 : p[6];
    }

    int spliced(int i) {
        if (i < -1) {
            return no(-4);
        }
        int[] p = bestPairing();
        if (p == null) {
            return -9;
        }
        List<Integer> left = new ArrayList<>();
        for (int s = 0; s < now.streets.size(); s++) {
            if (now.streets.get(s).due()) {
                left.add(s);
            }
        }
        for (int c = 0; c < 6; c++) {
            for (int at = c; p[c] > c && at != p[c];) {
                int step = way(now, at, p[c])[1];
                left.add(step / 2);
                Street s = now.streets.get(step / 2);
                at = step % 2 == 0 ? s.to : s.from;
            }
        }
        Collections.sort(left);
        List<Integer> walk = new ArrayList<>(List.of(now.home));
        for (int place = 0; place < walk.size();) {
            List<Integer> part = walkOn(left, walk.get(place));
            walk.addAll(place + 1, part);
            place = part.isEmpty() ? place + 1 : 0;
        }
        return i == -1 ? walk.size() : i < walk.size() ? walk.get(i) : -9;
    }

    private List<Integer> walkOn(List<Integer> left, int from) {
        List<Integer> part = new ArrayList<>();
        int at = from;
        for (int k = 0; k < left.size();) {
            Street s = now.streets.get(left.get(k));
            if (s.from == at || s.to == at) {
                at = s.from + s.to - at;
                part.add(at);
                left.remove(k);
                k = 0;
            } else {
                k++;
            }
        }
        return part;
    }

    private int balanced(int corner) {
        int balance = 0;
        for (Street s : now.streets) {
            if (s.due() && (s.kind == 1 || s.kind == 3)) {
                balance += (s.from == corner ? 1 : 0) - (s.to == corner ? 1 : 0);
            }
        }
        return balance;
    }

    int balance(int corner) {
        return noCorner(corner) ? -100000 + no(-1) : balanced(corner);
    }

    int flow() {
        int[] balances = new int[6];
        for (int c = 0; c < 6; c++) {
            balances[c] = balanced(c);
        }
        int best = flowFrom(balances);
        return best == Integer.MAX_VALUE ? -9 : best;
    }

    private int flowFrom(int[] balances) {
        for (int a = 0; a < 6; a++) {
            if (balances[a] < 0) {
                int best = Integer.MAX_VALUE;
                for (int b = 0; b < 6; b++) {
                    int cost = way(now, a, b)[0];
                    if (balances[b] > 0 && cost >= 0) {
                        balances[a]++;
                        balances[b]--;
                        int rest = flowFrom(balances);
                        balances[a]--;
                        balances[b]++;
                        best = rest == Integer.MAX_VALUE ? best : Math.min(best, rest + cost);
                    }
                }
                return best;
            }
        }
        return 0;
    }

    int loose(int what) {
        if (what < 0 || what > 1) {
            return no(-2);
        }
        Map<Integer, Walk> ends = walks(now, now.due());
        int best = -9;
        for (int c = 0; c < 6; c++) {
            if (ends.containsKey(c) && (best < 0 || ends.get(c).cost < ends.get(best).cost)) {
                best = c;
            }
        }
        return best < 0 ? -9 : what == 0 ? ends.get(best).cost : best;
    }

    private static Street closed(Street o) {
        return new Street(o.from, o.to, o.length, o.kind, o.figure, false);
    }

    int without(int street) {
        return noStreet(street) ? no(-1) : costOf(now.with(street, closed(now.streets.get(street))));
    }

    int turned(int street) {
        if (noStreet(street)) {
            return no(-1);
        }
        Street o = now.streets.get(street);
        return costOf(now.with(street, new Street(o.to, o.from, o.length, o.kind, o.figure, o.open)));
    }

    int worst() {
        int worst = -9;
        int most = Integer.MIN_VALUE;
        for (int s = 0; s < now.streets.size(); s++) {
            if (now.streets.get(s).due()) {
                int cost = costOf(now.with(s, closed(now.streets.get(s))));
                cost = cost == -9 ? 10000 : cost;
                if (cost > most) {
                    most = cost;
                    worst = s;
                }
            }
        }
        return worst;
    }

    /** {greatest, together, busy, postman of street 0, ..} of the best dealing, or null. */
    private int[] bestDealing(int n) {
        List<Integer> due = new ArrayList<>();
        for (int s = 0; s < now.streets.size(); s++) {
            if (now.streets.get(s).due()) {
                due.add(s);
            }
        }
        int dealings = 1;
        for (int s : due) {
            dealings *= n;
        }
        int[] best = null;
        for (int d = 0; d < dealings; d++) {
            int[] result = dealing(due, n, d);
            if (result != null && (best == null || result[0] < best[0]
                    || result[0] == best[0] && result[1] < best[1])) {
                best = result;
            }
        }
        return best;
    }

    private int[] dealing(List<Integer> due, int n, int number) {
        int[] result = new int[11];
        int[] sets = new int[n];
        int rest = number;
        for (int k = due.size() - 1; k >= 0; k--) {
            result[3 + due.get(k)] = rest % n;
            sets[rest % n] |= 1 << due.get(k);
            rest /= n;
        }
        for (int set : sets) {
            Walk w = walks(now, set).get(now.home);
            if (w == null) {
                return null;
            }
            result[0] = Math.max(result[0], w.cost);
            result[1] += w.cost;
            result[2] += set == 0 ? 0 : 1;
        }
        return result;
    }

    int shared(int n, int what) {
        if (n < 1) {
            return no(-4);
        }
        if (n > 3) {
            return no(-6);
        }
        if (what < 0 || what > 2) {
            return no(-2);
        }
        int[] best = bestDealing(n);
        return best == null ? -9 : best[what];
    }

    int dealt(int n, int street) {
        if (n < 1) {
            return no(-4);
        }
        if (n > 3) {
            return no(-6);
        }
        if (noStreet(street)) {
            return no(-1);
        }
        int[] best = bestDealing(n);
        return best == null || !now.streets.get(street).due() ? -9 : best[3 + street];
    }

    long lost(int n, int t, int part) {
        if (n < 0 || t < 2) {
            return 4000000000000000000L - no(-4);
        }
        if (n > 9999 || t > 20) {
            return 4000000000000000000L - no(-6);
        }
        if (part < 0 || part > 1) {
            return 4000000000000000000L - no(-2);
        }
        BigInteger above = lostFrom(now, 0, n, t);
        BigInteger below = BigInteger.valueOf(t).pow(6);
        BigInteger divisor = above.gcd(below);
        return (part == 0 ? above : below).divide(divisor).longValueExact();
    }

    /** How likely, in parts of t to the number of streets from this one to 5. */
    private static BigInteger lostFrom(Town town, int street, int n, int t) {
        if (street == 6) {
            int cost = costOf(town);
            return cost >= 0 && cost <= n ? BigInteger.ONE : BigInteger.ZERO;
        }
        if (street >= town.streets.size() || !town.streets.get(street).open) {
            return lostFrom(town, street + 1, n, t).multiply(BigInteger.valueOf(t));
        }
        Town less = town.with(street, closed(town.streets.get(street)));
        return lostFrom(town, street + 1, n, t).multiply(BigInteger.valueOf(t - 1)).add(lostFrom(less, street + 1, n, t));
    }

    private static List<Integer> cornersOf(Town town) {
        Walk w = theRound(town);
        List<Integer> corners = new ArrayList<>();
        if (w != null) {
            corners.add(town.home);
            w.steps.forEach(s -> corners.add(s.to));
        }
        return corners;
    }

    int whatIs(int street, int what) {
        if (noStreet(street)) {
            return no(-1);
        }
        if (what < 0 || what > 1) {
            return no(-2);
        }
        int bits = 0;
        Street o = now.streets.get(street);
        for (int k = 0; k < (what == 0 ? 6 : 10); k++) {
            Street guess = new Street(o.from, o.to, o.length, what == 0 ? k : o.kind, what == 0 ? o.figure : k, o.open);
            List<Integer> corners = cornersOf(now.with(street, guess));
            if (!corners.isEmpty() && row.size() <= corners.size() && row.equals(corners.subList(0, row.size()))) {
                bits |= 1 << k;
            }
        }
        return bits;
    }

    int row(int v) {
        if (v < 0) {
            return no(-4);
        }
        if (v > 9 || row.size() == 32) {
            return no(-6);
        }
        row.add(v);
        return row.size();
    }

    int judge() {
        List<Integer> corners = cornersOf(now);
        List<Integer> told = row;
        row = new ArrayList<>();
        for (int i = 0; i < Math.max(corners.size(), told.size()); i++) {
            if (i >= told.size() || i >= corners.size() || !told.get(i).equals(corners.get(i))) {
                return i;
            }
        }
        return -9;
    }

    int clear() {
        int had = row.size();
        row = new ArrayList<>();
        return had;
    }

    int lots(int n, int z, int what) {
        if (n < 1) {
            return no(-4);
        }
        if (n > 20) {
            return no(-6);
        }
        if (what < 0 || what > 1) {
            return no(-2);
        }
        int many = 0;
        int together = 0;
        for (int i = 0; i < n; i++) {
            Town town = now;
            for (int s = 0; s < now.streets.size(); s++) {
                z = z * 1664525 + 1013904223;
                Street o = now.streets.get(s);
                int length = 1 + ((z & Integer.MAX_VALUE) >> 8) % 99;
                town = town.with(s, new Street(o.from, o.to, length, o.kind, o.figure, o.open));
            }
            int cost = costOf(town);
            many += cost >= 0 ? 1 : 0;
            together += cost >= 0 ? cost : 0;
        }
        return what == 0 ? many : together;
    }

    int image() {
        kept = now;
        return now.streets.size();
    }

    int on() {
        if (kept == null) {
            return no(-3);
        }
        now = kept;
        return now.streets.size();
    }

    int count(int what) {
        int open = 0;
        int lengths = 0;
        for (int s = 0; s < now.streets.size(); s++) {
            open |= now.streets.get(s).open ? 1 << s : 0;
            lengths += now.streets.get(s).length;
        }
        int[] answers = {now.streets.size(), open, now.due(), lengths, now.home, row.size(), letters.length()};
        if (what >= 0 && what < answers.length) {
            return answers[what];
        }
        return what >= 11 && what <= 16 ? refusals[what - 10] : -9;
    }
}
