import java.math.BigInteger;
import java.util.ArrayList;
import java.util.Collections;
import java.util.List;
import java.util.Map;
import java.util.TreeMap;

/** The document said again, as slowly and as plainly as can be, with whole numbers of any size. */
public final class PlainBench {
    private static final int NONE = -1, BAD = -2, STATE = -3, FULL = -4;
    private static final long NO = Long.MIN_VALUE;

    /** A fraction in lowest terms. */
    private record Part(BigInteger above, BigInteger below) implements Comparable<Part> {
        static Part of(BigInteger above, BigInteger below) {
            BigInteger common = above.gcd(below);
            return new Part(above.divide(common), below.divide(common));
        }

        static Part of(long above, long below) {
            return of(BigInteger.valueOf(above), BigInteger.valueOf(below));
        }

        Part times(Part other) {
            return of(above.multiply(other.above), below.multiply(other.below));
        }

        Part plus(Part other) {
            return of(above.multiply(other.below).add(other.above.multiply(below)), below.multiply(other.below));
        }

        boolean is() {
            return above.signum() > 0;
        }

        long half(int part) {
            return (part == 0 ? above : below).longValueExact();
        }

        public int compareTo(Part other) {
            return above.multiply(other.below).compareTo(other.above.multiply(below));
        }
    }

    private record Two(int x, int y, Part odds) {
    }

    private record Seen(int x, int y, boolean is) {
    }

    private record Row(int what, int k, int v) {
    }

    private static final class Sheet {
        Integer[] answers = new Integer[8];
        int[] seat = null;

        Sheet copy() {
            Sheet other = new Sheet();
            other.answers = answers.clone();
            other.seat = seat == null ? null : seat.clone();
            return other;
        }
    }

    private static final class World {
        int n = 4;
        int[] right = new int[8];
        int[] kind = new int[8];
        int[][] parts = new int[8][4];
        List<Sheet> sheets = new ArrayList<>();
        int[] used = {0, 0, 50, 0, 0, 1};
        List<Seen> seen = new ArrayList<>();
        List<Row> plan = new ArrayList<>();

        World() {
            for (int[] row : parts) {
                java.util.Arrays.fill(row, 1);
            }
        }

        World copy() {
            World other = new World();
            other.n = n;
            other.right = right.clone();
            other.kind = kind.clone();
            for (int i = 0; i < 8; i++) {
                other.parts[i] = parts[i].clone();
            }
            for (Sheet sheet : sheets) {
                other.sheets.add(sheet.copy());
            }
            other.used = used.clone();
            other.seen = new ArrayList<>(seen);
            other.plan = new ArrayList<>(plan);
            return other;
        }
    }

    private World w = new World();
    private World image = null;
    private String text = "";
    private final long[][] tapes = new long[6][];
    private final int[] sorts = {-1, -1, -1, -1, -1, -1};

    private boolean isItem(int i) {
        return 0 <= i && i < w.n;
    }

    private boolean isCandidate(int c) {
        return 0 <= c && c < w.sheets.size();
    }

    private boolean areTwo(int x, int y) {
        return isCandidate(x) && isCandidate(y) && x != y;
    }

    public int items(int n) {
        if (n < 1 || n > 8) {
            return BAD;
        }
        World fresh = new World();
        fresh.n = n;
        fresh.used = w.used;
        int was = w.n;
        w = fresh;
        return was;
    }

    public int right(int item, int answer) {
        if (!isItem(item)) {
            return NONE;
        }
        if (answer < 0 || answer > 3) {
            return BAD;
        }
        int was = w.right[item];
        w.right[item] = answer;
        return was;
    }

    public int model(int item, int kind) {
        if (!isItem(item)) {
            return NONE;
        }
        if (kind < 0 || kind > 3) {
            return BAD;
        }
        int was = w.kind[item];
        w.kind[item] = kind;
        return was;
    }

    public int part(int item, int answer, int v) {
        if (!isItem(item) || answer < 0 || answer > 3) {
            return NONE;
        }
        if (v < 1 || v > 3) {
            return BAD;
        }
        int was = w.parts[item][answer];
        w.parts[item][answer] = v;
        return was;
    }

    public int candidate() {
        if (w.sheets.size() == 8) {
            return FULL;
        }
        w.sheets.add(new Sheet());
        return w.sheets.size() - 1;
    }

    public int gives(int candidate, int item, int answer) {
        if (!isCandidate(candidate) || !isItem(item)) {
            return NONE;
        }
        if (answer < -1 || answer > 3) {
            return BAD;
        }
        Integer was = w.sheets.get(candidate).answers[item];
        w.sheets.get(candidate).answers[item] = answer == -1 ? null : Integer.valueOf(answer);
        return was == null ? -5 : was;
    }

    public int seat(int candidate, int row, int place) {
        if (!isCandidate(candidate)) {
            return NONE;
        }
        if (row == -1) {
            w.sheets.get(candidate).seat = null;
            return 1;
        }
        if (row < 0 || row > 9 || place < 0 || place > 9) {
            return BAD;
        }
        for (int c = 0; c < w.sheets.size(); c++) {
            int[] seat = w.sheets.get(c).seat;
            if (c != candidate && seat != null && seat[0] == row && seat[1] == place) {
                return STATE;
            }
        }
        w.sheets.get(candidate).seat = new int[] {row, place};
        return 1;
    }

    public int feed(int sign) {
        if (sign < 0 || sign > 127) {
            return BAD;
        }
        if (text.length() == 60) {
            return FULL;
        }
        text += (char) sign;
        return text.length();
    }

    /** Whether some text of clauses begins so. */
    private boolean begins(String start) {
        String[] clauses = start.split(";", -1);
        if (clauses.length > 4 || w.sheets.isEmpty()) {
            return false;
        }
        for (int i = 0; i < clauses.length; i++) {
            boolean last = i == clauses.length - 1;
            if (!(last && clauses[i].isEmpty()) && !isClause(clauses[i], last ? 0 : 1)) {
                return false;
            }
        }
        return true;
    }

    private boolean isClause(String clause, int least) {
        return clause.matches("[0-7][a-d-]{" + least + "," + w.n + "}") && isCandidate(clause.charAt(0) - '0');
    }

    public int read() {
        String told = text;
        text = "";
        for (int i = 0; i < told.length(); i++) {
            if (!begins(told.substring(0, i + 1))) {
                return -10 - i;
            }
        }
        String[] clauses = told.split(";", -1);
        for (String clause : clauses) {
            if (!isClause(clause, 1)) {
                return -10 - told.length();
            }
        }
        for (String clause : clauses) {
            Sheet sheet = w.sheets.get(clause.charAt(0) - '0');
            for (int i = 1; i < clause.length(); i++) {
                char sign = clause.charAt(i);
                sheet.answers[i - 1] = sign == '-' ? null : Integer.valueOf("abcd".indexOf(sign));
            }
        }
        return clauses.length;
    }

    public int use(int what, int v) {
        int[] least = {0, 0, 1, 0, 0, 1};
        int[] most = {3, 3, 500, 9, 2, 4};
        if (what < 0 || what > 5) {
            return NONE;
        }
        if (v < least[what] || v > most[what]) {
            return BAD;
        }
        int was = w.used[what];
        w.used[what] = v;
        return was;
    }

    public int answer(int candidate, int item) {
        if (!isCandidate(candidate) || !isItem(item)) {
            return NONE;
        }
        Integer is = w.sheets.get(candidate).answers[item];
        return is == null ? -5 : is;
    }

    public int of(int candidate, int what) {
        if (!isCandidate(candidate) || what < 0 || what > 3) {
            return NONE;
        }
        Sheet sheet = w.sheets.get(candidate);
        if (what >= 2) {
            return sheet.seat == null ? -5 : sheet.seat[what - 2];
        }
        int found = 0;
        for (int i = 0; i < w.n; i++) {
            Integer is = sheet.answers[i];
            if (is != null && (what == 0 || is == w.right[i])) {
                found++;
            }
        }
        return found;
    }

    public int itemOf(int item, int what) {
        if (!isItem(item) || what < 0 || what > 4) {
            return NONE;
        }
        int[] gave = new int[4];
        for (Sheet sheet : w.sheets) {
            if (sheet.answers[item] != null) {
                gave[sheet.answers[item]]++;
            }
        }
        int all = gave[0] + gave[1] + gave[2] + gave[3];
        int right = w.right[item];
        gave[right] = what == 4 ? -1 : gave[right];
        int most = 0;
        for (int a = 0; a < 4; a++) {
            most = gave[a] > gave[most] ? a : most;
        }
        return new int[] {right, w.kind[item], all, all - gave[right], most}[what];
    }

    public int taken(int item, int k) {
        if (!isItem(item)) {
            return NONE;
        }
        if (k < 0 || k > 4) {
            return BAD;
        }
        String kinds = new String[] {"0123", "01", "1", "23", "3"}[k];
        return kinds.indexOf((char) ('0' + w.kind[item])) < 0 ? -12 : w.kind[item];
    }

    private static int[] shares(World w, int item, int x, int y) {
        int[] shares = {1, 1, 1, 1};
        if (w.kind[item] == 1) {
            shares = w.parts[item].clone();
        }
        for (int c = 0; c < w.sheets.size(); c++) {
            Integer is = w.sheets.get(c).answers[item];
            boolean counts = w.kind[item] == 2 || w.kind[item] == 3 && c != x && c != y;
            if (is != null && counts) {
                shares[is]++;
            }
        }
        return shares;
    }

    private static int sum(int[] shares) {
        return shares[0] + shares[1] + shares[2] + shares[3];
    }

    public int share(int item, int answer, int x, int y) {
        if (!isItem(item) || !areTwo(x, y)) {
            return NONE;
        }
        if (answer < -1 || answer > 3) {
            return BAD;
        }
        int[] shares = shares(w, item, x, y);
        return answer == -1 ? sum(shares) : shares[answer];
    }

    private static int likeness(World w, Integer[] one, Integer[] other, int but) {
        int found = 0;
        for (int i = 0; i < w.n; i++) {
            if (i != but && one[i] != null && one[i].equals(other[i])) {
                found += w.used[one[i] == w.right[i] ? 4 : 5];
            }
        }
        return found;
    }

    private static int likeness(World w, int x, int y, int but) {
        return likeness(w, w.sheets.get(x).answers, w.sheets.get(y).answers, but);
    }

    public int alike(int x, int y) {
        return areTwo(x, y) ? likeness(w, x, y, -1) : NONE;
    }

    /** How likely somebody who answered "is" answers "anew" by shares, its being wrong kept or not. */
    private static Part chance(int[] shares, int right, int is, int anew, boolean kept) {
        if (!kept) {
            return Part.of(shares[anew], sum(shares));
        }
        if (is == right || anew == right) {
            return Part.of(is == anew ? 1 : 0, 1);
        }
        return Part.of(shares[anew], sum(shares) - shares[right]);
    }

    /** How likely each likeness is, by every answer that the two might give. */
    private static Map<Integer, Part> spread(World w, int x, int y, int by, int but) {
        Map<Integer, Part> all = new TreeMap<>();
        all.put(0, Part.of(1, 1));
        for (int i = 0; i < w.n; i++) {
            Integer one = w.sheets.get(x).answers[i];
            Integer other = w.sheets.get(y).answers[i];
            if (i == but || one == null || other == null) {
                continue;
            }
            int[] shares = shares(w, i, x, y);
            Map<Integer, Part> alike = new TreeMap<>();
            Map<Integer, Part> next = new TreeMap<>();
            for (int a = 0; a < 4; a++) {
                Part ofOne = by >= 2 ? Part.of(a == one ? 1 : 0, 1) : chance(shares, w.right[i], one, a, by == 1);
                for (int b = 0; b < 4 && ofOne.is(); b++) {
                    Part both = ofOne.times(chance(shares, w.right[i], other, b, by == 1 || by == 3));
                    int worth = a != b ? 0 : w.used[a == w.right[i] ? 4 : 5];
                    alike.merge(worth, both, Part::plus);
                }
            }
            for (Map.Entry<Integer, Part> here : alike.entrySet()) {
                for (Map.Entry<Integer, Part> had : all.entrySet()) {
                    if (here.getValue().is()) {
                        next.merge(had.getKey() + here.getKey(), had.getValue().times(here.getValue()), Part::plus);
                    }
                }
            }
            all = next;
        }
        return all;
    }

    private static Part odds(World w, int x, int y, int by, int but) {
        int is = likeness(w, x, y, but);
        Part found = Part.of(0, 1);
        for (Map.Entry<Integer, Part> k : spread(w, x, y, by, but).entrySet()) {
            if (k.getKey() >= is) {
                found = found.plus(k.getValue());
            }
        }
        return found;
    }

    public long odds(int x, int y, int by, int part) {
        if (!areTwo(x, y) || by < 0 || by > 3 || part < 0 || part > 1) {
            return NO;
        }
        return odds(w, x, y, by, -1).half(part);
    }

    public long just(int x, int y, int by, int k, int part) {
        if (!areTwo(x, y) || by < 0 || by > 3 || k < 0 || k > 32 || part < 0 || part > 1) {
            return NO;
        }
        return spread(w, x, y, by, -1).getOrDefault(k, Part.of(0, 1)).half(part);
    }

    public int source(int x, int y) {
        if (!areTwo(x, y)) {
            return NONE;
        }
        int order = odds(w, x, y, 2, -1).compareTo(odds(w, y, x, 2, -1));
        return order == 0 ? -5 : order < 0 ? x : y;
    }

    public long without(int x, int y, int item, int part) {
        if (!areTwo(x, y) || !isItem(item) || part < 0 || part > 1) {
            return NO;
        }
        return odds(w, x, y, 0, item).half(part);
    }

    public int key(int x, int y) {
        if (!areTwo(x, y)) {
            return NONE;
        }
        int best = 0;
        for (int i = 1; i < w.n; i++) {
            if (odds(w, x, y, 0, i).compareTo(odds(w, x, y, 0, best)) > 0) {
                best = i;
            }
        }
        return best;
    }

    private static boolean near(int[] one, int[] other, int r) {
        return one != null && other != null && Math.abs(one[0] - other[0]) <= r && Math.abs(one[1] - other[1]) <= r;
    }

    private static List<Two> order(World w, int by) {
        List<Two> all = new ArrayList<>();
        int reach = w.used[3];
        for (int x = 0; x < w.sheets.size(); x++) {
            for (int y = x + 1; y < w.sheets.size(); y++) {
                if (reach == 0 || near(w.sheets.get(x).seat, w.sheets.get(y).seat, reach)) {
                    Part odds = odds(w, x, y, by, -1);
                    Part turned = by < 2 ? odds : odds(w, y, x, by, -1);
                    all.add(new Two(x, y, turned.compareTo(odds) < 0 ? turned : odds));
                }
            }
        }
        all.sort((one, other) -> {
            int order = one.odds.compareTo(other.odds);
            return order != 0 ? order : Integer.compare(one.x * 8 + one.y, other.x * 8 + other.y);
        });
        return all;
    }

    private static boolean holds(World w, List<Two> order, int k, long times, long by) {
        return order.get(k).odds.times(Part.of(times, by)).compareTo(Part.of(w.used[2], 1000)) <= 0;
    }

    private static boolean suspect(World w, List<Two> order, int rank) {
        int m = order.size();
        boolean found = false;
        switch (w.used[1]) {
            case 0:
                return holds(w, order, rank, 1, 1);
            case 1:
                return holds(w, order, rank, m, 1);
            case 2:
                for (int k = 0; k <= rank; k++) {
                    if (!holds(w, order, k, m - k, 1)) {
                        return false;
                    }
                }
                return true;
            default:
                for (int k = rank; k < m; k++) {
                    found = found || holds(w, order, k, m, k + 1);
                }
                return found;
        }
    }

    private static List<Two> suspects(World w, int by) {
        List<Two> order = order(w, by);
        List<Two> found = new ArrayList<>();
        for (int k = 0; k < order.size(); k++) {
            if (suspect(w, order, k)) {
                found.add(order.get(k));
            }
        }
        return found;
    }

    private static boolean among(List<Two> some, int x, int y) {
        for (Two two : some) {
            if (two.x == x && two.y == y || two.x == y && two.y == x) {
                return true;
            }
        }
        return false;
    }

    private List<Integer> groups() {
        List<Two> suspects = suspects(w, w.used[0]);
        List<Integer> found = new ArrayList<>();
        for (int set = 0; set < 256; set++) {
            boolean all = Integer.bitCount(set) >= 2;
            boolean wider = false;
            for (int x = 0; x < 8; x++) {
                boolean withAll = true;
                for (int y = 0; y < 8; y++) {
                    if (x != y && (set >> y & 1) == 1) {
                        withAll = withAll && among(suspects, x, y);
                    }
                }
                if ((set >> x & 1) == 1) {
                    all = all && withAll;
                } else {
                    wider = wider || withAll;
                }
            }
            if (all && !wider) {
                found.add(set);
            }
        }
        return found;
    }

    public int pairs(int what, int r) {
        if (what < 0 || what > 4) {
            return NONE;
        }
        if (what == 2) {
            if (r < 0 || r > 9) {
                return BAD;
            }
            int found = 0;
            for (int x = 0; x < w.sheets.size(); x++) {
                for (int y = x + 1; y < w.sheets.size(); y++) {
                    found += near(w.sheets.get(x).seat, w.sheets.get(y).seat, r) ? 1 : 0;
                }
            }
            return found;
        }
        if (what < 2) {
            return what == 0 ? order(w, w.used[0]).size() : suspects(w, w.used[0]).size();
        }
        int greatest = 0;
        for (int set : groups()) {
            greatest = Math.max(greatest, Integer.bitCount(set));
        }
        return what == 3 ? groups().size() : greatest;
    }

    public int pair(int k, int what) {
        if (what < 0 || what > 2) {
            return NONE;
        }
        List<Two> order = order(w, w.used[0]);
        if (k < 0 || k >= order.size()) {
            return BAD;
        }
        return what == 0 ? order.get(k).x : what == 1 ? order.get(k).y : suspect(w, order, k) ? 1 : 0;
    }

    public long pairOdds(int k, int part) {
        List<Two> order = order(w, w.used[0]);
        if (k < 0 || k >= order.size() || part < 0 || part > 1) {
            return NO;
        }
        return order.get(k).odds.half(part);
    }

    public int rank(int x, int y) {
        if (!areTwo(x, y)) {
            return NONE;
        }
        List<Two> order = order(w, w.used[0]);
        for (int k = 0; k < order.size(); k++) {
            if (among(order.subList(k, k + 1), x, y)) {
                return k;
            }
        }
        return -5;
    }

    public int linked(int candidate) {
        if (!isCandidate(candidate)) {
            return NONE;
        }
        List<Two> suspects = suspects(w, w.used[0]);
        int bits = 0;
        for (int y = 0; y < 8; y++) {
            bits |= among(suspects, candidate, y) ? 1 << y : 0;
        }
        return bits;
    }

    public int chain(int candidate) {
        if (!isCandidate(candidate)) {
            return NONE;
        }
        List<Two> suspects = suspects(w, w.used[0]);
        int bits = 1 << candidate;
        int before = 0;
        while (before != bits) {
            before = bits;
            for (Two two : suspects) {
                int both = 1 << two.x | 1 << two.y;
                bits |= (bits & both) != 0 ? both : 0;
            }
        }
        return bits;
    }

    public int group(int k) {
        if (k < 0) {
            return BAD;
        }
        List<Integer> groups = groups();
        return k < groups.size() ? groups.get(k) : -5;
    }

    private static List<List<Integer>> waysOf(List<Integer> some) {
        List<List<Integer>> found = new ArrayList<>();
        if (some.isEmpty()) {
            found.add(new ArrayList<>());
        }
        for (Integer first : some) {
            List<Integer> rest = new ArrayList<>(some);
            rest.remove(first);
            for (List<Integer> way : waysOf(rest)) {
                List<Integer> longer = new ArrayList<>(Collections.singletonList(first));
                longer.addAll(way);
                found.add(longer);
            }
        }
        return found;
    }

    private int nearSuspects(List<Integer> who, List<Integer> seats, List<Two> suspects, int r) {
        int found = 0;
        for (int i = 0; i < who.size(); i++) {
            for (int j = i + 1; j < who.size(); j++) {
                int[] one = w.sheets.get(seats.get(i)).seat;
                int[] other = w.sheets.get(seats.get(j)).seat;
                found += among(suspects, who.get(i), who.get(j)) && near(one, other, r) ? 1 : 0;
            }
        }
        return found;
    }

    public long seated(int r, int part) {
        if (r < 1 || r > 9 || part < 0 || part > 1) {
            return NO;
        }
        List<Integer> who = new ArrayList<>();
        for (int c = 0; c < w.sheets.size(); c++) {
            if (w.sheets.get(c).seat != null && who.size() < 6) {
                who.add(c);
            }
        }
        List<Two> suspects = suspects(w, w.used[0]);
        int now = nearSuspects(who, who, suspects, r);
        int asMany = 0;
        List<List<Integer>> ways = waysOf(who);
        for (List<Integer> way : ways) {
            asMany += nearSuspects(who, way, suspects, r) >= now ? 1 : 0;
        }
        return Part.of(asMany, ways.size()).half(part);
    }

    private int seed = 0;

    private int draw(int k) {
        seed = seed * 1103515245 + 12345;
        return (seed >>> 9) % k;
    }

    private Integer drawAnswer(int[] shares) {
        int draw = draw(sum(shares));
        int answer = 0;
        while (draw >= shares[answer]) {
            draw -= shares[answer];
            answer++;
        }
        return answer;
    }

    public int drawn(int seed, int x, int y) {
        if (!areTwo(x, y)) {
            return NONE;
        }
        this.seed = seed;
        Integer[] one = new Integer[8];
        Integer[] other = new Integer[8];
        for (int i = 0; i < w.n; i++) {
            if (w.sheets.get(x).answers[i] != null && w.sheets.get(y).answers[i] != null) {
                one[i] = drawAnswer(shares(w, i, x, y));
                other[i] = drawAnswer(shares(w, i, x, y));
            }
        }
        return likeness(w, one, other, -1);
    }

    public long chance(int seed, int x, int y, int k, int part) {
        if (!areTwo(x, y) || k < 0 || part < 0 || part > 1) {
            return NO;
        }
        int found = 0;
        for (int i = 0; i < 6; i++) {
            found += drawn(seed + i, x, y) >= k ? 1 : 0;
        }
        return Part.of(found, 6).half(part);
    }

    public int see(int x, int y, boolean is) {
        if (x == -1) {
            w.seen.clear();
            return 0;
        }
        if (!areTwo(x, y)) {
            return NONE;
        }
        if (w.seen.size() == 5) {
            return FULL;
        }
        w.seen.add(new Seen(x, y, is));
        return w.seen.size();
    }

    public int fits(int what) {
        if (what < 0 || what > 1) {
            return NONE;
        }
        List<Integer> fitting = new ArrayList<>();
        for (int by = 0; by < 4; by++) {
            List<Two> suspects = suspects(w, by);
            boolean all = true;
            for (Seen row : w.seen) {
                all = all && among(suspects, row.x, row.y) == row.is;
            }
            if (all) {
                fitting.add(by);
            }
        }
        return what == 0 ? fitting.size() : fitting.isEmpty() ? -5 : fitting.get(0);
    }

    public long mean(int part) {
        List<Two> order = order(w, w.used[0]);
        if (order.isEmpty() || part < 0 || part > 1) {
            return NO;
        }
        int together = 0;
        for (Two two : order) {
            together += likeness(w, two.x, two.y, -1);
        }
        return Part.of(together, order.size()).half(part);
    }

    public int plan(int what, int k, int v) {
        if (what == -1) {
            w.plan.clear();
            return 0;
        }
        if (what < 0 || what > 3 || !(what == 0 || what == 3 ? isCandidate(k) : isItem(k))) {
            return NONE;
        }
        if (what == 3 && !areTwo(k, v)) {
            return NONE;
        }
        if ((what == 1 || what == 2) && (v < 0 || v > 3)) {
            return BAD;
        }
        if (w.plan.size() == 8) {
            return FULL;
        }
        w.plan.add(new Row(what, k, v));
        return w.plan.size();
    }

    public int ends() {
        World then = w.copy();
        for (Row row : w.plan) {
            if (row.what == 0) {
                then.sheets.get(row.k).answers = new Integer[8];
            } else if (row.what == 1) {
                then.right[row.k] = row.v;
            } else if (row.what == 2) {
                then.kind[row.k] = row.v;
            } else {
                then.sheets.get(row.k).answers = then.sheets.get(row.v).answers.clone();
            }
        }
        return suspects(then, then.used[0]).size();
    }

    public int judge(int candidate, int tape, int i) {
        if (!isCandidate(candidate) || tape < 0 || tape > 5) {
            return NONE;
        }
        if (sorts[tape] > 0) {
            return -12;
        }
        for (int item = 0; item < w.n; item++) {
            long place = (long) i + item;
            if (sorts[tape] == -1 || i < 0 || place >= tapes[tape].length) {
                return 100 + item;
            }
            Integer is = w.sheets.get(candidate).answers[item];
            if (tapes[tape][(int) place] != (is == null ? -1 : is)) {
                return item;
            }
        }
        return -5;
    }

    public int image() {
        image = w.copy();
        return w.sheets.size();
    }

    public int undo() {
        if (image == null) {
            return STATE;
        }
        w = image.copy();
        return w.sheets.size();
    }

    public int count(int what) {
        if (what < 0 || what > 11) {
            return BAD;
        }
        if (what >= 6) {
            return w.used[what - 6];
        }
        int seats = 0;
        for (Sheet sheet : w.sheets) {
            seats += sheet.seat == null ? 0 : 1;
        }
        return new int[] {w.n, w.sheets.size(), seats, w.seen.size(), w.plan.size(), text.length()}[what];
    }

    public int tape(int tape, int sort, int n) {
        if (tape < 0 || tape > 5) {
            return NONE;
        }
        if (sort < -1 || sort > 4 || sort >= 0 && n > 60) {
            return BAD;
        }
        if (sort >= 0 && n < 0) {
            return -14;
        }
        sorts[tape] = sort;
        tapes[tape] = sort == -1 ? null : new long[n];
        return 1;
    }

    public int item(int tape, int i, long v) {
        if (tape < 0 || tape > 5) {
            return NONE;
        }
        if (sorts[tape] == -1) {
            return -11;
        }
        if (i < 0 || i >= tapes[tape].length) {
            return -13;
        }
        int[] bits = {8, 16, 32, 64};
        tapes[tape][i] = sorts[tape] == 4 ? (v != 0 ? 1 : 0) : v << 64 - bits[sorts[tape]] >> 64 - bits[sorts[tape]];
        return 1;
    }

    public long peek(int tape, int i) {
        boolean is = tape >= 0 && tape <= 5 && sorts[tape] != -1 && i >= 0 && i < tapes[tape].length;
        return is ? tapes[tape][i] : NO;
    }

    public int shift(int tape, int i, int other, int j, int n) {
        if (tape < 0 || tape > 5 || other < 0 || other > 5) {
            return NONE;
        }
        if (sorts[tape] == -1 || sorts[other] == -1) {
            return -11;
        }
        if (sorts[tape] != sorts[other]) {
            return -12;
        }
        boolean beyond = (long) i + n > tapes[tape].length || (long) j + n > tapes[other].length;
        if (n < 0 || i < 0 || j < 0 || beyond) {
            return -13;
        }
        long[] before = tapes[tape].clone();
        for (int k = 0; k < n; k++) {
            tapes[other][j + k] = before[i + k];
        }
        return n;
    }
}
