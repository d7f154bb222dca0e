import java.util.ArrayDeque;
import java.util.ArrayList;
import java.util.Arrays;
import java.util.Collection;
import java.util.HashMap;
import java.util.HashSet;
import java.util.LinkedHashSet;
import java.util.List;
import java.util.Map;
import java.util.Set;
import java.util.TreeMap;
import java.util.TreeSet;
import java.util.function.Predicate;

/**
 * The document once more, by listing everything: arrangements are texts of digits, groups are sets of them.
 * It shares nothing with MoveGroups, so that the two can be held against each other.
 */
public final class NaiveGroups {
    private static final class Refused extends RuntimeException {
        final int why;

        Refused(int why) {
            super(null, null, false, false);
            this.why = why;
        }
    }

    private record Act(String stand, List<String> moves) {
    }

    private record Token(String text, int place, int kind) {
    }

    private interface Asked {
        long answer();
    }

    private static final Map<List<String>, TreeSet<String>> GROUPS = new HashMap<>();
    private static final Map<List<String>, Map<String, List<Integer>>> WAYS = new HashMap<>();

    private final ArrayList<Integer> tape = new ArrayList<>();
    private int latest = 0;
    private int faultKind = -1;
    private int faultPlace = -1;
    private int points = 0;
    private List<String> moves = new ArrayList<>();
    private String stand = "";
    private final ArrayDeque<Act> acts = new ArrayDeque<>();
    private String printed = "";

    // ---- status

    private long ask(Asked asked) {
        try {
            long answer = asked.answer();
            latest = 0;
            return answer;
        } catch (Refused refused) {
            latest = refused.why;
            return -1;
        }
    }

    private static void refuseIf(boolean so, int why) {
        if (so) {
            throw new Refused(why);
        }
    }

    public int status() {
        return latest;
    }

    // ---- text

    public int feed(int a, int b, int c, int d, int e) {
        if (tape.size() + 20 > 400) {
            return -1;
        }
        for (int word : new int[] {a, b, c, d, e}) {
            for (int i = 3; i >= 0; i--) {
                tape.add(word >> 8 * i & 0xff);
            }
        }
        return tape.size();
    }

    public int fault(int what) {
        return what == 0 ? faultKind : what == 1 ? faultPlace : -1;
    }

    private static final class Fault extends RuntimeException {
        final int kind;
        final int place;

        Fault(int kind, int place) {
            super(null, null, false, false);
            this.kind = kind;
            this.place = place;
        }
    }

    private static List<Token> tokens(String text) {
        List<Token> list = new ArrayList<>();
        java.util.regex.Matcher matcher =
                java.util.regex.Pattern.compile("[ \n]+|([a-z]+)|([0-9]+)|([()';])|(.)", java.util.regex.Pattern.DOTALL)
                        .matcher(text);
        while (matcher.find()) {
            String found = matcher.group();
            if (matcher.group(1) != null) {
                list.add(new Token(found, matcher.start(), found.length() > 8 ? 'x' : 'w'));
            } else if (matcher.group(2) != null) {
                list.add(new Token(found, matcher.start(), found.length() > 2 ? 'x' : 'n'));
            } else if (matcher.group(3) != null) {
                list.add(new Token(found, matcher.start(), found.charAt(0)));
            } else if (matcher.group(4) != null) {
                list.add(new Token(found, matcher.start(), 'x'));
            }
        }
        list.add(new Token("", text.length(), 'e'));
        return list;
    }

    private static final class Reader {
        final List<Token> list;
        int at = 0;
        int points = 0;
        final List<String> names = new ArrayList<>();
        final List<String> moves = new ArrayList<>();

        Reader(List<Token> list) {
            this.list = list;
        }

        Token next(String kinds) {
            Token token = list.get(at);
            if (token.kind == 'x') {
                throw new Fault(1, token.place);
            }
            if (kinds.indexOf(token.kind) < 0) {
                throw new Fault(2, token.place);
            }
            at++;
            return token;
        }

        Token name() {
            Token token = next("w");
            if (List.of("points", "move", "word").contains(token.text)) {
                throw new Fault(2, token.place);
            }
            return token;
        }

        void read() {
            while (list.get(at).kind != 'e') {
                Token word = next("w");
                if (word.text.equals("points") && points == 0) {
                    Token number = next("n");
                    int value = Integer.parseInt(number.text);
                    if (value < 2 || value > 10) {
                        throw new Fault(3, number.place);
                    }
                    points = value;
                    next(";");
                } else if (points > 0 && (word.text.equals("move") || word.text.equals("word"))) {
                    if (moves.size() == 6) {
                        throw new Fault(5, word.place);
                    }
                    Token name = name();
                    if (names.contains(name.text)) {
                        throw new Fault(4, name.place);
                    }
                    String made = word.text.equals("move") ? cycles() : items();
                    names.add(name.text);
                    moves.add(made);
                } else {
                    throw new Fault(2, word.place);
                }
            }
        }

        String cycles() {
            char[] made = identity(points).toCharArray();
            Set<Integer> told = new HashSet<>();
            next("(");
            while (true) {
                List<Integer> cycle = new ArrayList<>();
                Token token = next("n");
                while (token.kind == 'n') {
                    int value = Integer.parseInt(token.text);
                    if (value >= points) {
                        throw new Fault(3, token.place);
                    }
                    if (!told.add(value)) {
                        throw new Fault(4, token.place);
                    }
                    cycle.add(value);
                    token = next("n)");
                }
                for (int i = 0; i < cycle.size(); i++) {
                    made[cycle.get(i)] = (char) ('0' + cycle.get((i + 1) % cycle.size()));
                }
                if (next("(;").kind == ';') {
                    return new String(made);
                }
            }
        }

        String items() {
            String made = identity(points);
            Token token = name();
            while (true) {
                int move = names.indexOf(token.text);
                if (move < 0) {
                    throw new Fault(4, token.place);
                }
                String item = moves.get(move);
                int kind = next("w';").kind;
                if (kind == '\'') {
                    item = back(item);
                    kind = next("w;").kind;
                }
                made = then(made, item);
                if (kind == ';') {
                    return made;
                }
                at--;
                token = name();
            }
        }
    }

    public int load(int n) {
        return (int) ask(() -> {
            refuseIf(n < 0 || n > tape.size(), 1);
            StringBuilder text = new StringBuilder();
            for (int i = 0; i < n; i++) {
                text.append((char) (int) tape.get(i));
            }
            tape.clear();
            Reader reader = new Reader(tokens(text.toString()));
            faultKind = 0;
            faultPlace = -1;
            try {
                reader.read();
            } catch (Fault fault) {
                faultKind = fault.kind;
                faultPlace = fault.place;
                throw new Refused(9);
            }
            points = reader.points;
            moves = reader.moves;
            stand = identity(points);
            acts.clear();
            return moves.size();
        });
    }

    // ---- arrangements as texts

    private static String identity(int n) {
        return "0123456789".substring(0, n);
    }

    private static int at(String x, int point) {
        return x.charAt(point) - '0';
    }

    private static String then(String x, String y) {
        StringBuilder made = new StringBuilder();
        for (int i = 0; i < x.length(); i++) {
            made.append(y.charAt(at(x, i)));
        }
        return made.toString();
    }

    private static String back(String x) {
        char[] made = new char[x.length()];
        for (int i = 0; i < x.length(); i++) {
            made[at(x, i)] = (char) ('0' + i);
        }
        return new String(made);
    }

    private static String raised(String x, int k) {
        String made = identity(x.length());
        for (int i = 0; i < Math.abs(k); i++) {
            made = then(made, k < 0 ? back(x) : x);
        }
        return made;
    }

    private static String commutatorOf(String x, String y) {
        return then(then(then(back(x), back(y)), x), y);
    }

    private static String turnedBy(String x, String y) {
        return then(then(back(y), x), y);
    }

    /** Lengths of the cycles, sorted. */
    private static List<Integer> lengths(String x) {
        List<Integer> list = new ArrayList<>();
        boolean[] seen = new boolean[x.length()];
        for (int i = 0; i < x.length(); i++) {
            int length = 0;
            for (int j = i; !seen[j]; j = at(x, j)) {
                seen[j] = true;
                length++;
            }
            if (length > 0) {
                list.add(length);
            }
        }
        list.sort(null);
        return list;
    }

    private static int orderOf(String x) {
        int k = 1;
        for (String y = x; !y.equals(identity(x.length())); y = then(y, x)) {
            k++;
        }
        return k;
    }

    private static int stays(String x) {
        int count = 0;
        for (int i = 0; i < x.length(); i++) {
            count += at(x, i) == i ? 1 : 0;
        }
        return count;
    }

    private static boolean isEven(String x) {
        int swaps = 0;
        for (int i = 0; i < x.length(); i++) {
            for (int j = 0; j < i; j++) {
                swaps += x.charAt(j) > x.charAt(i) ? 1 : 0;
            }
        }
        return swaps % 2 == 0;
    }

    private String read(long number) {
        refuseIf(number < 0 || points == 0, 1);
        String text = Long.toString(number);
        while (text.length() < points) {
            text = "0" + text;
        }
        char[] sorted = text.toCharArray();
        Arrays.sort(sorted);
        refuseIf(!new String(sorted).equals(identity(points)), 1);
        return text;
    }

    private void needPoint(int point) {
        refuseIf(point < 0 || point >= points, 2);
    }

    private void needPoints() {
        refuseIf(points == 0, 5);
    }

    private void needSet(int set) {
        refuseIf(set <= 0 || set >= 1 << points, 2);
    }

    private void needMoves(int bits) {
        refuseIf(bits < 0 || bits >= 1 << moves.size(), 2);
    }

    private void needSmall() {
        needPoints();
        refuseIf(group().size() > 5040, 3);
    }

    // ---- groups as sets

    static TreeSet<String> groupBy(int n, Collection<String> makers) {
        List<String> key = new ArrayList<>(makers);
        key.add(0, identity(n));
        return GROUPS.computeIfAbsent(key, ignored -> {
            Set<String> found = new LinkedHashSet<>();
            ArrayDeque<String> queue = new ArrayDeque<>();
            found.add(identity(n));
            queue.add(identity(n));
            while (!queue.isEmpty()) {
                String x = queue.remove();
                for (String maker : makers) {
                    String y = then(x, maker);
                    if (found.add(y)) {
                        queue.add(y);
                    }
                }
            }
            return new TreeSet<>(found);
        });
    }

    private static TreeSet<String> groupByMany(int n, Collection<String> all) {
        List<String> makers = new ArrayList<>();
        TreeSet<String> made = groupBy(n, makers);
        for (String x : all) {
            if (!made.contains(x)) {
                makers.add(x);
                made = groupBy(n, makers);
            }
        }
        return made;
    }

    private TreeSet<String> group() {
        return groupBy(points, moves);
    }

    private TreeSet<String> part(int bits) {
        List<String> some = new ArrayList<>();
        for (int i = 0; i < moves.size(); i++) {
            if ((bits >> i & 1) != 0) {
                some.add(moves.get(i));
            }
        }
        return groupBy(points, some);
    }

    private int placeOf(String x) {
        return group().headSet(x).size();
    }

    private long first(Predicate<String> wanted) {
        int place = 0;
        for (String x : group()) {
            if (wanted.test(x)) {
                return place;
            }
            place++;
        }
        throw new Refused(5);
    }

    private long count(Predicate<String> wanted) {
        return group().stream().filter(wanted).count();
    }

    private static int image(String x, int set) {
        int made = 0;
        for (int i = 0; i < x.length(); i++) {
            made |= (set >> i & 1) << at(x, i);
        }
        return made;
    }

    private List<String> steps() {
        List<String> list = new ArrayList<>();
        for (String move : moves) {
            list.add(move);
            list.add(back(move));
        }
        return list;
    }

    // ---- looked at by a test, without a status

    /** What was listed goes: a long test would keep it all. */
    static void forget() {
        GROUPS.clear();
        WAYS.clear();
    }

    int pointsNow() {
        return points;
    }

    int movesNow() {
        return moves.size();
    }

    int sizeNow() {
        return group().size();
    }

    long nthNow(int k) {
        return Long.parseLong(group().stream().skip(k).findFirst().get());
    }

    long standNow() {
        return Long.parseLong(stand);
    }

    // ---- the calls

    public int many(int what) {
        return (int) ask(() -> {
            refuseIf(what < 0 || what > 3, 1);
            return new long[] {points, moves.size(), acts.size(), stand.equals(identity(points)) ? 1 : 0}[what];
        });
    }

    public long step(int step) {
        return ask(() -> {
            refuseIf(step < 0 || step >= 2 * moves.size(), 2);
            return Long.parseLong(steps().get(step));
        });
    }

    public long stand() {
        return ask(() -> {
            needPoints();
            return Long.parseLong(stand);
        });
    }

    public int takes(long arrangement, int point) {
        return (int) ask(() -> {
            String x = read(arrangement);
            needPoint(point);
            return at(x, point);
        });
    }

    public long product(long one, long other) {
        return ask(() -> Long.parseLong(then(read(one), read(other))));
    }

    public long inverse(long arrangement) {
        return ask(() -> Long.parseLong(back(read(arrangement))));
    }

    public long power(long arrangement, int k) {
        return ask(() -> {
            refuseIf(k < -1000 || k > 1000, 1);
            return Long.parseLong(raised(read(arrangement), k));
        });
    }

    public int about(long arrangement, int what) {
        return (int) ask(() -> {
            String x = read(arrangement);
            refuseIf(what < 0 || what > 4, 1);
            int moved = 0;
            for (int i = 0; i < points; i++) {
                moved |= at(x, i) == i ? 0 : 1 << i;
            }
            return new long[] {orderOf(x), lengths(x).size(), stays(x), isEven(x) ? 1 : 0, moved}[what];
        });
    }

    private int orbitOf(Collection<String> some, int point) {
        int bits = 0;
        for (String x : some) {
            bits |= 1 << at(x, point);
        }
        return bits;
    }

    public int orbit(int point) {
        return (int) ask(() -> {
            needPoint(point);
            return orbitOf(group(), point);
        });
    }

    public int orbits() {
        return (int) ask(() -> {
            needPoints();
            Set<Integer> found = new HashSet<>();
            for (int i = 0; i < points; i++) {
                found.add(orbitOf(group(), i));
            }
            return found.size();
        });
    }

    /** Points of the base, each followed by its orbit. */
    private List<int[]> baseAndOrbits() {
        List<int[]> list = new ArrayList<>();
        List<String> level = new ArrayList<>(group());
        while (level.size() > 1) {
            int least = 0;
            while (orbitOf(level, least) == 1 << least) {
                least++;
            }
            list.add(new int[] {least, orbitOf(level, least)});
            int held = least;
            level = level.stream().filter(x -> at(x, held) == held).toList();
        }
        return list;
    }

    public int base(int k) {
        return (int) ask(() -> {
            refuseIf(k < -1, 1);
            needPoints();
            List<int[]> list = baseAndOrbits();
            if (k == -1) {
                return list.size();
            }
            refuseIf(k >= list.size(), 5);
            return list.get(k)[0];
        });
    }

    public int level(int k) {
        return (int) ask(() -> {
            refuseIf(k < 0, 1);
            needPoints();
            List<int[]> list = baseAndOrbits();
            refuseIf(k >= list.size(), 5);
            return list.get(k)[1];
        });
    }

    public int order() {
        return (int) ask(() -> {
            needPoints();
            return group().size();
        });
    }

    public int member(long arrangement) {
        return (int) ask(() -> group().contains(read(arrangement)) ? 1 : 0);
    }

    private int followedOf(String x) {
        int most = 0;
        for (String y : group()) {
            int same = 0;
            while (same < points && x.charAt(same) == y.charAt(same)) {
                same++;
            }
            most = Math.max(most, same);
        }
        return most;
    }

    public int followed(long arrangement) {
        return (int) ask(() -> followedOf(read(arrangement)));
    }

    public long nth(int k) {
        return ask(() -> {
            refuseIf(k < 0, 1);
            needPoints();
            refuseIf(k >= group().size(), 5);
            return Long.parseLong(group().stream().skip(k).findFirst().get());
        });
    }

    public int rank(long arrangement) {
        return (int) ask(() -> {
            String x = read(arrangement);
            refuseIf(!group().contains(x), 6);
            return placeOf(x);
        });
    }

    /** The first shortest row of steps to each: rows of one more step come by the order of the rows ahead. */
    private Map<String, List<Integer>> ways() {
        List<String> key = new ArrayList<>(moves);
        key.add(0, identity(points));
        return WAYS.computeIfAbsent(key, ignored -> {
            Map<String, List<Integer>> found = new HashMap<>();
            List<String> level = List.of(identity(points));
            found.put(identity(points), List.of());
            while (!level.isEmpty()) {
                TreeMap<String, List<Integer>> next = new TreeMap<>();
                for (String x : level) {
                    for (int s = 0; s < steps().size(); s++) {
                        String y = then(x, steps().get(s));
                        if (found.containsKey(y)) {
                            continue;
                        }
                        List<Integer> row = new ArrayList<>(found.get(x));
                        row.add(s);
                        List<Integer> old = next.get(y);
                        if (old == null || less(row, old)) {
                            next.put(y, row);
                        }
                    }
                }
                found.putAll(next);
                level = List.copyOf(next.keySet());
            }
            return found;
        });
    }

    private static boolean less(List<Integer> one, List<Integer> other) {
        for (int i = 0; i < one.size(); i++) {
            if (!one.get(i).equals(other.get(i))) {
                return one.get(i) < other.get(i);
            }
        }
        return false;
    }

    private long wayOf(String x, int k) {
        needSmall();
        refuseIf(!group().contains(x), 6);
        List<Integer> row = ways().get(x);
        if (k == -1) {
            return row.size();
        }
        refuseIf(k >= row.size(), 5);
        return row.get(k);
    }

    public int way(long arrangement, int k) {
        return (int) ask(() -> {
            String x = read(arrangement);
            refuseIf(k < -1, 1);
            return wayOf(x, k);
        });
    }

    private int depth(String x) {
        return ways().get(x).size();
    }

    public int deep(int d) {
        return (int) ask(() -> {
            refuseIf(d < 0, 1);
            needSmall();
            long found = count(x -> depth(x) == d);
            refuseIf(found == 0, 5);
            return found;
        });
    }

    public int deepest(int what) {
        return (int) ask(() -> {
            refuseIf(what < 0 || what > 1, 1);
            needSmall();
            int most = group().stream().mapToInt(this::depth).max().getAsInt();
            return what == 0 ? most : first(x -> depth(x) == most);
        });
    }

    public int mean(int what) {
        return (int) ask(() -> {
            refuseIf(what < 0 || what > 1, 1);
            needSmall();
            long sum = group().stream().mapToLong(this::depth).sum();
            long all = group().size();
            for (long i = all; i > 1; i--) {
                if (sum % i == 0 && all % i == 0) {
                    sum /= i;
                    all /= i;
                }
            }
            return what == 0 ? sum : all;
        });
    }

    public int nearer() {
        return (int) ask(() -> {
            needSmall();
            refuseIf(!group().contains(stand), 6);
            int bits = 0;
            for (int s = 0; s < steps().size(); s++) {
                String x = then(stand, steps().get(s));
                bits |= depth(back(x)) < depth(back(stand)) ? 1 << s : 0;
            }
            return bits;
        });
    }

    public int solve(int k) {
        return (int) ask(() -> {
            refuseIf(k < -1, 1);
            needPoints();
            return wayOf(back(stand), k);
        });
    }

    private boolean isCentral(String x) {
        return moves.stream().allMatch(move -> then(move, x).equals(then(x, move)));
    }

    public int centre(int k) {
        return (int) ask(() -> {
            refuseIf(k < -1, 1);
            needSmall();
            List<String> list = group().stream().filter(this::isCentral).toList();
            if (k == -1) {
                return list.size();
            }
            refuseIf(k >= list.size(), 5);
            return placeOf(list.get(k));
        });
    }

    private Set<String> classOf(String x) {
        Set<String> found = new HashSet<>();
        for (String y : group()) {
            found.add(turnedBy(x, y));
        }
        return found;
    }

    public int classes() {
        return (int) ask(() -> {
            needSmall();
            Set<String> left = new TreeSet<>(group());
            int found = 0;
            while (!left.isEmpty()) {
                left.removeAll(new ArrayList<>(classOf(left.iterator().next())));
                found++;
            }
            return found;
        });
    }

    public int alike(long arrangement) {
        return (int) ask(() -> {
            String x = read(arrangement);
            needSmall();
            refuseIf(!group().contains(x), 6);
            return classOf(x).size();
        });
    }

    /** The group by all commutators of two groups; listed in full if they are small. */
    private TreeSet<String> commutators(Set<String> one, Set<String> other) {
        Set<String> all = new TreeSet<>();
        for (String x : one) {
            for (String y : other) {
                all.add(commutatorOf(x, y));
            }
        }
        return groupByMany(points, all);
    }

    private long descent(int k, boolean isCentral) {
        refuseIf(k < 0, 1);
        needPoints();
        Set<String> now = group();
        for (int i = 0; i < k; i++) {
            Set<String> next = commutators(now, isCentral ? group() : now);
            refuseIf(next.size() == now.size(), 5);
            now = next;
        }
        return now.size();
    }

    public int derived(int k) {
        return (int) ask(() -> descent(k, false));
    }

    public int central(int k) {
        return (int) ask(() -> descent(k, true));
    }

    public int has(int what) {
        return (int) ask(() -> {
            refuseIf(what < 0 || what > 3, 1);
            needPoints();
            boolean so;
            if (what == 0) {
                so = steps().stream().allMatch(x -> steps().stream().allMatch(y -> then(x, y).equals(then(y, x))));
            } else if (what == 1) {
                Set<String> now = group();
                for (int i = 0; i < 25; i++) {
                    now = commutators(now, now);
                }
                so = now.size() == 1;
            } else if (what == 2) {
                so = count(x -> !isEven(x)) == 0;
            } else {
                so = orbitOf(group(), 0) == (1 << points) - 1;
                for (int i = 0; i < points; i++) {
                    for (int j = 0; j < i; j++) {
                        so &= leastBlock(i, j) == (1 << points) - 1;
                    }
                }
            }
            return so ? 1 : 0;
        });
    }

    public long commutator(long one, long other) {
        return ask(() -> Long.parseLong(commutatorOf(read(one), read(other))));
    }

    public long turned(long arrangement, long by) {
        return ask(() -> Long.parseLong(turnedBy(read(arrangement), read(by))));
    }

    public int same(long one, long other) {
        return (int) ask(() -> {
            String x = read(one);
            String y = read(other);
            needSmall();
            refuseIf(!group().contains(x) || !group().contains(y), 6);
            return classOf(x).contains(y) ? 1 : 0;
        });
    }

    public int by(int bits) {
        return (int) ask(() -> {
            needMoves(bits);
            needPoints();
            return part(bits).size();
        });
    }

    public int meet(int bits, int others) {
        return (int) ask(() -> {
            needMoves(bits);
            needMoves(others);
            needSmall();
            Set<String> both = new HashSet<>(part(bits));
            both.retainAll(part(others));
            return both.size();
        });
    }

    public int normal(int bits) {
        return (int) ask(() -> {
            needMoves(bits);
            needPoints();
            for (String move : moves) {
                for (String x : part(bits)) {
                    if (!part(bits).contains(turnedBy(x, move))) {
                        return 0;
                    }
                }
            }
            return 1;
        });
    }

    public int spare() {
        return (int) ask(() -> {
            needPoints();
            int all = (1 << moves.size()) - 1;
            int bits = 0;
            for (int i = 0; i < moves.size(); i++) {
                bits |= part(all ^ 1 << i).equals(group()) ? 1 << i : 0;
            }
            return bits;
        });
    }

    public int fewest() {
        return (int) ask(() -> {
            needPoints();
            int best = (1 << moves.size()) - 1;
            for (int bits = best; bits >= 0; bits--) {
                if (Integer.bitCount(bits) <= Integer.bitCount(best) && part(bits).equals(group())) {
                    best = bits;
                }
            }
            return best;
        });
    }

    public int holds(int set) {
        return (int) ask(() -> {
            needSet(set);
            return count(x -> {
                for (int i = 0; i < points; i++) {
                    if ((set >> i & 1) != 0 && at(x, i) != i) {
                        return false;
                    }
                }
                return true;
            });
        });
    }

    public int keeps(int set) {
        return (int) ask(() -> {
            needSet(set);
            needSmall();
            return count(x -> image(x, set) == set);
        });
    }

    public int brings(int set, int other) {
        return (int) ask(() -> {
            needSet(set);
            needSet(other);
            needSmall();
            return first(x -> image(x, set) == other);
        });
    }

    private int leastBlock(int point, int other) {
        int best = (1 << points) - 1;
        for (int set = 1; set < 1 << points; set++) {
            if ((set >> point & 1) == 0 || (set >> other & 1) == 0
                    || Integer.bitCount(set) >= Integer.bitCount(best)) {
                continue;
            }
            boolean isBlock = true;
            for (String x : group()) {
                int made = image(x, set);
                if (made != set && (made & set) != 0) {
                    isBlock = false;
                    break;
                }
            }
            if (isBlock) {
                best = set;
            }
        }
        return best;
    }

    public int block(int point, int other) {
        return (int) ask(() -> {
            needPoint(point);
            needPoint(other);
            refuseIf(point == other, 4);
            return leastBlock(point, other);
        });
    }

    public int anywhere() {
        return (int) ask(() -> {
            needPoints();
            int most = 0;
            long rows = 1;
            for (int t = 1; t <= points; t++) {
                rows *= points - t + 1;
                Set<String> found = new HashSet<>();
                for (String x : group()) {
                    found.add(x.substring(0, t));
                }
                // the first row is taken to each, so each is taken to each
                most = found.size() == rows ? t : most;
            }
            return most;
        });
    }

    public int fixing(int n) {
        return (int) ask(() -> {
            refuseIf(n < 0 || n > 10, 1);
            needSmall();
            return count(x -> stays(x) == n);
        });
    }

    public long colours(int k) {
        return ask(() -> {
            refuseIf(k < 1 || k > 5, 1);
            needSmall();
            int all = (int) Math.round(Math.pow(k, points));
            if (all > 20000) {
                long sum = 0;
                for (String x : group()) {
                    sum += Math.round(Math.pow(k, lengths(x).size()));
                }
                return sum / group().size();
            }
            boolean[] seen = new boolean[all];
            int found = 0;
            for (int i = 0; i < all; i++) {
                if (!seen[i]) {
                    found++;
                    spread(i, k, seen);
                }
            }
            return found;
        });
    }

    private void spread(int start, int k, boolean[] seen) {
        ArrayDeque<Integer> queue = new ArrayDeque<>();
        queue.add(start);
        seen[start] = true;
        while (!queue.isEmpty()) {
            int coloured = queue.remove();
            for (String move : moves) {
                int made = 0;
                int rest = coloured;
                for (int i = 0; i < points; i++) {
                    made += rest % k * (int) Math.round(Math.pow(k, at(move, i)));
                    rest /= k;
                }
                if (!seen[made]) {
                    seen[made] = true;
                    queue.add(made);
                }
            }
        }
    }

    public int typed(long arrangement) {
        return (int) ask(() -> {
            String x = read(arrangement);
            needSmall();
            return count(y -> lengths(y).equals(lengths(x)));
        });
    }

    public int root(long arrangement, int k) {
        return (int) ask(() -> {
            String x = read(arrangement);
            refuseIf(k < 1 || k > 1000, 1);
            needSmall();
            return first(y -> raised(y, k % orderOf(y)).equals(x));
        });
    }

    public int slightest() {
        return (int) ask(() -> {
            needSmall();
            refuseIf(group().size() == 1, 5);
            return group().stream().mapToInt(x -> points - stays(x)).filter(moved -> moved > 0).min().getAsInt();
        });
    }

    public int ofOrder(int n) {
        return (int) ask(() -> {
            refuseIf(n < 1, 1);
            needSmall();
            long found = count(x -> orderOf(x) == n);
            refuseIf(found == 0, 5);
            return found;
        });
    }

    private void keep() {
        acts.addLast(new Act(stand, new ArrayList<>(moves)));
        if (acts.size() > 12) {
            acts.removeFirst();
        }
    }

    public int turn(int step) {
        return (int) ask(() -> {
            refuseIf(step < 0 || step >= 2 * moves.size(), 2);
            keep();
            stand = then(stand, steps().get(step));
            return stays(stand);
        });
    }

    public int place(long arrangement) {
        return (int) ask(() -> {
            String x = read(arrangement);
            refuseIf(x.equals(stand), 4);
            keep();
            stand = x;
            return followedOf(x);
        });
    }

    public int home() {
        return (int) ask(() -> {
            needPoints();
            refuseIf(stand.equals(identity(points)), 4);
            keep();
            int away = points - stays(stand);
            stand = identity(points);
            return away;
        });
    }

    public int add(long arrangement) {
        return (int) ask(() -> {
            String x = read(arrangement);
            refuseIf(moves.size() == 6, 3);
            keep();
            moves = new ArrayList<>(moves);
            moves.add(x);
            return group().size();
        });
    }

    public int drop(int move) {
        return (int) ask(() -> {
            refuseIf(move < 0 || move >= moves.size(), 2);
            keep();
            moves = new ArrayList<>(moves);
            moves.remove(move);
            return group().size();
        });
    }

    public int undo() {
        return (int) ask(() -> {
            refuseIf(acts.isEmpty(), 5);
            Act act = acts.removeLast();
            stand = act.stand;
            moves = act.moves;
            return acts.size();
        });
    }

    public int print(long arrangement) {
        return (int) ask(() -> {
            String x = read(arrangement);
            StringBuilder text = new StringBuilder();
            for (int i = 0; i < points; i++) {
                List<String> cycle = new ArrayList<>();
                boolean isLeast = true;
                int j = i;
                do {
                    cycle.add(Integer.toString(j));
                    isLeast &= j >= i;
                    j = at(x, j);
                } while (j != i);
                if (isLeast && cycle.size() > 1) {
                    text.append('(').append(String.join(" ", cycle)).append(')');
                }
            }
            printed = text.length() == 0 ? "()" : text.toString();
            return printed.length();
        });
    }

    public int out(int i) {
        return (int) ask(() -> {
            refuseIf(i < 0, 1);
            refuseIf(i >= printed.length(), 5);
            return printed.charAt(i);
        });
    }
}
