/** Moves of a puzzle as a group of arrangements; README.md tells how to use it. */
public final class MoveGroups {
    public static final int NONE = -1;

    private static final int MOST_POINTS = 10;
    private static final int MOST_MOVES = 6;
    private static final int SMALL = 5040;

    private static final int FINE = 0;
    private static final int WRONG_NUMBER = 1;
    private static final int NO_SUCH = 2;
    private static final int TOO_MANY = 3;
    private static final int SO_ALREADY = 4;
    private static final int NOTHING = 5;
    private static final int OUTSIDE = 6;
    private static final int FAULTY = 9;

    private final Text text = new Text();
    private final Group group = new Group();
    private final Past past = new Past();
    private final byte[] printed = new byte[32];
    private int printedLength = 0;
    private long standing = 0;
    private int latest = FINE;

    public MoveGroups() {
    }

    public int status() {
        return latest;
    }

    public int feed(int a, int b, int c, int d, int e) {
        if (!text.hasRoom(20)) {
            return NONE;
        }
        text.append(a);
        text.append(b);
        text.append(c);
        text.append(d);
        text.append(e);
        return text.length;
    }

    public int load(int n) {
        if (n < 0 || n > text.length) {
            return refuse(WRONG_NUMBER);
        }
        if (!text.parse(n)) {
            return refuse(FAULTY);
        }
        group.become(text.points, text.moves, text.moveCount);
        standing = Turns.identity(text.points);
        past.forget();
        return tell(text.moveCount);
    }

    public int fault(int what) {
        if (what == 0) {
            return text.faultKind;
        }
        return what == 1 ? text.faultPlace : NONE;
    }

    public int many(int what) {
        switch (what) {
            case 0:
                return tell(group.points);
            case 1:
                return tell(group.moveCount);
            case 2:
                return tell(past.kept);
            case 3:
                return tell(isHome(standing) ? 1 : 0);
            default:
                return refuse(WRONG_NUMBER);
        }
    }

    // ---- arrangements

    public long step(int step) {
        if (!group.hasStep(step)) {
            return refuse(NO_SUCH);
        }
        return tellTurn(group.turnOf(step));
    }

    public long stand() {
        if (group.points == 0) {
            return refuse(NOTHING);
        }
        return tellTurn(standing);
    }

    public int takes(long arrangement, int point) {
        long turn = read(arrangement);
        if (turn < 0) {
            return refuse(WRONG_NUMBER);
        }
        if (!group.hasPoint(point)) {
            return refuse(NO_SUCH);
        }
        return tell(Turns.image(turn, point));
    }

    public long product(long one, long other) {
        long first = read(one);
        long second = read(other);
        if (first < 0 || second < 0) {
            return refuse(WRONG_NUMBER);
        }
        return tellTurn(Turns.compose(first, second, group.points));
    }

    public long inverse(long arrangement) {
        long turn = read(arrangement);
        if (turn < 0) {
            return refuse(WRONG_NUMBER);
        }
        return tellTurn(Turns.invert(turn, group.points));
    }

    public long power(long arrangement, int k) {
        long turn = read(arrangement);
        if (turn < 0 || k < -1000 || k > 1000) {
            return refuse(WRONG_NUMBER);
        }
        return tellTurn(Turns.raise(turn, k, group.points));
    }

    public int about(long arrangement, int what) {
        long turn = read(arrangement);
        if (turn < 0) {
            return refuse(WRONG_NUMBER);
        }
        long shape = Turns.shape(turn, group.points);
        switch (what) {
            case 0:
                return tell(Turns.period(shape));
            case 1:
                return tell(Turns.cycles(shape));
            case 2:
                return tell(Turns.staying(shape));
            case 3:
                return tell(Turns.isEven(turn, group.points) ? 1 : 0);
            case 4:
                return tell(Turns.moved(turn, group.points));
            default:
                return refuse(WRONG_NUMBER);
        }
    }

    // ---- orbits, base, order

    public int orbit(int point) {
        if (!group.hasPoint(point)) {
            return refuse(NO_SUCH);
        }
        return tell(group.reachedFrom(point));
    }

    public int orbits() {
        if (group.points == 0) {
            return refuse(NOTHING);
        }
        return tell(group.countOrbits());
    }

    public int base(int k) {
        if (k < NONE) {
            return refuse(WRONG_NUMBER);
        }
        if (group.points == 0) {
            return refuse(NOTHING);
        }
        if (k == NONE) {
            return tell(group.whole.countHeld());
        }
        int point = group.whole.heldPoint(k);
        return point < 0 ? refuse(NOTHING) : tell(point);
    }

    public int level(int k) {
        if (k < 0) {
            return refuse(WRONG_NUMBER);
        }
        if (group.points == 0) {
            return refuse(NOTHING);
        }
        int point = group.whole.heldPoint(k);
        return point < 0 ? refuse(NOTHING) : tell(group.whole.reachedAt(point));
    }

    public int order() {
        if (group.points == 0) {
            return refuse(NOTHING);
        }
        return tell(group.size());
    }

    public int member(long arrangement) {
        long turn = read(arrangement);
        if (turn < 0) {
            return refuse(WRONG_NUMBER);
        }
        return tell(group.whole.contains(turn) ? 1 : 0);
    }

    public int followed(long arrangement) {
        long turn = read(arrangement);
        if (turn < 0) {
            return refuse(WRONG_NUMBER);
        }
        return tell(group.whole.follow(turn));
    }

    public long nth(int k) {
        if (k < 0) {
            return refuse(WRONG_NUMBER);
        }
        if (group.points == 0 || k >= group.size()) {
            return refuse(NOTHING);
        }
        return tellTurn(group.whole.pick(k));
    }

    public int rank(long arrangement) {
        long turn = read(arrangement);
        if (turn < 0) {
            return refuse(WRONG_NUMBER);
        }
        int place = group.whole.placeOf(turn);
        return place < 0 ? refuse(OUTSIDE) : tell(place);
    }

    // ---- words

    public int way(long arrangement, int k) {
        long turn = read(arrangement);
        if (turn < 0 || k < NONE) {
            return refuse(WRONG_NUMBER);
        }
        return tellWay(turn, k);
    }

    public int deep(int d) {
        if (d < 0) {
            return refuse(WRONG_NUMBER);
        }
        int hurdle = hurdle();
        if (hurdle != FINE) {
            return refuse(hurdle);
        }
        int count = group.measured().countDeep(d);
        return count == 0 ? refuse(NOTHING) : tell(count);
    }

    public int deepest(int what) {
        if (what < 0 || what > 1) {
            return refuse(WRONG_NUMBER);
        }
        int hurdle = hurdle();
        if (hurdle != FINE) {
            return refuse(hurdle);
        }
        Roster all = group.measured();
        return tell(what == 0 ? all.deepest : all.firstDeep(all.deepest));
    }

    public int mean(int what) {
        if (what < 0 || what > 1) {
            return refuse(WRONG_NUMBER);
        }
        int hurdle = hurdle();
        if (hurdle != FINE) {
            return refuse(hurdle);
        }
        Roster all = group.measured();
        int sum = all.sumOfDepths();
        int shared = Turns.commonDivisor(sum, all.count);
        if (shared < 1) {
            return refuse(NOTHING);
        }
        return tell((what == 0 ? sum : all.count) / shared);
    }

    public int nearer() {
        int hurdle = hurdle();
        if (hurdle != FINE) {
            return refuse(hurdle);
        }
        Roster all = group.measured();
        int place = all.find(standing);
        return place < 0 ? refuse(OUTSIDE) : tell(all.stepsCloser(place));
    }

    public int solve(int k) {
        if (k < NONE) {
            return refuse(WRONG_NUMBER);
        }
        return tellWay(Turns.invert(standing, group.points), k);
    }

    // ---- centre, classes, commutators

    public int centre(int k) {
        if (k < NONE) {
            return refuse(WRONG_NUMBER);
        }
        int hurdle = hurdle();
        if (hurdle != FINE) {
            return refuse(hurdle);
        }
        if (k == NONE) {
            return tell(group.countCentral());
        }
        int place = group.centralPlace(k);
        return place < 0 ? refuse(NOTHING) : tell(place);
    }

    public int classes() {
        int hurdle = hurdle();
        if (hurdle != FINE) {
            return refuse(hurdle);
        }
        return tell(group.sorted().kinds);
    }

    public int alike(long arrangement) {
        long turn = read(arrangement);
        if (turn < 0) {
            return refuse(WRONG_NUMBER);
        }
        int hurdle = hurdle();
        if (hurdle != FINE) {
            return refuse(hurdle);
        }
        Roster all = group.sorted();
        int place = all.find(turn);
        return place < 0 ? refuse(OUTSIDE) : tell(all.countKin(place));
    }

    public int derived(int k) {
        if (k < 0) {
            return refuse(WRONG_NUMBER);
        }
        if (group.points == 0) {
            return refuse(NOTHING);
        }
        int size = group.descentBy(false).sizeAt(k);
        return size == 0 ? refuse(NOTHING) : tell(size);
    }

    public int has(int what) {
        if (what < 0 || what > 3) {
            return refuse(WRONG_NUMBER);
        }
        if (group.points == 0) {
            return refuse(NOTHING);
        }
        boolean so;
        if (what == 0) {
            so = group.movesCommute();
        } else if (what == 1) {
            so = group.descentBy(false).endsAtHome();
        } else if (what == 2) {
            so = group.movesAreEven();
        } else {
            so = group.isPrimitive();
        }
        return tell(so ? 1 : 0);
    }

    public long commutator(long one, long other) {
        long first = read(one);
        long second = read(other);
        if (first < 0 || second < 0) {
            return refuse(WRONG_NUMBER);
        }
        return tellTurn(Turns.commutatorOf(first, second, group.points));
    }

    public long turned(long arrangement, long by) {
        long turn = read(arrangement);
        long other = read(by);
        if (turn < 0 || other < 0) {
            return refuse(WRONG_NUMBER);
        }
        return tellTurn(Turns.conjugate(turn, other, group.points));
    }

    public int same(long one, long other) {
        long first = read(one);
        long second = read(other);
        if (first < 0 || second < 0) {
            return refuse(WRONG_NUMBER);
        }
        int hurdle = hurdle();
        if (hurdle != FINE) {
            return refuse(hurdle);
        }
        Roster all = group.sorted();
        int place = all.find(first);
        int otherPlace = all.find(second);
        if (place < 0 || otherPlace < 0) {
            return refuse(OUTSIDE);
        }
        return tell(all.kin[place] == all.kin[otherPlace] ? 1 : 0);
    }

    public int central(int k) {
        if (k < 0) {
            return refuse(WRONG_NUMBER);
        }
        if (group.points == 0) {
            return refuse(NOTHING);
        }
        int size = group.descentBy(true).sizeAt(k);
        return size == 0 ? refuse(NOTHING) : tell(size);
    }

    // ---- parts of it

    public int by(int moves) {
        if (!group.hasMoves(moves)) {
            return refuse(NO_SUCH);
        }
        if (group.points == 0) {
            return refuse(NOTHING);
        }
        return tell(group.sizeBy(moves));
    }

    public int meet(int moves, int others) {
        if (!group.hasMoves(moves) || !group.hasMoves(others)) {
            return refuse(NO_SUCH);
        }
        int hurdle = hurdle();
        if (hurdle != FINE) {
            return refuse(hurdle);
        }
        return tell(group.countInBoth(moves, others));
    }

    public int normal(int moves) {
        if (!group.hasMoves(moves)) {
            return refuse(NO_SUCH);
        }
        if (group.points == 0) {
            return refuse(NOTHING);
        }
        return tell(group.staysTurned(moves) ? 1 : 0);
    }

    public int spare() {
        if (group.points == 0) {
            return refuse(NOTHING);
        }
        return tell(group.spareMoves());
    }

    public int fewest() {
        if (group.points == 0) {
            return refuse(NOTHING);
        }
        return tell(group.fewestMoves(group.spareMoves()));
    }

    public int holds(int set) {
        if (!group.hasSet(set)) {
            return refuse(NO_SUCH);
        }
        return tell(group.countHolding(set));
    }

    public int keeps(int set) {
        if (!group.hasSet(set)) {
            return refuse(NO_SUCH);
        }
        int hurdle = hurdle();
        if (hurdle != FINE) {
            return refuse(hurdle);
        }
        return tell(group.all().countKeeping(set));
    }

    public int brings(int set, int other) {
        if (!group.hasSet(set) || !group.hasSet(other)) {
            return refuse(NO_SUCH);
        }
        int hurdle = hurdle();
        if (hurdle != FINE) {
            return refuse(hurdle);
        }
        int place = group.all().firstBringing(set, other);
        return place < 0 ? refuse(NOTHING) : tell(place);
    }

    public int block(int point, int other) {
        if (!group.hasPoint(point) || !group.hasPoint(other)) {
            return refuse(NO_SUCH);
        }
        if (point == other) {
            return refuse(SO_ALREADY);
        }
        return tell(group.blockOf(point, other));
    }

    public int anywhere() {
        if (group.points == 0) {
            return refuse(NOTHING);
        }
        return tell(group.whole.countFree());
    }

    // ---- counted

    public int fixing(int n) {
        if (n < 0 || n > MOST_POINTS) {
            return refuse(WRONG_NUMBER);
        }
        int hurdle = hurdle();
        if (hurdle != FINE) {
            return refuse(hurdle);
        }
        return tell(group.shaped().countStaying(n));
    }

    public long colours(int k) {
        if (k < 1 || k > 5) {
            return refuse(WRONG_NUMBER);
        }
        int hurdle = hurdle();
        if (hurdle != FINE) {
            return refuse(hurdle);
        }
        latest = FINE;
        return group.shaped().countColourings(k);
    }

    public int typed(long arrangement) {
        long turn = read(arrangement);
        if (turn < 0) {
            return refuse(WRONG_NUMBER);
        }
        int hurdle = hurdle();
        if (hurdle != FINE) {
            return refuse(hurdle);
        }
        return tell(group.shaped().countShaped(Turns.shape(turn, group.points)));
    }

    public int root(long arrangement, int k) {
        long turn = read(arrangement);
        if (turn < 0 || k < 1 || k > 1000) {
            return refuse(WRONG_NUMBER);
        }
        int hurdle = hurdle();
        if (hurdle != FINE) {
            return refuse(hurdle);
        }
        int place = group.all().firstRoot(turn, k);
        return place < 0 ? refuse(NOTHING) : tell(place);
    }

    public int slightest() {
        int hurdle = hurdle();
        if (hurdle != FINE) {
            return refuse(hurdle);
        }
        int moved = group.shaped().fewestMoved();
        return moved == 0 ? refuse(NOTHING) : tell(moved);
    }

    public int ofOrder(int n) {
        if (n < 1) {
            return refuse(WRONG_NUMBER);
        }
        int hurdle = hurdle();
        if (hurdle != FINE) {
            return refuse(hurdle);
        }
        int count = group.shaped().countPeriod(n);
        return count == 0 ? refuse(NOTHING) : tell(count);
    }

    // ---- acts

    public int turn(int step) {
        if (!group.hasStep(step)) {
            return refuse(NO_SUCH);
        }
        keepPast();
        standing = Turns.compose(standing, group.turnOf(step), group.points);
        return tell(group.points - countAway());
    }

    public int place(long arrangement) {
        long turn = read(arrangement);
        if (turn < 0) {
            return refuse(WRONG_NUMBER);
        }
        if (turn == standing) {
            return refuse(SO_ALREADY);
        }
        keepPast();
        standing = turn;
        return tell(group.whole.follow(turn));
    }

    public int home() {
        if (group.points == 0) {
            return refuse(NOTHING);
        }
        if (isHome(standing)) {
            return refuse(SO_ALREADY);
        }
        keepPast();
        int away = countAway();
        standing = Turns.identity(group.points);
        return tell(away);
    }

    public int add(long arrangement) {
        long turn = read(arrangement);
        if (turn < 0) {
            return refuse(WRONG_NUMBER);
        }
        if (group.moveCount >= MOST_MOVES) {
            return refuse(TOO_MANY);
        }
        keepPast();
        group.take(turn);
        return tell(group.size());
    }

    public int drop(int move) {
        if (move < 0 || move >= group.moveCount) {
            return refuse(NO_SUCH);
        }
        keepPast();
        group.lose(move);
        return tell(group.size());
    }

    public int undo() {
        if (past.kept == 0) {
            return refuse(NOTHING);
        }
        past.goBack();
        standing = past.standing;
        if (!group.hasJust(past.moves, past.moveCount)) {
            group.become(group.points, past.moves, past.moveCount);
        }
        return tell(past.kept);
    }

    public int print(long arrangement) {
        long turn = read(arrangement);
        if (turn < 0) {
            return refuse(WRONG_NUMBER);
        }
        printCycles(turn);
        return tell(printedLength);
    }

    public int out(int i) {
        if (i < 0) {
            return refuse(WRONG_NUMBER);
        }
        if (i >= printedLength || i >= printed.length) {
            return refuse(NOTHING);
        }
        return tell(printed[i]);
    }

    // ---- answers and what several calls share

    private int refuse(int why) {
        latest = why;
        return NONE;
    }

    private int tell(int answer) {
        latest = FINE;
        return answer;
    }

    private long tellTurn(long turn) {
        latest = FINE;
        return Turns.toNumber(turn, group.points);
    }

    /** The arrangement that a number tells, NONE if it tells none. */
    private long read(long number) {
        return Turns.fromNumber(number, group.points);
    }

    /** What forbids to ask of all arrangements one by one; FINE if nothing does. */
    private int hurdle() {
        if (group.points == 0) {
            return NOTHING;
        }
        return group.size() > SMALL ? TOO_MANY : FINE;
    }

    private int tellWay(long turn, int k) {
        int hurdle = hurdle();
        if (hurdle != FINE) {
            return refuse(hurdle);
        }
        Roster all = group.measured();
        int place = all.find(turn);
        if (place < 0) {
            return refuse(OUTSIDE);
        }
        if (k == NONE) {
            return tell(all.depths[place]);
        }
        return k >= all.depths[place] ? refuse(NOTHING) : tell(all.stepOfWay(place, k));
    }

    private boolean isHome(long turn) {
        return turn == Turns.identity(group.points);
    }

    private int countAway() {
        return Integer.bitCount(Turns.moved(standing, group.points));
    }

    private void keepPast() {
        past.keep(standing, group.moves, group.moveCount);
    }

    private void printCycles(long turn) {
        printedLength = 0;
        int seen = 0;
        for (int i = 0; i < group.points; i++) {
            boolean isNew = (seen >> i & 1) == 0;
            seen |= 1 << i;
            if (isNew && Turns.image(turn, i) != i) {
                seen |= printCycle(turn, i);
            }
        }
        if (printedLength == 0) {
            printByte('(');
            printByte(')');
        }
    }

    /** Answers the points of the cycle, as bits. */
    private int printCycle(long turn, int first) {
        printByte('(');
        printByte('0' + first);
        int printedPoints = 1 << first;
        int point = Turns.image(turn, first);
        for (int i = 0; i < MOST_POINTS && point != first; i++) {
            printByte(' ');
            printByte('0' + point);
            printedPoints |= 1 << point;
            point = Turns.image(turn, point);
        }
        printByte(')');
        return printedPoints;
    }

    private void printByte(int sign) {
        if (printedLength < printed.length) {
            printed[printedLength] = (byte) sign;
            printedLength++;
        }
    }

    /**
     * Arrangements packed in a long, four bits a point with point 0 highest: so the longs are in
     * the order of the arrangements' numbers, and none needs an object.
     */
    private static final class Turns {
        private static final int TOP = 36;

        static int image(long turn, int point) {
            return (int) (turn >>> (TOP - 4 * point)) & 15;
        }

        static long with(long turn, int point, int image) {
            int shift = TOP - 4 * point;
            return turn & ~(15L << shift) | (long) image << shift;
        }

        static long identity(int points) {
            long turn = 0;
            for (int i = 0; i < points; i++) {
                turn |= (long) i << (TOP - 4 * i);
            }
            return turn;
        }

        /** First the one, then the other. */
        static long compose(long one, long other, int points) {
            long turn = 0;
            int lowest = TOP - 4 * points;
            for (int shift = TOP; shift > lowest; shift -= 4) {
                int middle = (int) (one >>> shift) & 15;
                turn |= (other >>> (TOP - 4 * middle) & 15) << shift;
            }
            return turn;
        }

        static long invert(long turn, int points) {
            long back = 0;
            for (int i = 0; i < points; i++) {
                int image = (int) (turn >>> (TOP - 4 * i)) & 15;
                back |= (long) i << (TOP - 4 * image);
            }
            return back;
        }

        /** The inverse of by, the turn, by: it takes what by makes of a point to what by makes of its image. */
        static long conjugate(long turn, long by, int points) {
            long made = 0;
            for (int i = 0; i < points; i++) {
                made |= (long) image(by, image(turn, i)) << (TOP - 4 * image(by, i));
            }
            return made;
        }

        static long commutatorOf(long one, long other, int points) {
            long back = invert(compose(other, one, points), points);
            return compose(back, compose(one, other, points), points);
        }

        static boolean commute(long one, long other, int points) {
            for (int i = 0; i < points; i++) {
                if (image(other, image(one, i)) != image(one, image(other, i))) {
                    return false;
                }
            }
            return true;
        }

        static int imageOfPower(long turn, int point, int k) {
            int length = 1;
            int at = image(turn, point);
            for (int i = 0; i < MOST_POINTS && at != point; i++) {
                at = image(turn, at);
                length++;
            }
            int turns = length > 0 ? Math.floorMod(k, length) : 0;
            at = point;
            for (int i = 0; i < turns; i++) {
                at = image(turn, at);
            }
            return at;
        }

        static long raise(long turn, int k, int points) {
            long made = 0;
            for (int i = 0; i < points; i++) {
                made |= (long) imageOfPower(turn, i, k) << (TOP - 4 * i);
            }
            return made;
        }

        /** How many cycles of each length there are, four bits a length, length 1 lowest. */
        static long shape(long turn, int points) {
            long shape = 0;
            int seen = 0;
            for (int i = 0; i < points; i++) {
                if ((seen >> i & 1) != 0) {
                    continue;
                }
                int length = 0;
                int at = i;
                for (int j = 0; j < points && (seen >> at & 1) == 0; j++) {
                    seen |= 1 << at;
                    at = image(turn, at);
                    length++;
                }
                shape += 1L << (4 * length - 4);
            }
            return shape;
        }

        static int cycles(long shape) {
            int count = 0;
            for (int shift = 0; shift < 4 * MOST_POINTS; shift += 4) {
                count += (int) (shape >>> shift) & 15;
            }
            return count;
        }

        static int staying(long shape) {
            return (int) shape & 15;
        }

        static int period(long shape) {
            int period = 1;
            for (int length = 2; length <= MOST_POINTS; length++) {
                if ((shape >>> (4 * length - 4) & 15) != 0) {
                    int shared = commonDivisor(period, length);
                    period *= shared > 0 ? length / shared : length;
                }
            }
            return period;
        }

        static boolean isEven(long turn, int points) {
            return (points - cycles(shape(turn, points)) & 1) == 0;
        }

        /** The points that are moved, as bits. */
        static int moved(long turn, int points) {
            int bits = 0;
            for (int i = 0; i < points; i++) {
                if (image(turn, i) != i) {
                    bits |= 1 << i;
                }
            }
            return bits;
        }

        static int commonDivisor(int one, int other) {
            int divisor = one;
            int rest = other;
            for (int i = 0; i < 64 && rest != 0; i++) {
                int next = divisor % rest;
                divisor = rest;
                rest = next;
            }
            return divisor;
        }

        /** NONE if the number tells no arrangement of so many points. */
        static long fromNumber(long number, int points) {
            if (number < 0 || points == 0) {
                return NONE;
            }
            long turn = 0;
            long rest = number;
            int seen = 0;
            for (int i = points - 1; i >= 0; i--) {
                int digit = (int) (rest % 10);
                rest /= 10;
                if (digit >= points || (seen >> digit & 1) != 0) {
                    return NONE;
                }
                seen |= 1 << digit;
                turn |= (long) digit << (TOP - 4 * i);
            }
            return rest == 0 ? turn : NONE;
        }

        static long toNumber(long turn, int points) {
            long number = 0;
            for (int i = 0; i < points; i++) {
                number = number * 10 + image(turn, i);
            }
            return number;
        }
    }

    /** The tape, and the puzzle that was read of it. */
    private static final class Text {
        private static final int MOST_BYTES = 400;
        private static final int LONGEST_WORD = 8;
        private static final int LONGEST_NUMBER = 2;

        // kinds of tokens; a sign is a kind of its own, by its byte
        private static final int END = 0;
        private static final int WORD = 1;
        private static final int NUMBER = 2;
        private static final int NO_TOKEN = 3;

        private static final int FAULT_NO_TOKEN = 1;
        private static final int FAULT_PLACE = 2;
        private static final int FAULT_NUMBER = 3;
        private static final int FAULT_NAME = 4;
        private static final int FAULT_SEVENTH = 5;

        private final byte[] bytes = new byte[MOST_BYTES];
        int length = 0;
        private int end = 0;
        private int at = 0;

        private int kind = END;
        private int from = 0;
        private int value = 0;

        int points = 0;
        int moveCount = 0;
        final long[] moves = new long[MOST_MOVES];
        private final int[] nameFrom = new int[MOST_MOVES];
        private final int[] nameLength = new int[MOST_MOVES];
        private long made = 0;
        private int told = 0;

        int faultKind = NONE;
        int faultPlace = NONE;

        boolean hasRoom(int more) {
            return length + more <= MOST_BYTES;
        }

        void append(int four) {
            for (int shift = 24; shift >= 0 && length < MOST_BYTES; shift -= 8) {
                bytes[length] = (byte) (four >>> shift);
                length++;
            }
        }

        /** Reads the first n bytes as a puzzle and empties the tape; false if there is a fault. */
        boolean parse(int n) {
            end = Math.min(n, length);
            at = 0;
            points = 0;
            moveCount = 0;
            faultKind = 0;
            faultPlace = NONE;
            length = 0;
            scan();
            boolean isFine = true;
            for (int i = 0; i <= MOST_BYTES && isFine && kind != END; i++) {
                isFine = (points == 0 ? readPoints() : readMove()) && readSign(';');
            }
            return isFine;
        }

        private void scan() {
            while (at < end && (bytes[at] == 32 || bytes[at] == 10)) {
                at++;
            }
            from = at;
            if (at >= end) {
                kind = END;
                return;
            }
            int first = bytes[at];
            if (isLetter(first)) {
                while (at < end && isLetter(bytes[at])) {
                    at++;
                }
                kind = at - from <= LONGEST_WORD ? WORD : NO_TOKEN;
            } else if (isDigit(first)) {
                scanNumber();
            } else {
                at++;
                kind = isSign(first) ? first : NO_TOKEN;
            }
        }

        private void scanNumber() {
            value = 0;
            while (at < end && isDigit(bytes[at])) {
                value = value * 10 + bytes[at] - '0';
                at++;
            }
            kind = at - from <= LONGEST_NUMBER ? NUMBER : NO_TOKEN;
        }

        private static boolean isLetter(int sign) {
            return sign >= 'a' && sign <= 'z';
        }

        private static boolean isDigit(int sign) {
            return sign >= '0' && sign <= '9';
        }

        private static boolean isSign(int sign) {
            return sign == '(' || sign == ')' || sign == '\'' || sign == ';';
        }

        private boolean fail(int fault) {
            faultKind = fault;
            faultPlace = from;
            return false;
        }

        private boolean need(int wanted) {
            if (kind == wanted) {
                return true;
            }
            return fail(kind == NO_TOKEN ? FAULT_NO_TOKEN : FAULT_PLACE);
        }

        private boolean says(String word) {
            if (at - from != word.length()) {
                return false;
            }
            for (int i = 0; i < word.length() && from + i < MOST_BYTES; i++) {
                if (bytes[from + i] != word.charAt(i)) {
                    return false;
                }
            }
            return true;
        }

        private boolean readSign(int sign) {
            if (!need(sign)) {
                return false;
            }
            scan();
            return true;
        }

        private boolean readPoints() {
            if (!need(WORD)) {
                return false;
            }
            if (!says("points")) {
                return fail(FAULT_PLACE);
            }
            scan();
            if (!need(NUMBER)) {
                return false;
            }
            if (value < 2 || value > MOST_POINTS) {
                return fail(FAULT_NUMBER);
            }
            points = value;
            scan();
            return true;
        }

        private boolean readMove() {
            if (!need(WORD)) {
                return false;
            }
            boolean isCycles = says("move");
            if (!isCycles && !says("word")) {
                return fail(FAULT_PLACE);
            }
            if (moveCount >= MOST_MOVES) {
                return fail(FAULT_SEVENTH);
            }
            scan();
            if (!readNewName()) {
                return false;
            }
            made = Turns.identity(points);
            if (!(isCycles ? readCycles() : readItems())) {
                return false;
            }
            // the line may still lack its end: then nothing of this text is used
            moves[moveCount] = made;
            moveCount++;
            return true;
        }

        private boolean needName() {
            if (!need(WORD)) {
                return false;
            }
            if (says("points") || says("move") || says("word")) {
                return fail(FAULT_PLACE);
            }
            return true;
        }

        private boolean readNewName() {
            if (!needName()) {
                return false;
            }
            if (named() >= 0) {
                return fail(FAULT_NAME);
            }
            nameFrom[moveCount] = from;
            nameLength[moveCount] = at - from;
            scan();
            return true;
        }

        /** The move whose name the token is, NONE if no move told so far has it. */
        private int named() {
            for (int i = 0; i < moveCount; i++) {
                if (nameLength[i] == at - from && isSameAt(nameFrom[i])) {
                    return i;
                }
            }
            return NONE;
        }

        private boolean isSameAt(int place) {
            for (int i = 0; i < at - from; i++) {
                if (bytes[place + i] != bytes[from + i]) {
                    return false;
                }
            }
            return true;
        }

        private boolean readCycles() {
            told = 0;
            if (!need('(')) {
                return false;
            }
            for (int i = 0; i <= MOST_BYTES && kind == '('; i++) {
                scan();
                if (!readCycle() || !readSign(')')) {
                    return false;
                }
            }
            return true;
        }

        private boolean readCycle() {
            if (!need(NUMBER)) {
                return false;
            }
            int first = value;
            int ahead = NONE;
            for (int i = 0; i <= MOST_BYTES && kind == NUMBER; i++) {
                if (value >= points) {
                    return fail(FAULT_NUMBER);
                }
                if ((told >> value & 1) != 0) {
                    return fail(FAULT_NAME);
                }
                told |= 1 << value;
                if (ahead != NONE) {
                    made = Turns.with(made, ahead, value);
                }
                ahead = value;
                scan();
            }
            made = Turns.with(made, ahead, first);
            return true;
        }

        private boolean readItems() {
            if (!need(WORD)) {
                return false;
            }
            for (int i = 0; i <= MOST_BYTES && kind == WORD; i++) {
                if (!readItem()) {
                    return false;
                }
            }
            return true;
        }

        private boolean readItem() {
            if (!needName()) {
                return false;
            }
            int move = named();
            if (move < 0) {
                return fail(FAULT_NAME);
            }
            long item = moves[move];
            scan();
            if (kind == '\'') {
                item = Turns.invert(item, points);
                scan();
            }
            made = Turns.compose(made, item, points);
            return true;
        }
    }

    /**
     * A group as a chain: level i holds the points ahead of i. As the points are held in their own
     * order, the base is just the levels whose orbit has more than one point.
     * Rows are 16 wide, so that four bits of an arrangement are always an index.
     */
    private static final class Chain {
        private static final int WIDE = 16;
        private static final int ROOM = MOST_POINTS * WIDE;

        private int points = 0;
        private long identity = 0;
        /** The orbit of each level, as bits. */
        private final int[] reached = new int[MOST_POINTS];
        /** What takes a level's point to a point of its orbit, and what takes it back. */
        private final long[] there = new long[ROOM];
        private final long[] back = new long[ROOM];
        private final long[] makers = new long[ROOM];
        private final int[] makerCount = new int[MOST_POINTS];
        /** How many makers of the level were tried at a point of its orbit. */
        private final int[] tried = new int[ROOM];

        void start(int howMany) {
            points = howMany;
            identity = Turns.identity(howMany);
            for (int i = 0; i < points; i++) {
                int slot = i * WIDE + i;
                reached[i] = 1 << i;
                there[slot] = identity;
                back[slot] = identity;
                tried[slot] = 0;
                makerCount[i] = 0;
            }
        }

        /** The group of those moves that are chosen: which of them were not yet in that of the ones ahead, as bits. */
        int gather(long[] moves, int chosen, int howMany) {
            start(howMany);
            int needed = 0;
            for (int i = 0; i < moves.length; i++) {
                if ((chosen >> i & 1) != 0 && grow(moves[i])) {
                    needed |= 1 << i;
                }
            }
            return needed;
        }

        /** False if the turn was in the group already. */
        boolean grow(long turn) {
            long rest = sift(turn, 0);
            if (rest == identity) {
                return false;
            }
            int level = insert(rest, 0);
            // all levels behind this one are complete; each round tries a maker or goes a level up
            for (int round = 0; round < 100000 && level >= 0; round++) {
                int point = untried(level);
                if (point < 0) {
                    level--;
                    continue;
                }
                rest = tryMaker(level, point);
                if (rest != identity) {
                    level = insert(rest, level + 1);
                }
            }
            return true;
        }

        /** What is left when the levels take back what they can; it is the identity for what they hold. */
        private long sift(long turn, int from) {
            long rest = turn;
            for (int level = from; level < points; level++) {
                if (rest == identity) {
                    return rest;
                }
                int image = Turns.image(rest, level);
                if ((reached[level] >> image & 1) == 0) {
                    return rest;
                }
                if (image != level) {
                    rest = Turns.compose(rest, back[level * WIDE + image], points);
                }
            }
            return rest;
        }

        private int firstMoved(long turn) {
            for (int i = 0; i < points; i++) {
                if (Turns.image(turn, i) != i) {
                    return i;
                }
            }
            return points;
        }

        /** Makes the turn a maker of all levels from one on that it is in: the last of them. */
        private int insert(long turn, int from) {
            int last = Math.min(firstMoved(turn), points - 1);
            for (int level = from; level <= last; level++) {
                // a maker is new to its group, and no chain of groups on ten points is as long as a row
                if (makerCount[level] < WIDE) {
                    makers[level * WIDE + makerCount[level]] = turn;
                    makerCount[level]++;
                }
            }
            return last;
        }

        private int untried(int level) {
            for (int i = level; i < points; i++) {
                if ((reached[level] >> i & 1) != 0 && tried[level * WIDE + i] < makerCount[level]) {
                    return i;
                }
            }
            return NONE;
        }

        /** Tries the next maker at a point of the orbit: what the levels behind do not hold yet, else the identity. */
        private long tryMaker(int level, int point) {
            int slot = level * WIDE + point;
            long maker = makers[level * WIDE + tried[slot]];
            tried[slot]++;
            int image = Turns.image(maker, point);
            int target = level * WIDE + image;
            long turn = Turns.compose(there[slot], maker, points);
            if ((reached[level] >> image & 1) == 0) {
                reached[level] |= 1 << image;
                there[target] = turn;
                back[target] = Turns.invert(turn, points);
                tried[target] = 0;
                return identity;
            }
            if (turn == there[target]) {
                return identity;
            }
            return sift(Turns.compose(turn, back[target], points), level + 1);
        }

        int countMakers() {
            return makerCount[0];
        }

        /** One of countMakers() that make the group. */
        long maker(int i) {
            return i >= 0 && i < WIDE ? makers[i] : identity;
        }

        int size() {
            return sizeFrom(0);
        }

        int sizeFrom(int level) {
            int size = 1;
            for (int i = level; i < points; i++) {
                size *= Integer.bitCount(reached[i]);
            }
            return size;
        }

        boolean contains(long turn) {
            return sift(turn, 0) == identity;
        }

        int follow(long turn) {
            return firstMoved(sift(turn, 0));
        }

        int reachedAt(int level) {
            return level >= 0 && level < points ? reached[level] : 0;
        }

        int countHeld() {
            int count = 0;
            for (int i = 0; i < points; i++) {
                if (Integer.bitCount(reached[i]) > 1) {
                    count++;
                }
            }
            return count;
        }

        int heldPoint(int k) {
            int ahead = 0;
            for (int i = 0; i < points; i++) {
                if (Integer.bitCount(reached[i]) > 1) {
                    if (ahead == k) {
                        return i;
                    }
                    ahead++;
                }
            }
            return NONE;
        }

        /** How many points can be brought anywhere: level by level, all points that are not held are reached. */
        int countFree() {
            int count = 0;
            while (count < points && Integer.bitCount(reached[count]) == points - count) {
                count++;
            }
            return count;
        }

        /** What takes a level's point to a point of its orbit. */
        long carrier(int level, int point) {
            return there[level * WIDE + point];
        }

        /** The k-th turn by number. */
        long pick(int k) {
            long turn = identity;
            int rest = k;
            for (int level = 0; level < points; level++) {
                int below = sizeFrom(level + 1);
                if (below > 0 && Integer.bitCount(reached[level]) > 1) {
                    int source = sourceOf(level, turn, rest / below);
                    rest = rest % below;
                    turn = Turns.compose(there[level * WIDE + source], turn, points);
                }
            }
            return turn;
        }

        /** The point of a level's orbit whose image is the index-th of all of their images. */
        private int sourceOf(int level, long turn, int index) {
            long undone = Turns.invert(turn, points);
            int ahead = 0;
            for (int image = 0; image < points; image++) {
                int source = Turns.image(undone, image);
                if ((reached[level] >> source & 1) != 0) {
                    if (ahead == index) {
                        return source;
                    }
                    ahead++;
                }
            }
            return level;
        }

        /** Which one by number a turn is, NONE if it is not in the group. */
        int placeOf(long turn) {
            long made = identity;
            int place = 0;
            for (int level = 0; level < points; level++) {
                int image = Turns.image(turn, level);
                long undone = Turns.invert(made, points);
                int source = Turns.image(undone, image);
                if ((reached[level] >> source & 1) == 0) {
                    return NONE;
                }
                place += countSources(level, undone, image) * sizeFrom(level + 1);
                made = Turns.compose(there[level * WIDE + source], made, points);
            }
            return place;
        }

        /** How many points of a level's orbit have an image below one. */
        private int countSources(int level, long undone, int image) {
            int count = 0;
            for (int i = 0; i < image; i++) {
                count += reached[level] >> Turns.image(undone, i) & 1;
            }
            return count;
        }
    }

    /** Orders of a row of groups, each by the commutators of the one ahead with itself or with the whole. */
    private static final class Descent {
        private final int[] sizes = new int[32];
        private final long[] makers = new long[Chain.WIDE];
        private int makerCount = 0;
        private int count = 0;
        private boolean isKnown = false;

        void forget() {
            isKnown = false;
        }

        void know(Chain whole, Chain scratch, boolean isCentral) {
            if (isKnown) {
                return;
            }
            takeMakers(whole);
            sizes[0] = whole.size();
            count = 1;
            boolean isLess = true;
            while (isLess && count < sizes.length) {
                descend(whole, scratch, isCentral);
                takeMakers(scratch);
                sizes[count] = scratch.size();
                isLess = sizes[count] < sizes[count - 1];
                count += isLess ? 1 : 0;
            }
            isKnown = true;
        }

        private void takeMakers(Chain chain) {
            makerCount = Math.min(chain.countMakers(), makers.length);
            for (int i = 0; i < makerCount; i++) {
                makers[i] = chain.maker(i);
            }
        }

        /** The commutators of makers, and what others turn them to, make the group of all commutators. */
        private void descend(Chain whole, Chain made, boolean isCentral) {
            int points = whole.points;
            int others = isCentral ? whole.countMakers() : makerCount;
            made.start(points);
            for (int i = 0; i < makerCount; i++) {
                for (int j = 0; j < others; j++) {
                    long other = isCentral ? whole.maker(j) : makers[j];
                    made.grow(Turns.commutatorOf(makers[i], other, points));
                }
            }
            for (int i = 0; i < made.countMakers() && i < Chain.WIDE; i++) {
                for (int j = 0; j < others; j++) {
                    long other = isCentral ? whole.maker(j) : makers[j];
                    made.grow(Turns.conjugate(made.maker(i), other, points));
                }
            }
        }

        /** 0 where the row has ended. */
        int sizeAt(int k) {
            return k >= 0 && k < count ? sizes[k] : 0;
        }

        boolean endsAtHome() {
            return sizeAt(count - 1) == 1;
        }
    }

    /** All turns of a small group in order, and what is known of each; a row that is not asked for is not filled. */
    private static final class Roster {
        final int room;
        int count = 0;
        int deepest = 0;
        int kinds = 0;
        final int[] depths;
        final int[] kin;
        private final long[] turns;
        private final long[] shapes;
        /** The last step of the shortest way. */
        private final int[] lastSteps;
        private final int[] queue;
        /** Where each step leads from each place. */
        private final int[][] next;
        private int points = 0;
        private int stepCount = 0;
        private boolean isMeasured = false;
        private boolean isSorted = false;
        private boolean isShaped = false;

        Roster(int howMany) {
            room = Math.max(howMany, 1);
            depths = new int[room];
            kin = new int[room];
            turns = new long[room];
            shapes = new long[room];
            lastSteps = new int[room];
            queue = new int[room];
            next = new int[2 * MOST_MOVES][room];
        }

        /** Lists all turns of a group that has at most as many as there is room for. */
        void fill(Chain chain, int howManyPoints) {
            points = howManyPoints;
            isMeasured = false;
            isSorted = false;
            isShaped = false;
            turns[0] = Turns.identity(points);
            count = 1;
            for (int level = 0; level < points; level++) {
                int orbit = chain.reachedAt(level);
                int width = Integer.bitCount(orbit);
                if (width > 1 && count * width <= room) {
                    widen(chain, level, orbit, width);
                }
            }
        }

        /** Each turn becomes a block of as many as the orbit has points; from the last on, so that none is lost. */
        private void widen(Chain chain, int level, int orbit, int width) {
            for (int i = count - 1; i >= 0; i--) {
                long turn = turns[i];
                long undone = Turns.invert(turn, points);
                int slot = i * width;
                for (int image = 0; image < points && slot < room; image++) {
                    int source = Turns.image(undone, image);
                    if ((orbit >> source & 1) != 0) {
                        turns[slot] = Turns.compose(chain.carrier(level, source), turn, points);
                        slot++;
                    }
                }
            }
            count *= width;
        }

        long turnAt(int place) {
            return place >= 0 && place < count ? turns[place] : NONE;
        }

        /** NONE if the turn is not listed. */
        int find(long turn) {
            int low = 0;
            int high = count - 1;
            for (int i = 0; i < 32 && low <= high; i++) {
                int middle = low + high >>> 1;
                long there = turns[middle];
                if (there == turn) {
                    return middle;
                }
                if (there < turn) {
                    low = middle + 1;
                } else {
                    high = middle - 1;
                }
            }
            return NONE;
        }

        /** Finds the depth of each turn and the last step of its first shortest way. */
        void measure(long[] moves, int moveCount) {
            if (isMeasured) {
                return;
            }
            stepCount = 2 * moveCount;
            for (int i = 0; i < moveCount; i++) {
                followMove(moves[i], next[2 * i], next[2 * i + 1]);
            }
            for (int i = 0; i < count; i++) {
                depths[i] = NONE;
            }
            depths[0] = 0;
            queue[0] = 0;
            int filled = 1;
            // what stands first in the queue has the first way, and so have those that are found by it
            for (int i = 0; i < filled && i < count; i++) {
                filled = reachFrom(queue[i], filled);
            }
            deepest = depths[queue[filled - 1]];
            isMeasured = true;
        }

        private void followMove(long move, int[] forth, int[] back) {
            for (int i = 0; i < count; i++) {
                int place = find(Turns.compose(turns[i], move, points));
                if (place >= 0) {
                    forth[i] = place;
                    back[place] = i;
                }
            }
        }

        private int reachFrom(int place, int filled) {
            int end = filled;
            for (int step = 0; step < stepCount && end < count; step++) {
                int found = next[step][place];
                if (depths[found] == NONE) {
                    depths[found] = depths[place] + 1;
                    lastSteps[found] = step;
                    queue[end] = found;
                    end++;
                }
            }
            return end;
        }

        int countDeep(int depth) {
            int found = 0;
            for (int i = 0; i < count; i++) {
                if (depths[i] == depth) {
                    found++;
                }
            }
            return found;
        }

        int firstDeep(int depth) {
            for (int i = 0; i < count; i++) {
                if (depths[i] == depth) {
                    return i;
                }
            }
            return NONE;
        }

        int sumOfDepths() {
            int sum = 0;
            for (int i = 0; i < count; i++) {
                sum += depths[i];
            }
            return sum;
        }

        /** The steps that lead from a place to a lesser depth, as bits. */
        int stepsCloser(int place) {
            int bits = 0;
            for (int step = 0; step < stepCount; step++) {
                if (depths[next[step][place]] < depths[place]) {
                    bits |= 1 << step;
                }
            }
            return bits;
        }

        int stepOfWay(int place, int k) {
            int at = place;
            for (int i = depths[place] - 1; i > k; i--) {
                at = next[lastSteps[at] ^ 1][at];
            }
            return lastSteps[at];
        }

        /** Tells the classes apart; the moves that are needed turn each turn to all of its class. */
        void sort(long[] moves, int needed) {
            if (isSorted) {
                return;
            }
            for (int i = 0; i < count; i++) {
                kin[i] = NONE;
            }
            kinds = 0;
            for (int i = 0; i < count; i++) {
                if (kin[i] == NONE) {
                    gatherKin(i, moves, needed);
                    kinds++;
                }
            }
            isSorted = true;
        }

        private void gatherKin(int first, long[] moves, int needed) {
            kin[first] = kinds;
            queue[0] = first;
            int filled = 1;
            for (int i = 0; i < filled && i < count; i++) {
                for (int j = 0; j < moves.length; j++) {
                    if ((needed >> j & 1) == 0) {
                        continue;
                    }
                    int found = find(Turns.conjugate(turns[queue[i]], moves[j], points));
                    if (found >= 0 && kin[found] == NONE && filled < room) {
                        kin[found] = kinds;
                        queue[filled] = found;
                        filled++;
                    }
                }
            }
        }

        int countKin(int place) {
            int found = 0;
            for (int i = 0; i < count; i++) {
                if (kin[i] == kin[place]) {
                    found++;
                }
            }
            return found;
        }

        /** The first place from one on of what commutes with the needed moves, NONE if there is none. */
        int nextCentral(int from, long[] moves, int needed) {
            for (int i = from; i < count; i++) {
                boolean isCentral = true;
                for (int j = 0; j < moves.length && isCentral; j++) {
                    isCentral = (needed >> j & 1) == 0 || Turns.commute(turns[i], moves[j], points);
                }
                if (isCentral) {
                    return i;
                }
            }
            return NONE;
        }

        private boolean takesInto(long turn, int set, int other) {
            for (int i = 0; i < points; i++) {
                if ((set >> i & 1) != 0 && (other >> Turns.image(turn, i) & 1) == 0) {
                    return false;
                }
            }
            return true;
        }

        int countKeeping(int set) {
            int found = 0;
            for (int i = 0; i < count; i++) {
                if (takesInto(turns[i], set, set)) {
                    found++;
                }
            }
            return found;
        }

        int firstBringing(int set, int other) {
            if (Integer.bitCount(set) != Integer.bitCount(other)) {
                return NONE;
            }
            for (int i = 0; i < count; i++) {
                if (takesInto(turns[i], set, other)) {
                    return i;
                }
            }
            return NONE;
        }

        int firstRoot(long turn, int k) {
            for (int i = 0; i < count; i++) {
                boolean isRoot = true;
                for (int j = 0; j < points && isRoot; j++) {
                    isRoot = Turns.imageOfPower(turns[i], j, k) == Turns.image(turn, j);
                }
                if (isRoot) {
                    return i;
                }
            }
            return NONE;
        }

        void shapeAll() {
            if (isShaped) {
                return;
            }
            for (int i = 0; i < count; i++) {
                shapes[i] = Turns.shape(turns[i], points);
            }
            isShaped = true;
        }

        int countStaying(int staying) {
            int found = 0;
            for (int i = 0; i < count; i++) {
                if (Turns.staying(shapes[i]) == staying) {
                    found++;
                }
            }
            return found;
        }

        int countShaped(long shape) {
            int found = 0;
            for (int i = 0; i < count; i++) {
                if (shapes[i] == shape) {
                    found++;
                }
            }
            return found;
        }

        int countPeriod(int period) {
            int found = 0;
            for (int i = 0; i < count; i++) {
                if (Turns.period(shapes[i]) == period) {
                    found++;
                }
            }
            return found;
        }

        /** 0 if there is the identity alone. */
        int fewestMoved() {
            int fewest = 0;
            for (int i = 0; i < count; i++) {
                int moved = points - Turns.staying(shapes[i]);
                if (moved > 0 && (fewest == 0 || moved < fewest)) {
                    fewest = moved;
                }
            }
            return fewest;
        }

        /** The mean of how many colourings each turn leaves as they are. */
        long countColourings(int colours) {
            long sum = 0;
            for (int i = 0; i < count; i++) {
                long left = 1;
                int cycles = Turns.cycles(shapes[i]);
                for (int j = 0; j < cycles; j++) {
                    left *= colours;
                }
                sum += left;
            }
            return count > 0 ? sum / count : 0;
        }
    }

    /** The moves and all that follows of them; what was found out is kept till the moves change. */
    private static final class Group {
        int points = 0;
        int moveCount = 0;
        final long[] moves = new long[MOST_MOVES];
        final Chain whole = new Chain();
        /** Moves that are not in the group of those ahead of them, as bits: they make the whole. */
        private int needed = 0;
        private final Chain part = new Chain();
        private final Chain otherPart = new Chain();
        private final int[] partSizes = new int[1 << MOST_MOVES];
        private final Descent derivedRow = new Descent();
        private final Descent centralRow = new Descent();
        private Roster roster = null;
        private boolean isListed = false;
        private final int[] marks = new int[Chain.WIDE];

        void become(int howManyPoints, long[] newMoves, int howMany) {
            points = howManyPoints;
            moveCount = Math.min(howMany, MOST_MOVES);
            for (int i = 0; i < moveCount && i < newMoves.length; i++) {
                moves[i] = newMoves[i];
            }
            findOut();
        }

        void take(long turn) {
            if (moveCount < MOST_MOVES) {
                moves[moveCount] = turn;
                moveCount++;
                findOut();
            }
        }

        void lose(int move) {
            for (int i = Math.max(move, 0); i + 1 < moveCount; i++) {
                moves[i] = moves[i + 1];
            }
            moveCount = Math.max(moveCount - 1, 0);
            findOut();
        }

        private void findOut() {
            needed = whole.gather(moves, everyMove(), points);
            isListed = false;
            derivedRow.forget();
            centralRow.forget();
            for (int i = 0; i < partSizes.length; i++) {
                partSizes[i] = 0;
            }
        }

        private int everyMove() {
            return (1 << moveCount) - 1;
        }

        boolean hasJust(long[] others, int howMany) {
            if (howMany != moveCount) {
                return false;
            }
            for (int i = 0; i < moveCount && i < others.length; i++) {
                if (moves[i] != others[i]) {
                    return false;
                }
            }
            return true;
        }

        boolean hasPoint(int point) {
            return point >= 0 && point < points;
        }

        boolean hasStep(int step) {
            return step >= 0 && step < 2 * moveCount;
        }

        boolean hasMoves(int bits) {
            return (bits & ~everyMove()) == 0;
        }

        boolean hasSet(int bits) {
            return bits != 0 && (bits & ~((1 << points) - 1)) == 0;
        }

        long turnOf(int step) {
            long move = moves[step >> 1];
            return (step & 1) == 0 ? move : Turns.invert(move, points);
        }

        int size() {
            return whole.size();
        }

        int reachedFrom(int point) {
            int reached = 1 << point;
            int ahead = 0;
            for (int round = 0; round < MOST_POINTS && reached != ahead; round++) {
                ahead = reached;
                for (int i = 0; i < moveCount; i++) {
                    reached |= imagesOf(reached, moves[i]);
                }
            }
            return reached;
        }

        private int imagesOf(int set, long turn) {
            int images = 0;
            for (int i = 0; i < points; i++) {
                if ((set >> i & 1) != 0) {
                    images |= 1 << Turns.image(turn, i);
                }
            }
            return images;
        }

        int countOrbits() {
            int count = 0;
            int seen = 0;
            for (int i = 0; i < points; i++) {
                if ((seen >> i & 1) == 0) {
                    seen |= reachedFrom(i);
                    count++;
                }
            }
            return count;
        }

        /** All turns, of a group that is small. */
        Roster all() {
            int size = Math.min(whole.size(), SMALL);
            if (roster == null) {
                roster = new Roster(size);
            }
            if (roster.room < size) {
                // twice the room at least, so that groups that grow little by little make few rosters
                roster = new Roster(Math.min(Math.max(size, 2 * roster.room), SMALL));
            }
            if (!isListed) {
                roster.fill(whole, points);
                isListed = true;
            }
            return roster;
        }

        Roster measured() {
            Roster all = all();
            all.measure(moves, moveCount);
            return all;
        }

        Roster sorted() {
            Roster all = all();
            all.sort(moves, needed);
            return all;
        }

        Roster shaped() {
            Roster all = all();
            all.shapeAll();
            return all;
        }

        int countCentral() {
            Roster all = all();
            int count = 0;
            int place = all.nextCentral(0, moves, needed);
            for (int i = 0; i < SMALL && place >= 0; i++) {
                count++;
                place = all.nextCentral(place + 1, moves, needed);
            }
            return count;
        }

        int centralPlace(int k) {
            Roster all = all();
            int place = all.nextCentral(0, moves, needed);
            for (int i = 0; i < k && place >= 0; i++) {
                place = all.nextCentral(place + 1, moves, needed);
            }
            return place;
        }

        Descent descentBy(boolean isCentral) {
            Descent row = isCentral ? centralRow : derivedRow;
            row.know(whole, part, isCentral);
            return row;
        }

        boolean movesCommute() {
            for (int i = 0; i < moveCount; i++) {
                for (int j = 0; j < i; j++) {
                    if (!Turns.commute(moves[i], moves[j], points)) {
                        return false;
                    }
                }
            }
            return true;
        }

        boolean movesAreEven() {
            for (int i = 0; i < moveCount; i++) {
                if (!Turns.isEven(moves[i], points)) {
                    return false;
                }
            }
            return true;
        }

        boolean isPrimitive() {
            int everyPoint = (1 << points) - 1;
            if (reachedFrom(0) != everyPoint) {
                return false;
            }
            // as point 0 is taken to each point, its blocks tell of all
            for (int i = 1; i < points; i++) {
                if (blockOf(0, i) != everyPoint) {
                    return false;
                }
            }
            return true;
        }

        /** Points have one mark if they must be in one block; what a move makes of two such has one, too. */
        int blockOf(int point, int other) {
            for (int i = 0; i < points; i++) {
                marks[i] = i == other ? point : i;
            }
            boolean hasChanged = true;
            for (int round = 0; round < MOST_POINTS && hasChanged; round++) {
                hasChanged = false;
                for (int i = 0; i < moveCount; i++) {
                    if (spreadMarks(moves[i])) {
                        hasChanged = true;
                    }
                }
            }
            int block = 0;
            for (int i = 0; i < points; i++) {
                if (marks[i] == marks[point]) {
                    block |= 1 << i;
                }
            }
            return block;
        }

        private boolean spreadMarks(long move) {
            boolean hasChanged = false;
            for (int i = 1; i < points; i++) {
                for (int j = 0; j < i; j++) {
                    int mark = marks[Turns.image(move, i)];
                    int other = marks[Turns.image(move, j)];
                    if (marks[i] == marks[j] && mark != other) {
                        replaceMark(mark, other);
                        hasChanged = true;
                    }
                }
            }
            return hasChanged;
        }

        private void replaceMark(int mark, int other) {
            for (int i = 0; i < points; i++) {
                if (marks[i] == mark) {
                    marks[i] = other;
                }
            }
        }

        /** How many are in the group of some moves. */
        int sizeBy(int chosen) {
            int slot = chosen & everyMove();
            if (partSizes[slot] == 0) {
                part.gather(moves, slot, points);
                partSizes[slot] = part.size();
            }
            return partSizes[slot];
        }

        int countInBoth(int chosen, int others) {
            part.gather(moves, chosen, points);
            otherPart.gather(moves, others, points);
            Roster all = all();
            int count = 0;
            for (int i = 0; i < all.count; i++) {
                long turn = all.turnAt(i);
                if (part.contains(turn) && otherPart.contains(turn)) {
                    count++;
                }
            }
            return count;
        }

        boolean staysTurned(int chosen) {
            part.gather(moves, chosen, points);
            for (int i = 0; i < part.countMakers(); i++) {
                for (int j = 0; j < moveCount; j++) {
                    if (!part.contains(Turns.conjugate(part.maker(i), moves[j], points))) {
                        return false;
                    }
                }
            }
            return true;
        }

        int spareMoves() {
            int spare = 0;
            for (int i = 0; i < moveCount; i++) {
                if (sizeBy(everyMove() & ~(1 << i)) == size()) {
                    spare |= 1 << i;
                }
            }
            return spare;
        }

        /** A move that is not spare is in every set of moves that makes the whole. */
        int fewestMoves(int spare) {
            int every = everyMove();
            int must = every & ~spare;
            for (int howMany = Integer.bitCount(must); howMany < moveCount; howMany++) {
                for (int chosen = must; chosen <= every; chosen++) {
                    if (Integer.bitCount(chosen) == howMany && (chosen & must) == must
                            && sizeBy(chosen) == size()) {
                        return chosen;
                    }
                }
            }
            return every;
        }

        /** Renames the points so that those of the set come first: the chain then holds them first. */
        int countHolding(int set) {
            long names = 0;
            int held = Integer.bitCount(set);
            int nextHeld = 0;
            int nextFree = held;
            for (int i = 0; i < points; i++) {
                boolean isHeld = (set >> i & 1) != 0;
                names = Turns.with(names, i, isHeld ? nextHeld : nextFree);
                nextHeld += isHeld ? 1 : 0;
                nextFree += isHeld ? 0 : 1;
            }
            part.start(points);
            for (int i = 0; i < moveCount; i++) {
                if ((needed >> i & 1) != 0) {
                    part.grow(Turns.conjugate(moves[i], names, points));
                }
            }
            return part.sizeFrom(held);
        }
    }

    /** How the stand and the moves were ahead of each of the latest acts. */
    private static final class Past {
        private static final int MOST = 12;

        int kept = 0;
        long standing = 0;
        int moveCount = 0;
        final long[] moves = new long[MOST_MOVES];
        private final long[] stands = new long[MOST];
        private final int[] moveCounts = new int[MOST];
        private final long[] moveRows = new long[MOST * MOST_MOVES];

        void forget() {
            kept = 0;
        }

        void keep(long stand, long[] newMoves, int howMany) {
            if (kept >= MOST) {
                loseOldest();
            }
            stands[kept] = stand;
            moveCounts[kept] = howMany;
            for (int i = 0; i < MOST_MOVES && i < newMoves.length; i++) {
                moveRows[kept * MOST_MOVES + i] = newMoves[i];
            }
            kept++;
        }

        private void loseOldest() {
            System.arraycopy(stands, 1, stands, 0, MOST - 1);
            System.arraycopy(moveCounts, 1, moveCounts, 0, MOST - 1);
            System.arraycopy(moveRows, MOST_MOVES, moveRows, 0, (MOST - 1) * MOST_MOVES);
            kept = MOST - 1;
        }

        /** The latest act that is kept goes: the fields then tell how it was ahead of it. */
        void goBack() {
            if (kept <= 0) {
                return;
            }
            kept--;
            standing = stands[kept];
            moveCount = moveCounts[kept];
            for (int i = 0; i < MOST_MOVES; i++) {
                moves[i] = moveRows[kept * MOST_MOVES + i];
            }
        }
    }
}
