import java.lang.reflect.Method;
import java.lang.reflect.Modifier;
import java.util.ArrayList;
import java.util.Comparator;
import java.util.List;
import java.util.Random;

/** Runs of calls by a fixed row of random numbers, on MoveGroups and on NaiveGroups: answers and status must be the same. */
public final class RandomRunsTest {
    private static final String[] NAMES = {"a", "b", "rot", "flip", "abcdefgh", "points", "move", "word", "x", "zz", "abcdefghi"};
    /** Dear ones for NaiveGroups, asked of small groups alone. */
    private static final List<String> DEAR = List.of("derived", "central", "classes", "has", "block", "root", "alike", "same");

    private final Random random;
    private final List<Method> calls = new ArrayList<>();
    private final StringBuilder told = new StringBuilder();
    private MoveGroups ours = new MoveGroups();
    private NaiveGroups naive = new NaiveGroups();
    private int wrong = 0;

    private RandomRunsTest(long seed) {
        random = new Random(seed);
        for (Method method : MoveGroups.class.getDeclaredMethods()) {
            if (Modifier.isPublic(method.getModifiers()) && !List.of("feed", "load", "status").contains(method.getName())) {
                calls.add(method);
            }
        }
        calls.sort(Comparator.comparing(Method::getName));
    }

    public static void main(String[] args) throws Exception {
        int runs = args.length > 0 ? Integer.parseInt(args[0]) : 400;
        long seed = args.length > 1 ? Long.parseLong(args[1]) : 1;
        RandomRunsTest test = new RandomRunsTest(seed);
        for (int i = 0; i < runs && test.wrong == 0; i++) {
            test.run(i);
        }
        for (int i = 0; i < runs * 25 && test.wrong == 0; i++) {
            test.runOfText();
        }
        if (test.wrong > 0) {
            System.exit(1);
        }
    }

    private void begin() {
        ours = new MoveGroups();
        naive = new NaiveGroups();
        told.setLength(0);
        NaiveGroups.forget();
    }

    private void run(int number) throws Exception {
        begin();
        int used = 0;
        while (used < 500 && wrong == 0) {
            if (random.nextInt(60) == 0 || used == 0 && random.nextInt(4) > 0) {
                used += load(random.nextInt(8) == 0 ? spoiled(puzzle()) : puzzle());
            }
            used += 2;
            Method method = calls.get(random.nextInt(calls.size()));
            if (naive.sizeNow() > (naive.pointsNow() > 7 ? 200 : 400) && DEAR.contains(method.getName())) {
                continue;
            }
            Object[] arguments = arguments(method);
            if (method.getName().equals("add") && naive.pointsNow() > 7) {
                // a random one would make a group that NaiveGroups can't list
                arguments[0] = naive.nthNow(random.nextInt(naive.sizeNow()));
            }
            compare(method, arguments);
        }
    }

    private void runOfText() throws Exception {
        begin();
        String text = puzzle();
        for (int i = random.nextInt(3); i >= 0; i--) {
            text = spoiled(text);
        }
        load(text);
        for (int i = 0; i < 2 * naive.movesNow(); i++) {
            check("step " + i, ours.step(i), naive.step(i));
        }
    }

    private void check(String call, long got, long due) {
        told.append(call).append(" = ").append(got).append('\n');
        if (got != due || ours.status() != naive.status()) {
            wrong++;
            System.out.println(told + "but due is " + due + "; status " + ours.status() + ", due is " + naive.status());
        }
    }

    private void compare(Method method, Object[] arguments) throws Exception {
        Object got = method.invoke(ours, arguments);
        Object due = NaiveGroups.class.getMethod(method.getName(), method.getParameterTypes()).invoke(naive, arguments);
        check(method.getName() + java.util.Arrays.toString(arguments), ((Number) got).longValue(), ((Number) due).longValue());
    }

    private int load(String text) {
        int used = 0;
        for (int i = 0; i < text.length(); i += 20) {
            int[] words = new int[5];
            for (int j = 0; j < 20; j++) {
                int sign = i + j < text.length() ? text.charAt(i + j) : 0;
                words[j / 4] |= sign << 24 - 8 * (j % 4);
            }
            check("feed", ours.feed(words[0], words[1], words[2], words[3], words[4]),
                    naive.feed(words[0], words[1], words[2], words[3], words[4]));
            used++;
        }
        int length = random.nextInt(20) == 0 ? random.nextInt(text.length() + 3) - 1 : Math.min(text.length(), 400);
        check("load(" + length + ") of " + text, ours.load(length), naive.load(length));
        check("fault(0)", ours.fault(0), naive.fault(0));
        check("fault(1)", ours.fault(1), naive.fault(1));
        return used + 3;
    }

    private String blank() {
        return random.nextInt(6) == 0 ? "\n " : " ";
    }

    private String maybeBlank() {
        return random.nextInt(5) == 0 ? blank() : "";
    }

    private String puzzle() {
        int points = random.nextInt(8) == 0 ? 8 + random.nextInt(3) : 2 + random.nextInt(random.nextInt(12) == 0 ? 6 : 5);
        StringBuilder text = new StringBuilder(maybeBlank()).append("points").append(blank()).append(points)
                .append(maybeBlank()).append(";");
        int moves = random.nextInt(points > 7 ? 3 : 5) + random.nextInt(2);
        List<String> names = new ArrayList<>();
        for (int i = 0; i < moves; i++) {
            String name = NAMES[random.nextInt(5)];
            if (names.contains(name)) {
                name = "m" + "qrstuv".charAt(i);
            }
            if (!names.isEmpty() && random.nextInt(4) == 0) {
                text.append("word ").append(name);
                for (int j = random.nextInt(4); j >= 0; j--) {
                    text.append(blank()).append(names.get(random.nextInt(names.size()))).append(maybeBlank())
                            .append(random.nextBoolean() ? "'" : "");
                }
            } else {
                text.append("move").append(blank()).append(name).append(maybeBlank()).append(cycles(points));
            }
            text.append(maybeBlank()).append(";").append(maybeBlank());
            names.add(name);
        }
        return text.toString();
    }

    /** With many points only few kinds of moves, so that NaiveGroups can still list the group. */
    private String cycles(int points) {
        if (points > 7) {
            return new String[] {"(0 1)", "(2 3)(4 5)", "(0 1 2)(3 4 5)", "(6 7)", "(0 2)(1 3)", "(0 4)(1 5)(2 6)(3 7)",
                "(0 1 2 3)(4 5 6 7)", "(5 6 7)"}[random.nextInt(8)];
        }
        List<Integer> order = new ArrayList<>();
        for (int i = 0; i < points; i++) {
            order.add(i);
        }
        java.util.Collections.shuffle(order, random);
        StringBuilder text = new StringBuilder();
        int at = 0;
        do {
            int length = 1 + random.nextInt(points - at);
            text.append("(").append(maybeBlank());
            for (int i = 0; i < length; i++) {
                text.append(i > 0 ? blank() : "").append(random.nextInt(9) == 0 ? "0" : "").append(order.get(at + i));
            }
            text.append(")").append(maybeBlank());
            at += length;
        } while (at < points && random.nextBoolean());
        return text.toString();
    }

    private String spoiled(String text) {
        String[] bits = {"(", ")", "'", ";", " ", "0", "1", "9", "10", "11", "003", "points", "points 4;", "move", "word", "move q (0 1);",
            "word k a;", "a", "b", "\t", "A", "\u00e9", "\u0000", "abcdefghi", "abcdefgh", "move a(0);move b(0);move c(0);move d(0);"};
        String bit = random.nextInt(4) == 0 ? NAMES[random.nextInt(NAMES.length)] : bits[random.nextInt(bits.length)];
        int at = random.nextInt(text.length() + 1);
        int cut = random.nextBoolean() ? 0 : random.nextInt(Math.min(6, text.length() - at + 1));
        String made = text.substring(0, at) + bit + text.substring(at + cut);
        return made.length() > 400 ? made.substring(0, 400) : made;
    }

    private Object[] arguments(Method method) {
        Object[] arguments = new Object[method.getParameterCount()];
        for (int i = 0; i < arguments.length; i++) {
            arguments[i] = method.getParameterTypes()[i] == long.class ? (Object) arrangement() : (Object) number(method.getName());
        }
        return arguments;
    }

    private long arrangement() {
        int points = naive.pointsNow();
        int kind = random.nextInt(12);
        if (kind == 0) {
            return new long[] {-1, 0, 1, 10, 12, 120, 1120, Long.MAX_VALUE, Long.MIN_VALUE, 9876543210L}[random.nextInt(10)];
        }
        if (kind < 7 && points > 0) {
            return naive.nthNow(random.nextInt(naive.sizeNow()));
        }
        if (kind == 7 && points > 0) {
            return naive.standNow();
        }
        List<Integer> order = new ArrayList<>();
        for (int i = 0; i < points; i++) {
            order.add(i);
        }
        java.util.Collections.shuffle(order, random);
        long number = 0;
        for (int digit : order) {
            number = 10 * number + digit;
        }
        return number;
    }

    private int number(String name) {
        int points = naive.pointsNow();
        int moves = naive.movesNow();
        if (random.nextInt(25) == 0) {
            return new int[] {Integer.MIN_VALUE, Integer.MAX_VALUE, -1, -2, 1000, 1001, -1000, -1001, 0, 10, 11, 64}[random.nextInt(12)];
        }
        switch (name) {
            case "by":
            case "meet":
            case "normal":
                return random.nextInt((1 << moves) + 1);
            case "holds":
            case "keeps":
            case "brings":
                return random.nextInt((1 << points) + 1);
            case "step":
            case "turn":
                return random.nextInt(2 * moves + 2) - 1;
            case "nth":
                return random.nextInt(points == 0 ? 2 : naive.sizeNow() + 2);
            case "out":
                return random.nextInt(16) - 1;
            case "power":
                return random.nextInt(41) - 20;
            case "colours":
                return random.nextInt(6);
            default:
                return random.nextInt(7) - 1;
        }
    }
}
