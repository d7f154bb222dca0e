import java.io.PrintWriter;
import java.io.StringWriter;
import java.lang.management.ManagementFactory;
import java.lang.reflect.Field;
import java.lang.reflect.Method;
import java.lang.reflect.Modifier;
import java.nio.file.Files;
import java.nio.file.Path;
import java.util.ArrayList;
import java.util.Arrays;
import java.util.List;
import java.util.Map;
import java.util.Optional;
import java.util.TreeMap;
import java.util.TreeSet;
import java.util.regex.Matcher;
import java.util.regex.Pattern;
import java.util.spi.ToolProvider;

/** What can be seen of LANGUAGE.md without reading: the face, the words that are left out, and the room that runs take. */
public final class RulesTest {
    private static int wrong = 0;

    public static void main(String[] args) throws Exception {
        face();
        members();
        words();
        depths();
        room();
        System.out.println(wrong == 0 ? "the rules hold" : wrong + " rules are broken");
        if (wrong > 0) {
            System.exit(1);
        }
    }

    private static void need(boolean so, String what) {
        if (!so) {
            wrong++;
            System.out.println(what);
        }
    }

    /** The public members are those of the document and no others. */
    private static void face() throws Exception {
        String document = Files.readString(Path.of("../shared/DOC.md"));
        TreeSet<String> due = new TreeSet<>();
        Matcher matcher = Pattern.compile("    public (int|long) (\\w+)\\(([^)]*)\\);").matcher(document);
        while (matcher.find()) {
            List<String> types = new ArrayList<>();
            for (String parameter : matcher.group(3).split(", ")) {
                if (!parameter.isEmpty()) {
                    types.add(parameter.split(" ")[0]);
                }
            }
            due.add(matcher.group(1) + " " + matcher.group(2) + types);
        }
        TreeSet<String> found = new TreeSet<>();
        for (Method method : MoveGroups.class.getDeclaredMethods()) {
            int modifiers = method.getModifiers();
            if (Modifier.isPublic(modifiers)) {
                List<String> types = Arrays.stream(method.getParameterTypes()).map(Class::getName).toList();
                found.add(method.getReturnType().getName() + " " + method.getName() + types);
            } else {
                need(Modifier.isPrivate(modifiers), "neither public nor private: " + method);
            }
        }
        need(due.size() == 60, "the document has another face: " + due.size());
        need(due.equals(found), "the face is not the document's: " + found);
        need(MoveGroups.class.getDeclaredConstructors().length == 1, "one constructor");
        need(Modifier.isFinal(MoveGroups.class.getModifiers()), "the class is not final");
        need(MoveGroups.class.getField("NONE").getInt(null) == -1, "NONE");
        need(MoveGroups.class.getFields().length == 1, "public fields beside NONE");
    }

    private static void members() {
        List<Class<?>> all = new ArrayList<>(List.of(MoveGroups.class));
        all.addAll(List.of(MoveGroups.class.getDeclaredClasses()));
        need(all.size() <= 12, "too many classes");
        TreeSet<String> publicNames = new TreeSet<>();
        for (Method method : MoveGroups.class.getMethods()) {
            publicNames.add(method.getName());
        }
        for (Class<?> one : all) {
            need(one == MoveGroups.class || Modifier.isStatic(one.getModifiers()), one + " is not static");
            int own = 0;
            for (Field field : one.getDeclaredFields()) {
                boolean isStatic = Modifier.isStatic(field.getModifiers());
                need(!isStatic || Modifier.isFinal(field.getModifiers()), field + " is static and not final");
                own += isStatic ? 0 : 1;
            }
            need(own <= 20, one + " has " + own + " fields");
            for (Method method : one.getDeclaredMethods()) {
                need(method.getParameterCount() <= 7, method + " takes too many");
                need(Modifier.isPublic(method.getModifiers()) || !publicNames.contains(method.getName()),
                        method + " bears the name of a public one");
            }
        }
    }

    private static void words() throws Exception {
        String source = Files.readString(Path.of("src/main/java/MoveGroups.java"));
        String code = source.replaceAll("(?s)/\\*.*?\\*/", "").replaceAll("//[^\n]*", "").replaceAll("\"[^\"]*\"", "\"\"");
        for (String word : List.of("throw", "throws", "try", "catch", "finally", "synchronized", "assert", "import", "package",
                "native", "volatile", "transient", "Object", "Random", "Thread", "protected", "instanceof", "hashCode")) {
            need(!Pattern.compile("\\b" + word + "\\b").matcher(code).find(), "the source says " + word);
        }
        for (String sign : List.of("->", "::", "Exact", "@")) {
            need(!code.contains(sign), "the source has " + sign);
        }
        need(!Pattern.compile("System\\.(?!arraycopy)").matcher(code).find(), "System beside arraycopy");
        need(source.chars().allMatch(sign -> sign == 10 || sign >= 32 && sign < 127), "signs beyond 127");
        int length = 0;
        for (String line : source.split("\n")) {
            boolean isHead = line.matches(" {4,8}(public|private|static|boolean|int|long|void|Roster|Descent)[^=;]*\\{");
            length = isHead ? 0 : length + 1;
            need(length < 60 || !line.matches(" {4,8}\\}"), "a method is too long, its end: " + line);
        }
    }

    /** Rule 11: calls go at most eight deep; and none calls itself, by whatever way. */
    private static void depths() {
        Optional<ToolProvider> reader = ToolProvider.findFirst("javap");
        if (reader.isEmpty()) {
            System.out.println("calls were not followed: this machine has no javap");
            return;
        }
        List<String> arguments = new ArrayList<>(List.of("-c", "-p", "-cp", System.getProperty("java.class.path"), "MoveGroups"));
        for (Class<?> inside : MoveGroups.class.getDeclaredClasses()) {
            arguments.add(inside.getName());
        }
        StringWriter told = new StringWriter();
        PrintWriter lines = new PrintWriter(told);
        int rc = reader.get().run(lines, lines, arguments.toArray(new String[0]));
        lines.flush();
        Map<String, TreeSet<String>> calls = callsOf(told.toString());
        need(rc == 0 && calls.size() > 100, "the class files were not read: " + calls.size() + " methods");
        int most = 0;
        for (String method : calls.keySet()) {
            most = Math.max(most, depth(method, calls, 1));
        }
        need(most <= 8, "calls go " + most + " deep");
    }

    /** Of each method, by class and name, the methods that it calls; the library's have no calls of their own here. */
    private static Map<String, TreeSet<String>> callsOf(String told) {
        Pattern classHead = Pattern.compile("^\\S.*\\bclass (\\S+).*\\{$");
        Pattern methodHead = Pattern.compile("^  \\S.*?([\\w$]+)\\(.*\\);$");
        Pattern call = Pattern.compile("// Method ([^:]+):");
        Map<String, TreeSet<String>> calls = new TreeMap<>();
        String owner = "";
        TreeSet<String> own = new TreeSet<>();
        for (String line : told.split("\n")) {
            Matcher head = classHead.matcher(line);
            Matcher method = methodHead.matcher(line);
            Matcher called = call.matcher(line);
            if (head.matches()) {
                owner = head.group(1);
            } else if (method.matches()) {
                String name = method.group(1).equals(owner) ? "<init>" : method.group(1);
                own = calls.computeIfAbsent(owner + "." + name, ignored -> new TreeSet<>());
            } else if (called.find()) {
                String target = called.group(1).replace("\"", "");
                own.add(target.contains(".") ? target : owner + "." + target);
            }
        }
        return calls;
    }

    private static int depth(String method, Map<String, TreeSet<String>> calls, int above) {
        int most = 1;
        // beyond twenty it is a ring, and more than eight by far
        if (above < 20) {
            for (String called : calls.getOrDefault(method, new TreeSet<>())) {
                most = Math.max(most, 1 + depth(called, calls, above + 1));
            }
        }
        return most;
    }

    private static void feed(MoveGroups x, String text) {
        for (int i = 0; i < text.length(); i += 20) {
            int[] words = new int[5];
            for (int j = 0; j < 20 && i + j < text.length(); j++) {
                words[j / 4] |= text.charAt(i + j) << 24 - 8 * (j % 4);
            }
            x.feed(words[0], words[1], words[2], words[3], words[4]);
        }
    }

    /** 512 dear calls: of the room of a run, 7.3 million elements, they may take a small part (an element has a byte at the least). */
    private static void room() {
        com.sun.management.ThreadMXBean counter = (com.sun.management.ThreadMXBean) ManagementFactory.getThreadMXBean();
        long self = Thread.currentThread().getId();
        counter.getThreadAllocatedBytes(self);
        String text = "points 7;move a (0 1 2 3 4 5 6);move b (0 1 2);move c (0 1);word d a b';word e a b c;";
        long before = counter.getThreadAllocatedBytes(self);
        MoveGroups x = new MoveGroups();
        long made = counter.getThreadAllocatedBytes(self) - before;
        feed(x, text);
        x.load(text.length());
        before = counter.getThreadAllocatedBytes(self);
        for (int i = 0; i < 20; i++) {
            long some = x.nth(251 * i);
            long answers = x.add(some) + x.way(some, -1) + x.classes() + x.derived(2) + x.central(2) + x.fewest()
                    + x.meet(31, 62) + x.colours(3) + x.ofOrder(6) + x.root(some, 7) + x.keeps(3) + x.holds(5)
                    + x.has(3) + x.normal(33) + x.drop(0) + x.print(some) + x.deepest(1) + x.undo() + x.drop(5) + x.alike(some);
            need(answers > 0, "no answers");
        }
        long bytes = counter.getThreadAllocatedBytes(self) - before;
        System.out.println("a new object takes " + made + " bytes, 400 dear calls take " + bytes);
        need(made < 100_000, "a new object takes much room");
        need(bytes < 2_000_000, "the calls take much room");
    }
}
