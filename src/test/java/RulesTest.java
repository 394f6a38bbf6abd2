import java.lang.management.ManagementFactory;
import java.lang.reflect.Constructor;
import java.lang.reflect.Field;
import java.lang.reflect.Method;
import java.lang.reflect.Modifier;
import java.nio.file.Files;
import java.nio.file.Path;
import java.util.ArrayList;
import java.util.List;
import java.util.Set;
import java.util.TreeSet;
import java.util.function.Consumer;
import java.util.regex.Matcher;
import java.util.regex.Pattern;

/** What can be seen of LANGUAGE.md's rules: the face, words that may not stand, lengths, and memory that calls take. */
public final class RulesTest {
    private static final String[] FACE = {
        "int feed(int,int)", "int picture()", "int fromRow(int,int,int)", "int plait(int)", "int of(int,int)",
        "int led(int,int,int)", "int sum(int,int)", "int alike(int)", "int mirror(int)", "int turn(int)", "int join(int)",
        "int change(int,int)", "int pulls(int,int)", "int moves(int,int)", "int simpler(int,int)", "int simplify(int)",
        "int parted(int,int)", "int hidden(int,int,int)", "int lots(int,int)", "int law()", "int shake(int,int,int,int)",
        "int least(int,int,int,int)", "int undo()", "int redo()", "int body(int)", "int act(int,int,int)", "int trace(int)",
        "int keep(int,int)", "int row(int,int,int)", "int put(int,int,long)", "long element(int,int)",
        "int shift(int,int,int,int,int)", "int taken(int,int)", "int count(int)"};

    private static int passed, failed;

    public static void main(String[] args) throws Exception {
        String source = Files.readString(Path.of(args.length > 0 ? args[0] : "src/main/java/CordPocket.java"));
        face();
        String code = source.replaceAll("(?s)/\\*.*?\\*/", "").replaceAll("//[^\n]*", "").replaceAll("'(\\\\.|[^'])'", "' '");
        words(code);
        lengths(code);
        memory();
        System.out.println("RulesTest: " + passed + " passed, " + failed + " failed");
        if (failed != 0) System.exit(1);
    }

    private static void must(boolean holds, String what) {
        if (holds) {
            passed++;
            return;
        }
        failed++;
        System.out.println("rule: " + what);
    }

    private static String signature(Method m) {
        List<String> types = new ArrayList<>();
        for (Class<?> t : m.getParameterTypes()) types.add(t.getName());
        return m.getReturnType().getName() + " " + m.getName() + "(" + String.join(",", types) + ")";
    }

    private static void face() {
        Class<?> c = CordPocket.class;
        must(Modifier.isPublic(c.getModifiers()) && Modifier.isFinal(c.getModifiers()), "the class is public and final");
        Set<String> found = new TreeSet<>(), names = new TreeSet<>();
        for (Method m : c.getDeclaredMethods()) {
            if (!Modifier.isPrivate(m.getModifiers())) {
                found.add(signature(m));
                names.add(m.getName());
                must(Modifier.isPublic(m.getModifiers()) && !Modifier.isStatic(m.getModifiers()), m + " is of the face");
            }
        }
        must(found.equals(new TreeSet<>(List.of(FACE))), "the methods are the document's: " + found);
        for (Constructor<?> made : c.getDeclaredConstructors()) {
            must(Modifier.isPublic(made.getModifiers()) && made.getParameterCount() == 0, "one public constructor");
        }
        Set<String> fields = new TreeSet<>();
        for (Field f : c.getDeclaredFields()) if (!Modifier.isPrivate(f.getModifiers())) fields.add(f.getName());
        must(fields.equals(Set.of("BAD", "NOT", "FULL", "BIG", "STATE", "VOID")), "the constants are the document's: " + fields);
        must(c.getDeclaredClasses().length <= 11, "some twelve classes");
        List<Class<?>> all = new ArrayList<>(List.of(c.getDeclaredClasses()));
        for (Class<?> inside : all) {
            must(Modifier.isStatic(inside.getModifiers()) && !Modifier.isPublic(inside.getModifiers()), inside + " is static, not public");
            for (Method m : inside.getDeclaredMethods()) must(!names.contains(m.getName()), m + " bears a public name");
        }
        for (Method m : c.getDeclaredMethods()) {
            if (Modifier.isPrivate(m.getModifiers())) must(!names.contains(m.getName()), m + " bears a public name");
        }
        all.add(c);
        for (Class<?> each : all) {
            int own = 0;
            for (Field f : each.getDeclaredFields()) {
                if (!Modifier.isStatic(f.getModifiers())) own++;
                else must(Modifier.isFinal(f.getModifiers()), f + " is final");
            }
            must(own <= 20, each + " has some twenty fields");
            for (Method m : each.getDeclaredMethods()) must(m.getParameterCount() <= 7, m + " takes at most seven");
        }
    }

    private static void words(String code) {
        String[] none = {"throw", "throws", "try", "catch", "finally", "synchronized", "assert", "native", "volatile",
            "transient", "strictfp", "hashCode", "Exception", "Error", "Object", "System.out", "System.err", "currentTimeMillis",
            "nanoTime", "Random", "Thread", "var", "Exact"};
        for (String word : none) must(!Pattern.compile("\\b" + Pattern.quote(word) + "\\b").matcher(code).find(), "no " + word);
        must(!code.contains("->") && !code.contains("::"), "no lambda, no method reference");
        must(!Pattern.compile("\\bpackage\\b").matcher(code).find(), "no package line");
        must(!Pattern.compile("static\\s*\\{").matcher(code).find(), "no static initialiser");
        Matcher library = Pattern.compile("\\b(System|Arrays|Math|Integer|Long)\\.(\\w+)").matcher(code);
        Set<String> known = Set.of("System.arraycopy", "Arrays.fill", "Math.abs", "Math.min", "Math.max", "Integer.bitCount");
        while (library.find()) must(known.contains(library.group()), library.group() + " is in the list");
        Matcher imports = Pattern.compile("import ([\\w.]+);").matcher(code);
        while (imports.find()) must(imports.group(1).equals("java.util.Arrays"), imports.group());
        Matcher making = Pattern.compile("\\bnew\\b").matcher(code);
        while (making.find()) must(isInField(code, making.start()), "memory is taken ahead of all calls, not here: " + lineOf(code, making.start()));
    }

    private static String lineOf(String code, int at) {
        return code.substring(code.lastIndexOf('\n', at) + 1, code.indexOf('\n', at)).trim();
    }

    private static boolean isInField(String code, int at) {
        String line = lineOf(code, at);
        return line.contains("final ") || line.contains("pictures[i] = ") || line.contains("shelves[i] = ");
    }

    /** Methods are those that begin a line with a name and ( ) {, by the indentation of the file. */
    private static void lengths(String code) {
        String[] lines = code.split("\n");
        for (int i = 0; i < lines.length; i++) {
            Matcher m = Pattern.compile("^( +)[\\w<>\\[\\] ]+\\([^)]*\\) \\{$").matcher(lines[i]);
            if (!m.find()) continue;
            int end = i;
            while (!lines[end].equals(m.group(1) + "}")) end++;
            must(end - i < 60, "a method is short: " + lines[i].trim());
        }
    }

    private static void feed(CordPocket x, String text) {
        for (int k = 0; k < text.length(); k++) x.feed(1, text.charAt(k));
    }

    /** Every call works in what its object has: none takes memory. */
    private static void memory() {
        if (!(ManagementFactory.getThreadMXBean() instanceof com.sun.management.ThreadMXBean threads)) return;
        List<Consumer<CordPocket>> calls = List.of(
            x -> feed(x, "o1+u2+o3+u1o2u3"), CordPocket::picture, x -> feed(x, "aaAaaaa"), x -> x.plait(2), x -> x.plait(2),
            x -> x.row(0, 0, 6), x -> x.put(0, 0, 11), x -> x.put(0, 1, 10), x -> x.element(0, 0), x -> x.fromRow(0, 0, 1),
            x -> x.shift(0, 0, 0, 1, 5), x -> x.mirror(0), x -> x.turn(1), x -> x.join(2), x -> x.change(1, 2), x -> x.undo(),
            x -> x.redo(), x -> x.of(1, 5), x -> x.of(1, 6), x -> x.of(1, 2), x -> x.led(1, 1, 2), x -> x.sum(1, 4),
            x -> x.alike(1), x -> x.pulls(1, 1), x -> x.moves(1, 1), x -> x.simpler(1, 1), x -> x.parted(1, 1),
            x -> x.hidden(1, 127, 0), x -> x.hidden(1, 127, 1), x -> x.lots(36, 0), x -> feed(x, "n>5?n%7+z/9;!(b|s)&m<3"),
            CordPocket::law, x -> x.shake(1234, 53, 7, 500), x -> x.least(5, 34, 3, 5), x -> x.simplify(1), x -> x.body(7),
            x -> x.act(0, 3, 5), x -> x.trace(0), x -> x.keep(1, 0), x -> x.taken(1, 2), x -> x.count(4));
        CordPocket warm = new CordPocket();
        for (Consumer<CordPocket> call : calls) call.accept(warm);
        CordPocket x = new CordPocket();
        long[] taken = new long[calls.size() + 1];
        taken[0] = threads.getThreadAllocatedBytes(Thread.currentThread().getId());
        for (int i = 0; i < calls.size(); i++) {
            calls.get(i).accept(x);
            taken[i + 1] = threads.getThreadAllocatedBytes(Thread.currentThread().getId());
        }
        for (int i = 0; i < calls.size(); i++) must(taken[i + 1] - taken[i] == 0, "call " + i + " takes " + (taken[i + 1] - taken[i]) + " bytes");
        long before = threads.getThreadAllocatedBytes(Thread.currentThread().getId());
        new CordPocket();
        long object = threads.getThreadAllocatedBytes(Thread.currentThread().getId()) - before;
        must(object < 100_000, "a new object is small: " + object + " bytes");
    }

    private RulesTest() { }
}
