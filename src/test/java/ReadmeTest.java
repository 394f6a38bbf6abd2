import java.lang.reflect.Field;
import java.lang.reflect.Method;
import java.lang.reflect.Modifier;
import java.nio.file.Files;
import java.nio.file.Path;
import java.util.HashMap;
import java.util.List;
import java.util.Map;
import java.util.Set;
import java.util.TreeSet;
import java.util.regex.Matcher;
import java.util.regex.Pattern;

/** README.md: its examples answer what is written beside them, its tables name each method and its refusals. */
public final class ReadmeTest {
    private static final Pattern CALL = Pattern.compile("(?:(?:int|long) (\\w+) = )?pocket\\.(\\w+)\\((.*)\\);\\s*// ([-.\\w]+).*");
    private static final Pattern FEED = Pattern.compile("feed\\(pocket, \"([^\"]*)\"\\);");
    private static final Pattern NEW = Pattern.compile("CordPocket pocket = new CordPocket\\(\\);");
    private static final Pattern ROW = Pattern.compile("\\| `(\\w+)\\(([^)]*)\\)` \\| (.*) \\|");
    private static final Pattern CODE = Pattern.compile("\\b(?:BAD|NOT|FULL|BIG|STATE|VOID|FAULT)\\b|-1[1-4]\\b");

    private static final Map<String, Long> names = new HashMap<>();
    private static int passed, failed;
    private static CordPocket pocket;

    public static void main(String[] args) throws Exception {
        List<String> page = Files.readAllLines(Path.of(args.length > 0 ? args[0] : "README.md"));
        String document = Files.readString(Path.of("../shared/DOC.md"));
        examples(page);
        tables(page, document);
        constants(page);
        System.out.println("ReadmeTest: " + passed + " passed, " + failed + " failed");
        if (failed != 0) System.exit(1);
    }

    private static void must(boolean holds, String what) {
        if (holds) {
            passed++;
            return;
        }
        failed++;
        System.out.println("README: " + what);
    }

    private static void examples(List<String> page) throws Exception {
        boolean inside = false;
        int blocks = 0;
        for (String line : page) {
            if (line.equals("```java")) blocks++;
            if (line.startsWith("```")) inside = line.equals("```java");
            else if (inside) example(line);
        }
        must(blocks >= 6, "there are examples");
    }

    /** One line of an example; the helper that feeds a text is done by feed below. */
    private static void example(String line) throws Exception {
        Matcher call = CALL.matcher(line), feed = FEED.matcher(line);
        if (NEW.matcher(line).matches()) begin();
        else if (feed.matches()) feed(feed.group(1));
        else if (call.matches()) answers(line, call);
        else must(isOfHelper(line), "not understood: " + line);
    }

    private static boolean isOfHelper(String line) {
        return List.of("static void feed(CordPocket pocket, String text) {",
            "    for (int i = 0; i < text.length(); i++) pocket.feed(1, text.charAt(i));", "}").contains(line);
    }

    private static void begin() throws Exception {
        pocket = new CordPocket();
        names.clear();
        for (Field f : CordPocket.class.getFields()) names.put(f.getName(), (long) f.getInt(null));
        names.put("Long.MIN_VALUE", Long.MIN_VALUE);
    }

    private static void feed(String text) {
        for (int i = 0; i < text.length(); i++) pocket.feed(1, text.charAt(i));
    }

    private static void answers(String line, Matcher call) throws Exception {
        Method method = method(call.group(2));
        String[] told = call.group(3).isEmpty() ? new String[0] : call.group(3).split(",");
        must(told.length == method.getParameterCount(), "so many arguments: " + line);
        Object[] args = new Object[told.length];
        for (int i = 0; i < args.length; i++) {
            long value = value(told[i]);
            if (method.getParameterTypes()[i] == long.class) args[i] = value;
            else args[i] = (int) value;
        }
        long got = ((Number) method.invoke(pocket, args)).longValue();
        must(got == value(call.group(4)), line + " (it answers " + got + ")");
        if (call.group(1) != null) names.put(call.group(1), got);
    }

    private static Method method(String name) {
        for (Method m : CordPocket.class.getDeclaredMethods()) {
            if (m.getName().equals(name) && Modifier.isPublic(m.getModifiers())) return m;
        }
        throw new IllegalArgumentException("README: no method " + name);
    }

    /** A number, a character, a name, or such ones with << and | between them. */
    private static long value(String told) {
        String text = told.trim();
        int or = text.lastIndexOf('|'), shift = text.indexOf("<<");
        if (or >= 0) return value(text.substring(0, or)) | value(text.substring(or + 1));
        if (shift >= 0) return value(text.substring(0, shift)) << value(text.substring(shift + 2));
        if (text.startsWith("'")) return text.charAt(1);
        return names.containsKey(text) ? names.get(text) : Long.parseLong(text);
    }

    private static void tables(List<String> page, String document) {
        Set<String> told = new TreeSet<>();
        boolean inside = false;
        for (String line : page) {
            Matcher row = ROW.matcher(line);
            if (inside && row.matches()) row(row, document, told);
            inside = line.equals("| Call | Answer | Refused |") || inside && line.startsWith("|");
        }
        for (Method m : CordPocket.class.getDeclaredMethods()) {
            if (Modifier.isPublic(m.getModifiers())) must(told.contains(m.getName()), m.getName() + " is in a table");
        }
    }

    private static void row(Matcher row, String document, Set<String> told) {
        String name = row.group(1);
        String promise = promise(document, name);
        must(told.add(name), name + " is told once");
        must(promise.contains(name + "(" + row.group(2) + ")"), name + " has the document's arguments");
        must(codes(row.group(3)).equals(codes(promise)), name + " is refused by " + codes(promise) + ", not " + codes(row.group(3)));
    }

    /** What the document promises of a method, its arguments without their types. */
    private static String promise(String document, String name) {
        Matcher section = Pattern.compile("(?s)## Promise \\d+: " + name + "\n(.*?)(?=\n## )").matcher(document);
        return section.find() ? section.group(1).replaceAll("\\b(int|long) ", "") : "";
    }

    private static Set<String> codes(String text) {
        Set<String> codes = new TreeSet<>();
        Matcher code = CODE.matcher(text.replace("-11 to -13", "-11, -12, -13"));
        while (code.find()) codes.add(code.group());
        return codes;
    }

    private static void constants(List<String> page) throws Exception {
        for (Field f : CordPocket.class.getFields()) {
            String begins = "| " + f.getInt(null) + " | `" + f.getName() + "` |";
            must(page.stream().anyMatch(line -> line.startsWith(begins)), f.getName() + " is told with its number");
        }
    }

    private ReadmeTest() { }
}
