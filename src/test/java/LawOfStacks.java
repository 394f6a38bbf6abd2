import java.util.ArrayDeque;
import java.util.ArrayList;
import java.util.Deque;
import java.util.List;
import java.util.Map;

/** Laws read byte by byte with a stack of what is open, and worked out by two stacks. */
final class LawOfStacks {
    /** What is open at one depth of ( ): whether a comparing has been, and signs ahead of the next O. */
    private static final class Level {
        boolean compared;
        int signs;
    }

    /** The place of the fault, or -1. */
    static int fault(String text) {
        Deque<Level> levels = new ArrayDeque<>();
        levels.push(new Level());
        boolean asked = false, wanted = true;
        int digits = 0;
        for (int k = 0; k < text.length(); k++) {
            char c = text.charAt(k);
            Level level = levels.peek();
            if (wanted) {
                int open = levels.size() - 1;
                for (Level l : levels) open += l.signs;
                if (c >= '0' && c <= '9') { digits = 1; wanted = false; level.signs = 0; }
                else if ("nbszm".indexOf(c) >= 0) { digits = 4; wanted = false; level.signs = 0; }
                else if ("(!-".indexOf(c) < 0 || open == 6) return k;
                else if (c == '(') levels.push(new Level());
                else level.signs++;
            } else if (c >= '0' && c <= '9') {
                if (++digits > 4) return k;
            } else if ("+-*/%".indexOf(c) >= 0) {
                wanted = true;
            } else if ("<=>".indexOf(c) >= 0) {
                if (level.compared) return k;
                level.compared = wanted = true;
            } else if ("&|".indexOf(c) >= 0) {
                level.compared = false;
                wanted = true;
            } else if (c == ')') {
                if (levels.size() == 1) return k;
                levels.pop();
                levels.peek().signs = 0;
                digits = 4;
            } else if (c == '?' || c == ';') {
                if (levels.size() > 1 || c == '?' && asked) return k;
                asked = c == '?';
                level.compared = false;
                wanted = true;
            } else {
                return k;
            }
        }
        return wanted || levels.size() > 1 ? text.length() : -1;
    }

    static int value(String text, Map<Character, Integer> names) {
        for (String line : text.split(";")) {
            String[] parts = line.split("\\?");
            if (parts.length == 1) return worth(line, names);
            if (worth(parts[0], names) != 0) return worth(parts[1], names);
        }
        return 0;
    }

    private static int rank(char op) {
        switch (op) {
            case '|': return 1;
            case '&': return 2;
            case '<': case '=': case '>': return 3;
            case '+': case '-': return 4;
            case '*': case '/': case '%': return 5;
            case '!': case '~': return 6;
            default: return 0;
        }
    }

    private static int worth(String text, Map<Character, Integer> names) {
        List<Integer> values = new ArrayList<>();
        Deque<Character> ops = new ArrayDeque<>();
        boolean wanted = true;
        for (int k = 0; k < text.length(); k++) {
            char c = text.charAt(k);
            if (Character.isDigit(c)) {
                int from = k;
                while (k + 1 < text.length() && Character.isDigit(text.charAt(k + 1))) k++;
                values.add(Integer.parseInt(text.substring(from, k + 1)));
                wanted = false;
            } else if (names.containsKey(c)) {
                values.add(names.get(c));
                wanted = false;
            } else if (c == '(') {
                ops.push(c);
                wanted = true;
            } else if (c == ')') {
                while (ops.peek() != '(') apply(values, ops.pop());
                ops.pop();
                wanted = false;
            } else if (wanted) {
                ops.push(c == '-' ? '~' : c);
            } else {
                while (!ops.isEmpty() && rank(ops.peek()) >= rank(c)) apply(values, ops.pop());
                ops.push(c);
                wanted = true;
            }
        }
        while (!ops.isEmpty()) apply(values, ops.pop());
        return values.get(0);
    }

    private static void apply(List<Integer> values, char op) {
        int b = values.remove(values.size() - 1);
        if (op == '!' || op == '~') {
            values.add(op == '~' ? -b : b == 0 ? 1 : 0);
            return;
        }
        int a = values.remove(values.size() - 1);
        switch (op) {
            case '|': values.add((a | b) != 0 ? 1 : 0); break;
            case '&': values.add(a != 0 && b != 0 ? 1 : 0); break;
            case '<': values.add(a < b ? 1 : 0); break;
            case '=': values.add(a == b ? 1 : 0); break;
            case '>': values.add(a > b ? 1 : 0); break;
            case '+': values.add(a + b); break;
            case '-': values.add(a - b); break;
            case '*': values.add(a * b); break;
            case '/': values.add(b == 0 ? 0 : (int) ((long) a / b)); break;
            default: values.add(b == 0 ? 0 : (int) ((long) a % b)); break;
        }
    }

    private LawOfStacks() { }
}
