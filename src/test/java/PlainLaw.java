import java.util.ArrayDeque;
import java.util.Deque;

/**
 * THE LAW in other ways than the program's: faults byte by byte with a stack of what is open, values
 * by parting the text at its loosest sign.
 */
final class PlainLaw {
    private PlainLaw() {
    }

    /** The FAULT, or -1. */
    static int fault(String text) {
        // '(' '!' '-' that are open; a comparison made within the same E part is marked by compared
        Deque<Character> open = new ArrayDeque<>();
        Deque<Boolean> outer = new ArrayDeque<>();
        boolean wanted = true;
        boolean compared = false;
        boolean asked = false;
        int digits = 0;
        for (int i = 0; i < text.length(); i++) {
            char c = text.charAt(i);
            boolean digit = c >= '0' && c <= '9';
            if (wanted) {
                if (c == '(' || c == '!' || c == '-') {
                    if (open.size() == 6) {
                        return i;
                    }
                    open.push(c);
                    if (c == '(') {
                        outer.push(compared);
                        compared = false;
                    }
                } else if (digit || "clhvnm".indexOf(c) >= 0) {
                    wanted = false;
                    digits = digit ? 1 : 4;
                    closeSigns(open);
                } else {
                    return i;
                }
                continue;
            }
            if (digit) {
                if (digits == 4) {
                    return i;
                }
                digits++;
                continue;
            }
            digits = 4;
            boolean within = !open.isEmpty();
            if (c == ')' && within) {
                open.pop();
                compared = outer.pop();
                closeSigns(open);
                continue;
            }
            wanted = true;
            if ("<=>".indexOf(c) >= 0) {
                if (compared) {
                    return i;
                }
                compared = true;
            } else if (c == '&' || c == '|') {
                compared = false;
            } else if (c == '?' && !within && !asked) {
                asked = true;
                compared = false;
            } else if (c == ';' && !within) {
                asked = false;
                compared = false;
            } else if ("+-*/%".indexOf(c) < 0) {
                return i;
            }
        }
        return wanted || !open.isEmpty() ? text.length() : -1;
    }

    private static void closeSigns(Deque<Character> open) {
        while (!open.isEmpty() && open.peek() != '(') {
            open.pop();
        }
    }

    static int value(String law, int[] names) {
        for (String line : law.split(";")) {
            int q = line.indexOf('?');
            if (q < 0) {
                return part(line, names);
            }
            if (part(line.substring(0, q), names) != 0) {
                return part(line.substring(q + 1), names);
            }
        }
        return 0;
    }

    private static int part(String e, int[] names) {
        for (String signs : new String[] {"|", "&", "<=>", "+-", "*/%"}) {
            int depth = 0;
            for (int i = e.length() - 1; i > 0; i--) {
                char c = e.charAt(i);
                depth += c == ')' ? 1 : c == '(' ? -1 : 0;
                if (depth == 0 && signs.indexOf(c) >= 0 && endsOperand(e.charAt(i - 1))) {
                    return work(c, part(e.substring(0, i), names), part(e.substring(i + 1), names));
                }
            }
        }
        char c = e.charAt(0);
        if (c == '!') {
            return part(e.substring(1), names) == 0 ? 1 : 0;
        }
        if (c == '-') {
            return -part(e.substring(1), names);
        }
        if (c == '(') {
            return part(e.substring(1, e.length() - 1), names);
        }
        int name = "clhvnm".indexOf(c);
        return name >= 0 ? names[name] : Integer.parseInt(e);
    }

    private static boolean endsOperand(char c) {
        return c == ')' || c >= '0' && c <= '9' || "clhvnm".indexOf(c) >= 0;
    }

    private static int work(char c, int a, int b) {
        switch (c) {
            case '|': return a != 0 || b != 0 ? 1 : 0;
            case '&': return a != 0 && b != 0 ? 1 : 0;
            case '<': return a < b ? 1 : 0;
            case '=': return a == b ? 1 : 0;
            case '>': return a > b ? 1 : 0;
            case '+': return a + b;
            case '-': return a - b;
            case '*': return a * b;
            case '/': return b == 0 ? 0 : a / b;
            default: return b == 0 ? 0 : a % b;
        }
    }
}
