import java.util.ArrayList;
import java.util.HashMap;
import java.util.List;
import java.util.Map;

/** A text, read by what may follow what (with no recursion) and worked out by cutting it at its loosest sign. */
final class NaiveText {
    int fault = -1;
    int key = -1;
    int pieces = 0;
    private final List<String> words = new ArrayList<>();
    private final List<Integer> starts = new ArrayList<>();

    NaiveText(List<Integer> tape) {
        StringBuilder bytes = new StringBuilder();
        for (int b : tape) {
            bytes.append((char) b);
        }
        cut(bytes.toString());
        fault = firstFault(bytes.toString());
        if (fault < 0) {
            words.remove(0);
        }
    }

    private void cut(String s) {
        java.util.regex.Matcher m = java.util.regex.Pattern.compile("[a-z]+|[0-9]+|[^ ]", java.util.regex.Pattern.DOTALL).matcher(s);
        while (m.find()) {
            words.add(m.group());
            starts.add(m.start());
        }
    }

    private int firstFault(String s) {
        if (words.isEmpty()) {
            return s.length();
        }
        key = List.of("may", "cost", "wait").indexOf(words.get(0));
        if (key < 0) {
            return starts.get(0);
        }
        String names = new String[] {"krod", "rom", "rod"}[key];
        // what stands open: ( and !, and for each ( whether a test was seen since the last & or |
        List<String> open = new ArrayList<>();
        List<Boolean> tested = new ArrayList<>();
        tested.add(false);
        boolean wantsPiece = true;
        for (int k = 1; k < words.size(); k++) {
            String w = words.get(k);
            boolean glued = w.matches("[a-z]+|[0-9]+") && s.charAt(starts.get(k) - 1) != ' '
                && words.get(k - 1).matches("[a-z]+|[0-9]+");
            boolean fine;
            if (wantsPiece) {
                if (w.equals("(") || w.equals("!")) {
                    open.add(w);
                    fine = java.util.Collections.frequency(open, w) <= 8;
                    if (w.equals("(")) {
                        tested.add(false);
                    }
                } else {
                    fine = !glued && (w.matches("[0-9]{1,4}") || w.length() == 1 && names.contains(w));
                    pieces++;
                    wantsPiece = false;
                    closeNots(open);
                }
            } else if (w.equals(")")) {
                fine = open.contains("(");
                if (fine) {
                    open.remove(open.size() - 1);
                    tested.remove(tested.size() - 1);
                    closeNots(open);
                }
            } else {
                int last = tested.size() - 1;
                fine = w.matches("[-+*/|&]") || w.matches("[<=>]") && !tested.get(last);
                tested.set(last, w.matches("[<=>]") || !w.matches("[|&]") && tested.get(last));
                wantsPiece = true;
            }
            if (!fine) {
                return starts.get(k);
            }
        }
        return wantsPiece || open.contains("(") ? s.length() : -1;
    }

    private static void closeNots(List<String> open) {
        while (!open.isEmpty() && open.get(open.size() - 1).equals("!")) {
            open.remove(open.size() - 1);
        }
    }

    int worth(Object... names) {
        Map<String, Integer> values = new HashMap<>();
        for (int k = 0; k < names.length; k += 2) {
            values.put((String) names[k], (Integer) names[k + 1]);
        }
        return worth(0, words.size(), values);
    }

    private int worth(int from, int to, Map<String, Integer> values) {
        for (String signs : new String[] {"|", "&", "<=>", "+-", "*/"}) {
            int depth = 0;
            for (int k = to - 1; k >= from; k--) {
                String w = words.get(k);
                depth += w.equals(")") ? 1 : w.equals("(") ? -1 : 0;
                if (depth == 0 && signs.contains(w)) {
                    return join(w, worth(from, k, values), worth(k + 1, to, values));
                }
            }
        }
        String first = words.get(from);
        if (first.equals("!")) {
            return worth(from + 1, to, values) == 0 ? 1 : 0;
        }
        if (first.equals("(")) {
            return worth(from + 1, to - 1, values);
        }
        return values.containsKey(first) ? values.get(first) : Integer.parseInt(first);
    }

    private static int join(String w, int a, int b) {
        switch (w) {
            case "|": return a != 0 | b != 0 ? 1 : 0;
            case "&": return a != 0 & b != 0 ? 1 : 0;
            case "<": return a < b ? 1 : 0;
            case "=": return a == b ? 1 : 0;
            case ">": return a > b ? 1 : 0;
            case "+": return a + b;
            case "-": return a - b;
            case "*": return a * b;
            default: return b == 0 ? 0 : (int) ((long) a / b);
        }
    }
}
