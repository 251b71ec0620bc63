import java.util.ArrayList;
import java.util.HashMap;
import java.util.LinkedHashSet;
import java.util.List;
import java.util.Map;
import java.util.Set;

/**
 * The rules of a formula as the document has them, and a reader for any such rules (Earley's), which shares
 * nothing with the class: a line's beginning can go on just if some rule is still open behind it.
 */
final class Grammar {
    /** A rule with its parts, how many of them are read, and where it began. */
    private record Item(String rule, List<String> parts, int read, int start) {
        String next() {
            return read < parts.size() ? parts.get(read) : null;
        }

        Item further() {
            return new Item(rule, parts, read + 1, start);
        }
    }

    private final Map<String, List<List<String>>> rules = new HashMap<>();

    /** A part of one character stands for itself; rules that may hold brackets bear how many are open. */
    Grammar(int mostOpen) {
        for (int open = 0; open <= mostOpen; open++) {
            String d = String.valueOf(open);
            rule("LOGIC" + d, "COMP" + d, "LOGIC" + d + " & COMP" + d, "LOGIC" + d + " | COMP" + d);
            rule("COMP" + d, "! TERMS" + d, "TERMS" + d);
            for (String sign : "= # < >".split(" ")) {
                rule("COMP" + d, "TERMS" + d + " " + sign + " TERMS" + d);
            }
            rule("TERMS" + d, "PRODUCT" + d, "TERMS" + d + " + PRODUCT" + d, "TERMS" + d + " - PRODUCT" + d);
            rule("PRODUCT" + d, "SIGNED" + d, "PRODUCT" + d + " * SIGNED" + d, "PRODUCT" + d + " / SIGNED" + d);
            rule("SIGNED" + d, "PART" + d, "- PART" + d);
            rule("PART" + d, "NUMERAL", "REFERENCE");
            if (open < mostOpen) {
                bracketRules("PART" + d, "LOGIC" + (open + 1));
            }
        }
        numeralRules();
        referenceRules();
    }

    private void bracketRules(String part, String logic) {
        rule(part, "( " + logic + " )");
        for (String name : "s u m,m i n,m a x,c n t,a v g".split(",")) {
            rule(part, "@ " + name + " ( REFERENCE : REFERENCE )");
        }
        rule(part, "@ a b s ( " + logic + " )", "@ i n t ( " + logic + " )");
        rule(part, "@ i f ( " + logic + " , " + logic + " , " + logic + " )");
    }

    private void numeralRules() {
        for (int before = 1; before <= 9; before++) {
            String whole = "DIGIT ".repeat(before).trim();
            rule("NUMERAL", whole);
            for (int behind = 1; behind <= 4; behind++) {
                rule("NUMERAL", whole + " . " + "DIGIT ".repeat(behind).trim());
            }
        }
        for (char digit = '0'; digit <= '9'; digit++) {
            rule("DIGIT", String.valueOf(digit));
        }
    }

    private void referenceRules() {
        rule("REFERENCE", "LETTER ROW", "$ LETTER ROW", "LETTER $ ROW", "$ LETTER $ ROW");
        for (char letter = 'a'; letter <= 'h'; letter++) {
            rule("LETTER", String.valueOf(letter));
        }
        for (char digit = '1'; digit <= '9'; digit++) {
            rule("ROW", String.valueOf(digit));
        }
        rule("ROW", "1 0");
    }

    private void rule(String name, String... ways) {
        for (String way : ways) {
            rules.computeIfAbsent(name, any -> new ArrayList<>()).add(List.of(way.split(" ")));
        }
    }

    /** -1 for a formula, else what errorAt is due to answer. */
    int refusedAt(String line) {
        List<Set<Item>> sets = new ArrayList<>();
        Set<Item> first = new LinkedHashSet<>();
        for (List<String> way : rules.get("LOGIC0")) {
            first.add(new Item("LOGIC0", way, 0, 0));
        }
        sets.add(first);
        close(sets, 0);
        for (int at = 0; at < line.length(); at++) {
            String c = String.valueOf(line.charAt(at));
            Set<Item> behind = new LinkedHashSet<>();
            for (Item item : sets.get(at)) {
                if (c.equals(item.next())) {
                    behind.add(item.further());
                }
            }
            if (behind.isEmpty()) {
                return at;
            }
            sets.add(behind);
            close(sets, at + 1);
        }
        return isWhole(sets.get(line.length())) ? -1 : line.length();
    }

    private static boolean isWhole(Set<Item> last) {
        return last.stream().anyMatch(item -> item.rule.equals("LOGIC0") && item.start == 0 && item.next() == null);
    }

    private void close(List<Set<Item>> sets, int at) {
        List<Item> waiting = new ArrayList<>(sets.get(at));
        for (int i = 0; i < waiting.size(); i++) {
            Item item = waiting.get(i);
            List<Item> found = new ArrayList<>();
            if (item.next() == null) {
                for (Item outer : new ArrayList<>(sets.get(item.start))) {
                    if (item.rule.equals(outer.next())) {
                        found.add(outer.further());
                    }
                }
            } else if (rules.containsKey(item.next())) {
                for (List<String> way : rules.get(item.next())) {
                    found.add(new Item(item.next(), way, 0, at));
                }
            }
            for (Item one : found) {
                if (sets.get(at).add(one)) {
                    waiting.add(one);
                }
            }
        }
    }
}
