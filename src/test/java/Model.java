import java.util.ArrayList;
import java.util.HashMap;
import java.util.HashSet;
import java.util.LinkedHashSet;
import java.util.List;
import java.util.Map;
import java.util.Set;

/**
 * The document's sheet once more, in the slowest and plainest way and by other means than the class: lines
 * are cut at their last sign, brackets are left out where the line reads the same without, values are
 * worked out from scratch, and circles are found by walking.
 */
final class Model {
    private static final double LIMIT = 1L << 50;
    // Texts may have more brackets on the way to the fewest.
    private static final Grammar ROOMY = new Grammar(16);
    private static final Map<String, Boolean> READABLE = new HashMap<>();

    static final class Bad extends Exception {
        private static final long serialVersionUID = 1L;
    }

    /** what: a sign, a name, "number" with its text, or "ref"; a range's name has two refs. */
    static final class Node {
        final String what;
        final List<Node> kids = new ArrayList<>();
        String number = "";
        int column;
        int row;
        boolean columnFixed;
        boolean rowFixed;
        boolean lost;

        Node(String what, Node... kids) {
            this.what = what;
            this.kids.addAll(List.of(kids));
        }

        boolean isRange() {
            return kids.size() == 2 && what.length() == 3;
        }

        boolean isLostRange() {
            return kids.get(0).lost || kids.get(1).lost;
        }

        String shape() {
            return what + number + column + "," + row + columnFixed + rowFixed + lost
                + kids.stream().map(Node::shape).toList();
        }

        Node copied(int columns, int rows) {
            Node other = new Node(what);
            kids.forEach(kid -> other.kids.add(kid.copied(columns, rows)));
            other.number = number;
            other.columnFixed = columnFixed;
            other.rowFixed = rowFixed;
            if (what.equals("ref")) {
                other.column = columnFixed || lost ? column : column + columns;
                other.row = rowFixed || lost ? row : row + rows;
                other.setLost(lost || other.column < 0 || other.column > 7 || other.row < 0 || other.row > 9);
            }
            return other;
        }

        void setLost(boolean isLost) {
            lost = isLost;
            if (isLost) {
                column = 0;
                row = 0;
                columnFixed = false;
                rowFixed = false;
            }
        }

        void gather(String kind, List<Node> into) {
            if (what.equals(kind) || kind.equals("range") && isRange()) {
                into.add(this);
            }
            kids.forEach(kid -> kid.gather(kind, into));
        }

        List<Node> all(String kind) {
            List<Node> found = new ArrayList<>();
            gather(kind, found);
            return found;
        }
    }

    final Object[][] cells = new Object[8][10];

    // ---- taking apart

    static Node parse(String s) {
        int at = lastSign(s, "&|");
        if (at < 0 && s.startsWith("!")) {
            return new Node("!", parse(s.substring(1)));
        }
        for (String signs : new String[] {"=#<>", "+-", "*/"}) {
            at = at < 0 ? lastSign(s, signs) : at;
        }
        if (at >= 0) {
            return new Node(s.substring(at, at + 1), parse(s.substring(0, at)), parse(s.substring(at + 1)));
        }
        if (s.startsWith("-")) {
            return new Node("neg", parse(s.substring(1)));
        }
        if (s.startsWith("(")) {
            return parse(s.substring(1, s.length() - 1));
        }
        return s.startsWith("@") ? parseCall(s) : parseLeaf(s);
    }

    /** The last of these signs that stands between two parts and in no bracket. */
    private static int lastSign(String s, String signs) {
        int open = 0;
        for (int i = s.length() - 1; i > 0; i--) {
            char c = s.charAt(i);
            open += c == ')' ? 1 : c == '(' ? -1 : 0;
            boolean between = "+-*/=#<>&|!(,".indexOf(s.charAt(i - 1)) < 0;
            if (open == 0 && between && signs.indexOf(c) >= 0) {
                return i;
            }
        }
        return -1;
    }

    private static Node parseCall(String s) {
        int bracket = s.indexOf('(');
        Node call = new Node(s.substring(1, bracket));
        int open = 0;
        int start = bracket + 1;
        for (int i = start; i < s.length(); i++) {
            char c = s.charAt(i);
            if (open == 0 && ",:)".indexOf(c) >= 0) {
                call.kids.add(parse(s.substring(start, i)));
                start = i + 1;
            }
            open += c == '(' ? 1 : c == ')' ? -1 : 0;
        }
        return call;
    }

    private static Node parseLeaf(String s) {
        if (Character.isDigit(s.charAt(0))) {
            Node number = new Node("number");
            number.number = s.replaceFirst("^0+(?=[0-9])", "");
            return number;
        }
        Node ref = new Node("ref");
        if (s.equals("~")) {
            ref.setLost(true);
            return ref;
        }
        ref.columnFixed = s.startsWith("$");
        ref.rowFixed = s.indexOf('$', 1) > 0;
        String bare = s.replace("$", "");
        ref.column = bare.charAt(0) - 'a';
        ref.row = Integer.parseInt(bare.substring(1)) - 1;
        return ref;
    }

    // ---- writing out

    static String write(Node node) {
        boolean[] bracketed = new boolean[node.kids.size()];
        boolean isCall = node.what.length() > 1 && !node.what.equals("neg");
        List<String> texts = new ArrayList<>();
        for (int i = 0; i < bracketed.length; i++) {
            texts.add(write(node.kids.get(i)));
            bracketed[i] = !isCall;
        }
        for (int i = 0; i < bracketed.length; i++) {
            if (bracketed[i]) {
                bracketed[i] = false;
                String without = joined(node, texts, bracketed);
                bracketed[i] = !readable(without) || !parse(without).shape().equals(node.shape());
            }
        }
        return joined(node, texts, bracketed);
    }

    private static boolean readable(String text) {
        return READABLE.computeIfAbsent(text, any -> ROOMY.refusedAt(any.replace("~", "a1")) == -1);
    }

    private static String joined(Node node, List<String> texts, boolean[] bracketed) {
        List<String> kids = new ArrayList<>();
        for (int i = 0; i < bracketed.length; i++) {
            kids.add(bracketed[i] ? "(" + texts.get(i) + ")" : texts.get(i));
        }
        switch (node.what) {
            case "number":
                return node.number;
            case "ref":
                return node.lost ? "~" : (node.columnFixed ? "$" : "") + "abcdefgh".charAt(node.column)
                    + (node.rowFixed ? "$" : "") + (node.row + 1);
            case "neg":
                return "-" + kids.get(0);
            case "!":
                return "!" + kids.get(0);
            default:
                return node.what.length() == 1 ? kids.get(0) + node.what + kids.get(1)
                    : "@" + node.what + "(" + String.join(node.isRange() ? ":" : ",", kids) + ")";
        }
    }

    // ---- what is referred to

    /** Cells by number, column * 10 + row, column by column. */
    static Set<Integer> rangeCells(Node range) {
        Set<Integer> found = new LinkedHashSet<>();
        Node a = range.kids.get(0);
        Node b = range.kids.get(1);
        for (int column = 0; column < 8; column++) {
            for (int row = 0; row < 10; row++) {
                boolean columnFits = (column - a.column) * (column - b.column) <= 0;
                if (columnFits && (row - a.row) * (row - b.row) <= 0) {
                    found.add(column * 10 + row);
                }
            }
        }
        return found;
    }

    Set<Integer> referred(int cell) {
        Set<Integer> found = new HashSet<>();
        if (cells[cell / 10][cell % 10] instanceof Node formula) {
            Set<Node> ofRanges = new HashSet<>();
            for (Node range : formula.all("range")) {
                ofRanges.addAll(range.kids);
                if (!range.isLostRange()) {
                    found.addAll(rangeCells(range));
                }
            }
            for (Node ref : formula.all("ref")) {
                if (!ref.lost && !ofRanges.contains(ref)) {
                    found.add(ref.column * 10 + ref.row);
                }
            }
        }
        return found;
    }

    Set<Integer> reached(int cell) {
        Set<Integer> found = new HashSet<>(referred(cell));
        List<Integer> waiting = new ArrayList<>(found);
        while (!waiting.isEmpty()) {
            for (int next : referred(waiting.remove(0))) {
                if (found.add(next)) {
                    waiting.add(next);
                }
            }
        }
        return found;
    }

    boolean isCircular(int cell) {
        return reached(cell).contains(cell);
    }

    // ---- values

    private final Map<Integer, Double> known = new HashMap<>();

    /** To be called after each change: what was known is of no use then. */
    void forget() {
        known.clear();
    }

    /** The VALUE of a cell that is not empty. */
    double value(int cell) throws Bad {
        if (cells[cell / 10][cell % 10] instanceof Node formula) {
            if (!known.containsKey(cell)) {
                known.put(cell, null);
                if (!isCircular(cell)) {
                    known.put(cell, valueOrNull(formula));
                }
            }
            if (known.get(cell) == null) {
                throw new Bad();
            }
            return known.get(cell);
        }
        return (Double) cells[cell / 10][cell % 10];
    }

    private Double valueOrNull(Node formula) {
        try {
            return value(formula);
        } catch (Bad e) {
            return null;
        }
    }

    private static double checked(double number) throws Bad {
        if (Math.abs(number) > LIMIT) {
            throw new Bad();
        }
        return number;
    }

    private double value(Node node) throws Bad {
        if (node.isRange()) {
            return rangeValue(node);
        }
        switch (node.what) {
            case "number":
                return numeralValue(node.number);
            case "ref":
                if (node.lost) {
                    throw new Bad();
                }
                return cells[node.column][node.row] == null ? 0 : value(node.column * 10 + node.row);
            case "neg":
                return -value(node.kids.get(0));
            case "!":
                return value(node.kids.get(0)) == 0 ? 1 : 0;
            case "abs":
                return Math.abs(value(node.kids.get(0)));
            case "int":
                double number = value(node.kids.get(0));
                return number < 0 ? Math.ceil(number) : Math.floor(number);
            case "if":
                return value(node.kids.get(value(node.kids.get(0)) == 0 ? 2 : 1));
            default:
                return signValue(node.what, value(node.kids.get(0)), value(node.kids.get(1)));
        }
    }

    private static double numeralValue(String text) {
        int point = text.indexOf('.');
        double digits = Long.parseLong(text.replace(".", ""));
        return digits / Math.pow(10, point < 0 ? 0 : text.length() - point - 1);
    }

    private static double signValue(String sign, double a, double b) throws Bad {
        switch (sign) {
            case "+":
                return checked(a + b);
            case "-":
                return checked(a - b);
            case "*":
                return checked(a * b);
            case "/":
                if (b == 0) {
                    throw new Bad();
                }
                return checked(a / b);
            case "=":
                return a == b ? 1 : 0;
            case "#":
                return a == b ? 0 : 1;
            case "<":
                return a < b ? 1 : 0;
            case ">":
                return b < a ? 1 : 0;
            case "&":
                return a == 0 || b == 0 ? 0 : 1;
            default:
                return a == 0 && b == 0 ? 0 : 1;
        }
    }

    private double rangeValue(Node range) throws Bad {
        if (range.isLostRange()) {
            throw new Bad();
        }
        List<Integer> filled = new ArrayList<>(rangeCells(range));
        filled.removeIf(cell -> cells[cell / 10][cell % 10] == null);
        if (range.what.equals("cnt")) {
            return filled.size();
        }
        if (filled.isEmpty() && !range.what.equals("sum")) {
            throw new Bad();
        }
        List<Double> values = new ArrayList<>();
        for (int cell : filled) {
            values.add(value(cell));
        }
        if (range.what.equals("min") || range.what.equals("max")) {
            values.sort(null);
            return values.get(range.what.equals("min") ? 0 : values.size() - 1);
        }
        double sum = 0;
        for (double number : values) {
            sum = checked(sum + number);
        }
        return range.what.equals("sum") ? sum : sum / filled.size();
    }

    // ---- changes

    int lost() {
        int many = 0;
        for (Object[] column : cells) {
            for (Object cell : column) {
                many += cell instanceof Node formula ? lost(formula) : 0;
            }
        }
        return many;
    }

    static int lost(Node formula) {
        return (int) formula.all("ref").stream().filter(ref -> ref.lost).count();
    }

    int insert(int row) {
        int many = 0;
        for (Object[] column : cells) {
            many += column[9] == null ? 0 : 1;
            System.arraycopy(column, row, column, row + 1, 9 - row);
            column[row] = null;
        }
        forAllRefs((ref, other, isFirst) -> {
            int to = ref.row + (ref.row >= row ? 1 : 0);
            boolean greater = other != null && (ref.row > other.row || ref.row == other.row && !isFirst);
            return to < 10 ? to : greater ? 9 : -1;
        });
        return many;
    }

    int delete(int row) {
        int many = 0;
        for (Object[] column : cells) {
            many += column[row] == null ? 0 : 1;
            System.arraycopy(column, row + 1, column, row, 9 - row);
            column[9] = null;
        }
        forAllRefs((ref, other, isFirst) -> {
            if (ref.row != row) {
                return ref.row > row ? ref.row - 1 : ref.row;
            }
            if (other == null || other.row == row) {
                return -1;
            }
            return ref.row < other.row ? ref.row : ref.row - 1;
        });
        return many;
    }

    private interface Follow {
        /** A reference's new row, -1 if it is lost; other is null where it is as one by itself. */
        int row(Node ref, Node other, boolean isFirst);
    }

    private void forAllRefs(Follow follow) {
        for (Object[] column : cells) {
            for (Object cell : column) {
                if (cell instanceof Node formula) {
                    followInside(formula, follow);
                }
            }
        }
    }

    private static void followInside(Node node, Follow follow) {
        if (node.isRange() && !node.isLostRange()) {
            Node a = node.kids.get(0);
            Node b = node.kids.get(1);
            int rowOfA = follow.row(a, b, true);
            int rowOfB = follow.row(b, a, false);
            setRow(a, rowOfA);
            setRow(b, rowOfB);
        } else if (node.what.equals("ref") && !node.lost) {
            setRow(node, follow.row(node, null, true));
        } else {
            node.kids.forEach(kid -> followInside(kid, follow));
        }
    }

    private static void setRow(Node ref, int row) {
        ref.row = row;
        ref.setLost(row < 0);
    }
}
