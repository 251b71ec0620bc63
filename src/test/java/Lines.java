import java.util.Random;

/** Lines made from the rules of a formula, and lines with a fault in them; the same ones in each run. */
final class Lines {
    private static final String[] NAMES = {"sum", "min", "max", "cnt", "avg"};
    private static final String CHARACTERS = "0123456789abcdefghi$@(),:.+-*/=#<>&|!~ sumintxvgf";

    private final Random random;
    private final int columns;
    private final int rows;

    /** References stay among the first columns and rows, so that they meet often. */
    Lines(Random random, int columns, int rows) {
        this.random = random;
        this.columns = columns;
        this.rows = rows;
    }

    String formula() {
        for (int i = 0; i < 1000; i++) {
            String line = logic(0, 3);
            if (line.length() <= 40) {
                return line;
            }
        }
        return "1";
    }

    /** A formula with some characters changed, put in, left out, or cut off behind. */
    String faulty() {
        StringBuilder line = new StringBuilder(formula());
        int faults = 1 + random.nextInt(2);
        for (int i = 0; i < faults && line.length() > 0; i++) {
            int at = random.nextInt(line.length());
            char c = CHARACTERS.charAt(random.nextInt(CHARACTERS.length()));
            switch (random.nextInt(4)) {
                case 0 -> line.setCharAt(at, c);
                case 1 -> line.insert(at, c);
                case 2 -> line.deleteCharAt(at);
                default -> line.setLength(at);
            }
        }
        return line.length() > 40 ? line.substring(0, 40) : line.toString();
    }

    private boolean one(int in) {
        return random.nextInt(in) == 0;
    }

    private char anyOf(String signs) {
        return signs.charAt(random.nextInt(signs.length()));
    }

    private String logic(int open, int size) {
        String whole = comparison(open, size);
        return one(4) ? whole + anyOf("&|") + comparison(open, size) : whole;
    }

    private String comparison(int open, int size) {
        if (one(8)) {
            return "!" + terms(open, size);
        }
        return one(5) ? terms(open, size) + anyOf("=#<>") + terms(open, size) : terms(open, size);
    }

    private String terms(int open, int size) {
        String whole = product(open, size);
        for (int i = 0; i < 2 && one(3); i++) {
            whole += anyOf("+-") + product(open, size);
        }
        return whole;
    }

    private String product(int open, int size) {
        String whole = signed(open, size);
        for (int i = 0; i < 2 && one(4); i++) {
            whole += anyOf("*/") + signed(open, size);
        }
        return whole;
    }

    private String signed(int open, int size) {
        return (one(6) ? "-" : "") + part(open, size);
    }

    private String part(int open, int size) {
        int way = random.nextInt(10);
        if (way < 3 || open >= 6 || size < -3) {
            return way == 0 ? numeral() : reference();
        }
        if (way < 6 && size > 0) {
            return "(" + logic(open + 1, size - 1) + ")";
        }
        if (way == 6 && size > 0) {
            return (one(2) ? "@abs(" : "@int(") + logic(open + 1, size - 1) + ")";
        }
        if (way == 7 && size > 0) {
            return "@if(" + logic(open + 1, size - 2) + "," + logic(open + 1, size - 2) + ","
                + logic(open + 1, size - 2) + ")";
        }
        return way == 8 ? "@" + NAMES[random.nextInt(5)] + "(" + reference() + ":" + reference() + ")" : numeral();
    }

    private String numeral() {
        String whole = one(4) ? "00" + random.nextInt(3) : String.valueOf(random.nextInt(one(3) ? 1000 : 4));
        return one(4) ? whole + "." + (random.nextInt(9) * (one(2) ? 10 : 1)) : whole;
    }

    String reference() {
        return (one(5) ? "$" : "") + (char) ('a' + random.nextInt(columns)) + (one(5) ? "$" : "")
            + (10 - random.nextInt(rows));
    }
}
