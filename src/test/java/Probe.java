import java.util.function.Supplier;

/** A sheet whose cells are named as they are written (b3 is column 1, row 2) and whose answers are texts. */
final class Probe {
    static final String OUT = "throws.IndexOutOfBoundsException";
    static final String REFUSED = "throws.IllegalArgumentException";
    static final String NOT_NOW = "throws.IllegalStateException";
    static final String NOTHING = "throws.NoSuchElementException";
    static final String BAD = "throws.ArithmeticException";
    static final String NO_FORMULA = "throws.UnsupportedOperationException";
    static final double LIMIT = 1L << 50;

    /** An object is used for at most so many calls; what later ones answer is free. */
    private static final int MOST_CALLS = 512;

    private final FormulaSheet sheet = new FormulaSheet();
    private int calls;

    /** The sheet for one call: a test that goes beyond those that are promised is at fault itself. */
    FormulaSheet sheet() {
        calls++;
        if (calls > MOST_CALLS) {
            throw new AssertionError("a test makes more than 512 calls of one object");
        }
        return sheet;
    }

    int callsLeft() {
        return MOST_CALLS - calls;
    }

    static int column(String cell) {
        return cell.charAt(0) - 'a';
    }

    static int row(String cell) {
        return Integer.parseInt(cell.substring(1)) - 1;
    }

    /** A cell's name: 0, 9 is a10. */
    static String name(int column, int row) {
        return "abcdefgh".charAt(column) + "" + (row + 1);
    }

    static String answer(Supplier<Object> call) {
        try {
            return String.valueOf(call.get());
        } catch (RuntimeException e) {
            return "throws." + e.getClass().getSimpleName();
        }
    }

    Probe type(String line) {
        for (int i = 0; i < line.length(); i++) {
            sheet().type(line.charAt(i));
        }
        return this;
    }

    String typeOne(int c) {
        return answer(() -> sheet().type(c));
    }

    String enter(String cell) {
        return answer(() -> sheet().enter(column(cell), row(cell)));
    }

    String enter(String cell, String line) {
        return type(line).enter(cell);
    }

    int errorAt() {
        return sheet().errorAt();
    }

    /** Where a line is refused; -1 if it is taken. */
    int refused(String line) {
        enter("h10", line);
        return errorAt();
    }

    String put(String cell, double number) {
        return answer(() -> {
            sheet().put(column(cell), row(cell), number);
            return "";
        });
    }

    String erase(String cell) {
        return answer(() -> {
            sheet().erase(column(cell), row(cell));
            return "";
        });
    }

    String copy(String cell, String to) {
        return answer(() -> sheet().copy(column(cell), row(cell), column(to), row(to)));
    }

    String insert(int row) {
        return answer(() -> sheet().insert(row));
    }

    String delete(int row) {
        return answer(() -> sheet().delete(row));
    }

    String value(String cell) {
        return answer(() -> sheet().value(column(cell), row(cell)));
    }

    String kind(String cell) {
        return answer(() -> sheet().kind(column(cell), row(cell)));
    }

    String reaches(String cell, String to) {
        return answer(() -> sheet().reaches(column(cell), row(cell), column(to), row(to)));
    }

    int count(int what) {
        return sheet().count(what);
    }

    String character(String cell, int i) {
        return answer(() -> sheet().text(column(cell), row(cell), i));
    }

    /** The whole text of a cell's formula. */
    String text(String cell) {
        return answer(() -> {
            StringBuilder all = new StringBuilder();
            int c = sheet().text(column(cell), row(cell), 0);
            for (int i = 1; c >= 0; i++) {
                all.append((char) c);
                c = sheet().text(column(cell), row(cell), i);
            }
            return all;
        });
    }

    /** The value of a formula in a cell that none of the tests refers to. */
    String worth(String line) {
        enter("h10", line);
        return value("h10");
    }

    /** A formula as it is written out. */
    String rewritten(String line) {
        enter("h10", line);
        return text("h10");
    }
}
