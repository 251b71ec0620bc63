import java.util.NoSuchElementException;

/** A small sheet of numbers and formulas; README.md tells how it is used. */
public final class FormulaSheet {
    private static final int COLUMNS = 8;
    private static final int ROWS = 10;
    private static final int CELLS = COLUMNS * ROWS;
    private static final int LONGEST_LINE = 40;
    private static final int GREATEST_CHARACTER = 127;
    private static final int MOST_OPEN = 6;
    private static final int MOST_DIGITS = 9;
    private static final int MOST_DIGITS_BEHIND = 4;
    private static final int BITS = 64;
    private static final int NONE = -1;

    private static final long LIMIT = 1L << 50;
    // No VALUE lies beyond LIMIT: a result from there is BAD as it is, and this is one for all other BAD.
    private static final long BAD = 1L << 51;

    // The rules of a formula, the widest first: a part that fits one fits all those before it, too.
    private static final int LOGIC = 0;
    private static final int COMPARISON = 1;
    private static final int TERMS = 2;
    private static final int PRODUCT = 3;
    private static final int SIGNED = 4;
    private static final int PART = 5;

    private static final Name[] NAMES = Name.values();

    private final Line line;
    private final Cells cells;
    private final StringBuilder written;
    private int refusedAt;

    public FormulaSheet() {
        line = new Line();
        cells = new Cells();
        written = new StringBuilder();
        refusedAt = NONE;
    }

    public int type(int c) throws IllegalArgumentException, IllegalStateException {
        if (c < 0 || c > GREATEST_CHARACTER) {
            throw new IllegalArgumentException();
        }
        if (line.length >= LONGEST_LINE) {
            throw new IllegalStateException();
        }
        line.add((char) c);
        return line.length;
    }

    public int enter(int column, int row) throws IndexOutOfBoundsException, IllegalArgumentException {
        int cell = cellAt(column, row);
        Part formula = line.read();
        line.length = 0;
        if (formula == null) {
            refusedAt = line.at;
            throw new IllegalArgumentException();
        }
        refusedAt = NONE;
        cells.setFormula(cell, formula);
        CellSet referred = new CellSet();
        formula.addCells(referred);
        return referred.size();
    }

    public int errorAt() {
        return refusedAt;
    }

    public void put(int column, int row, double number) throws IndexOutOfBoundsException, IllegalArgumentException {
        int cell = cellAt(column, row);
        if (isBad(number)) {
            throw new IllegalArgumentException();
        }
        cells.setNumber(cell, number);
    }

    public void erase(int column, int row) throws IndexOutOfBoundsException, NoSuchElementException {
        int cell = filledCellAt(column, row);
        cells.empty(cell);
    }

    public int copy(int column, int row, int toColumn, int toRow)
            throws IndexOutOfBoundsException, NoSuchElementException {
        int target = cellAt(toColumn, toRow);
        int source = filledCellAt(column, row);
        Part formula = cells.formulas[source];
        if (formula == null) {
            cells.setNumber(target, cells.values[source]);
            return 0;
        }
        Part moved = formula.moved(toColumn - column, toRow - row);
        cells.setFormula(target, moved);
        return moved.lostReferences() - formula.lostReferences();
    }

    public int insert(int row) throws IndexOutOfBoundsException {
        cellAt(0, row);
        return cells.rowIn(row);
    }

    public int delete(int row) throws IndexOutOfBoundsException {
        cellAt(0, row);
        return cells.rowOut(row);
    }

    public double value(int column, int row)
            throws IndexOutOfBoundsException, NoSuchElementException, IllegalStateException, ArithmeticException {
        int cell = filledCellAt(column, row);
        cells.settle();
        if (cells.isCircular(cell)) {
            throw new IllegalStateException();
        }
        if (isBad(cells.values[cell])) {
            throw new ArithmeticException();
        }
        return cells.values[cell];
    }

    public int kind(int column, int row) throws IndexOutOfBoundsException {
        int cell = cellAt(column, row);
        if (!cells.filled[cell]) {
            return 0;
        }
        if (cells.formulas[cell] == null) {
            return 1;
        }
        cells.settle();
        if (cells.isCircular(cell)) {
            return 4;
        }
        return isBad(cells.values[cell]) ? 3 : 2;
    }

    public int text(int column, int row, int i) throws IndexOutOfBoundsException, UnsupportedOperationException {
        Part formula = cells.formulas[cellAt(column, row)];
        if (formula == null) {
            throw new UnsupportedOperationException();
        }
        written.setLength(0);
        formula.write(written, LOGIC);
        return i >= 0 && i < written.length() ? written.charAt(i) : NONE;
    }

    public boolean reaches(int column, int row, int toColumn, int toRow) throws IndexOutOfBoundsException {
        int from = cellAt(column, row);
        int to = cellAt(toColumn, toRow);
        cells.settle();
        return cells.reached[from].has(to);
    }

    public int count(int what) {
        switch (what) {
            case 0:
                return line.length;
            case 1:
                return cells.filledFrom(0, CELLS);
            case 2:
                return cells.formulasInAll();
            case 3:
                return cells.circularInAll();
            case 4:
                return cells.badInAll();
            case 5:
                return cells.lostInAll();
            default:
                return NONE;
        }
    }

    private static int cellAt(int column, int row) {
        if (!isInSheet(column, row)) {
            throw new IndexOutOfBoundsException();
        }
        return row * COLUMNS + column;
    }

    private int filledCellAt(int column, int row) {
        int cell = cellAt(column, row);
        if (!cells.filled[cell]) {
            throw new NoSuchElementException();
        }
        return cell;
    }

    private static boolean isInSheet(int column, int row) {
        return column >= 0 && column < COLUMNS && row >= 0 && row < ROWS;
    }

    private static boolean isBad(double number) {
        return number > LIMIT || number < -LIMIT;
    }

    private static boolean isNaN(double number) {
        return number != number;
    }

    // put takes NaN, which lies neither above nor below the limits, and Java's arithmetic hands it on. Here
    // it goes by, for LANGUAGE.md wants no operation that answers it.
    private static double workedOut(double left, char sign, double right) {
        if (isBad(left) || isBad(right) || sign == '/' && right == 0) {
            return BAD;
        }
        if (isNaN(left) || isNaN(right)) {
            return isNaN(left) ? left : right;
        }
        switch (sign) {
            case '+':
                return left + right;
            case '-':
                return left - right;
            case '*':
                return left * right;
            default:
                return left / right;
        }
    }

    /** A set of cells, held in bits so that many sets are joined fast and without new objects. */
    private static final class CellSet {
        private long low;
        private long high;

        void clear() {
            low = 0;
            high = 0;
        }

        void add(int cell) {
            if (cell < BITS) {
                low |= 1L << cell;
            } else {
                high |= 1L << (cell - BITS);
            }
        }

        void addAll(CellSet other) {
            low |= other.low;
            high |= other.high;
        }

        boolean has(int cell) {
            long shifted = cell < BITS ? low >>> cell : high >>> (cell - BITS);
            return (shifted & 1) != 0;
        }

        int size() {
            return Long.bitCount(low) + Long.bitCount(high);
        }
    }

    /** What the cells have, and what follows from it: which cells each one reaches, and the VALUES. */
    private static final class Cells {
        final boolean[] filled = new boolean[CELLS];
        final Part[] formulas = new Part[CELLS];
        final double[] values = new double[CELLS];
        final CellSet[] reached = new CellSet[CELLS];
        /** Room for the VALUES of a RANGE while it is worked out. */
        final double[] gathered = new double[CELLS];
        private final int[] order = new int[CELLS];
        private boolean settled;

        Cells() {
            for (int cell = 0; cell < CELLS; cell++) {
                reached[cell] = new CellSet();
            }
        }

        void setNumber(int cell, double number) {
            fill(cell, true, number, null);
        }

        void setFormula(int cell, Part formula) {
            fill(cell, true, 0, formula);
        }

        void empty(int cell) {
            fill(cell, false, 0, null);
        }

        private void fill(int cell, boolean full, double number, Part formula) {
            filled[cell] = full;
            values[cell] = number;
            formulas[cell] = formula;
            settled = false;
        }

        int rowIn(int row) {
            int lost = filledFrom(CELLS - COLUMNS, CELLS);
            for (int cell = CELLS - 1; cell >= (row + 1) * COLUMNS; cell--) {
                take(cell, cell - COLUMNS);
            }
            emptyRow(row);
            for (int cell = 0; cell < CELLS; cell++) {
                if (formulas[cell] != null) {
                    formulas[cell].followRowIn(row);
                }
            }
            return lost;
        }

        int rowOut(int row) {
            int gone = filledFrom(row * COLUMNS, (row + 1) * COLUMNS);
            for (int cell = row * COLUMNS; cell < CELLS - COLUMNS; cell++) {
                take(cell, cell + COLUMNS);
            }
            emptyRow(ROWS - 1);
            for (int cell = 0; cell < CELLS; cell++) {
                if (formulas[cell] != null) {
                    formulas[cell].followRowOut(row);
                }
            }
            return gone;
        }

        private void take(int cell, int other) {
            fill(cell, filled[other], values[other], formulas[other]);
        }

        private void emptyRow(int row) {
            for (int column = 0; column < COLUMNS; column++) {
                empty(row * COLUMNS + column);
            }
        }

        int filledFrom(int first, int end) {
            int many = 0;
            for (int cell = first; cell < end; cell++) {
                if (filled[cell]) {
                    many++;
                }
            }
            return many;
        }

        int formulasInAll() {
            int many = 0;
            for (int cell = 0; cell < CELLS; cell++) {
                if (formulas[cell] != null) {
                    many++;
                }
            }
            return many;
        }

        int circularInAll() {
            settle();
            int many = 0;
            for (int cell = 0; cell < CELLS; cell++) {
                if (isCircular(cell)) {
                    many++;
                }
            }
            return many;
        }

        int badInAll() {
            settle();
            int many = 0;
            for (int cell = 0; cell < CELLS; cell++) {
                if (isBad(values[cell])) {
                    many++;
                }
            }
            return many;
        }

        int lostInAll() {
            int many = 0;
            for (int cell = 0; cell < CELLS; cell++) {
                if (formulas[cell] != null) {
                    many += formulas[cell].lostReferences();
                }
            }
            return many;
        }

        boolean isCircular(int cell) {
            return reached[cell].has(cell);
        }

        void settle() {
            if (settled) {
                return;
            }
            findReached();
            workOut();
            settled = true;
        }

        private void findReached() {
            for (int cell = 0; cell < CELLS; cell++) {
                reached[cell].clear();
                if (formulas[cell] != null) {
                    formulas[cell].addCells(reached[cell]);
                }
            }
            for (int through = 0; through < CELLS; through++) {
                if (formulas[through] != null) {
                    goOnFrom(through);
                }
            }
        }

        private void goOnFrom(int through) {
            for (int cell = 0; cell < CELLS; cell++) {
                if (reached[cell].has(through)) {
                    reached[cell].addAll(reached[through]);
                }
            }
        }

        private void workOut() {
            int many = 0;
            for (int cell = 0; cell < CELLS; cell++) {
                if (isCircular(cell)) {
                    values[cell] = BAD;
                } else if (formulas[cell] != null) {
                    placeInOrder(cell, many);
                    many++;
                }
            }
            for (int i = 0; i < many; i++) {
                values[order[i]] = formulas[order[i]].worth(this);
            }
        }

        // A cell that is not circular reaches all that those it refers to reach, and these besides:
        // where fewer cells are reached first, nothing is worked out before what it needs.
        private void placeInOrder(int cell, int many) {
            int size = reached[cell].size();
            int place = many;
            while (place > 0 && reached[order[place - 1]].size() > size) {
                order[place] = order[place - 1];
                place--;
            }
            order[place] = cell;
        }
    }

    private enum Name {
        SUM("sum(", 0), MIN("min(", 0), MAX("max(", 0), CNT("cnt(", 0), AVG("avg(", 0),
        ABS("abs(", 1), INT("int(", 1), IF("if(", 3);

        final String opening;
        /** How many LOGICs stand in the brackets; 0 where a RANGE does. */
        final int logics;

        Name(String opening, int logics) {
            this.opening = opening;
            this.logics = logics;
        }
    }

    /**
     * THE LINE, and its reading by the rules. A method that finds no part answers null and leaves at where
     * the first character stands that cannot go on there; nothing reads on after that.
     */
    private static final class Line {
        private final char[] characters = new char[LONGEST_LINE];
        int length;
        int at;
        private int open;

        void add(char c) {
            characters[length] = c;
            length++;
        }

        Part read() {
            at = 0;
            open = 0;
            Part whole = logic();
            return at == length ? whole : null;
        }

        private int next() {
            return at < length ? characters[at] : NONE;
        }

        private boolean nextIs(char one, char other) {
            return next() == one || next() == other;
        }

        private boolean nextIsDigit() {
            return next() >= '0' && next() <= '9';
        }

        private boolean nextIsColumn() {
            return next() >= 'a' && next() < 'a' + COLUMNS;
        }

        private boolean take(char c) {
            if (next() != c) {
                return false;
            }
            at++;
            return true;
        }

        private char takeNext() {
            char c = (char) next();
            at++;
            return c;
        }

        private Part logic() {
            Part whole = comparison();
            for (int i = 0; i < LONGEST_LINE && whole != null && nextIs('&', '|'); i++) {
                char sign = takeNext();
                whole = pair(sign, whole, comparison());
            }
            return whole;
        }

        private Part comparison() {
            if (take('!')) {
                return single('!', terms());
            }
            Part left = terms();
            if (left == null || !nextIs('=', '#') && !nextIs('<', '>')) {
                return left;
            }
            char sign = takeNext();
            return pair(sign, left, terms());
        }

        private Part terms() {
            Part whole = product();
            for (int i = 0; i < LONGEST_LINE && whole != null && nextIs('+', '-'); i++) {
                char sign = takeNext();
                whole = pair(sign, whole, product());
            }
            return whole;
        }

        private Part product() {
            Part whole = signed();
            for (int i = 0; i < LONGEST_LINE && whole != null && nextIs('*', '/'); i++) {
                char sign = takeNext();
                whole = pair(sign, whole, signed());
            }
            return whole;
        }

        private Part signed() {
            return take('-') ? single('-', part()) : part();
        }

        private Part part() {
            if (nextIsDigit()) {
                return numeral();
            }
            if (next() == '$' || nextIsColumn()) {
                return reference();
            }
            // A name's bracket is one more, too, so that its @ is refused already.
            if (open >= MOST_OPEN) {
                return null;
            }
            if (take('(')) {
                open++;
                return closed(logic());
            }
            return take('@') ? call() : null;
        }

        private Part closed(Part inner) {
            if (inner == null || !take(')')) {
                return null;
            }
            open--;
            return inner;
        }

        private Part call() {
            Name name = name();
            if (name == null) {
                return null;
            }
            open++;
            return closed(name.logics == 0 ? overRange(name) : overLogics(name));
        }

        // The names' openings begin none of each other, so that the one that goes on longest is the only one.
        private Name name() {
            Name found = null;
            int longest = 0;
            for (int i = 0; i < NAMES.length; i++) {
                int same = sameAs(NAMES[i].opening);
                if (same == NAMES[i].opening.length()) {
                    found = NAMES[i];
                }
                longest = Math.max(longest, same);
            }
            at += longest;
            return found;
        }

        private int sameAs(String opening) {
            int same = 0;
            while (same < opening.length() && at + same < length && characters[at + same] == opening.charAt(same)) {
                same++;
            }
            return same;
        }

        private Part overLogics(Name name) {
            Part[] arguments = new Part[name.logics];
            for (int i = 0; i < arguments.length; i++) {
                if (i > 0 && !take(',')) {
                    return null;
                }
                arguments[i] = logic();
                if (arguments[i] == null) {
                    return null;
                }
            }
            return new Call(name, arguments);
        }

        private Part overRange(Name name) {
            Reference first = reference();
            if (first == null || !take(':')) {
                return null;
            }
            Reference second = reference();
            return second == null ? null : new OverRange(name, first, second);
        }

        private Reference reference() {
            boolean columnFixed = take('$');
            if (!nextIsColumn()) {
                return null;
            }
            int column = takeNext() - 'a';
            boolean rowFixed = take('$');
            if (!nextIsDigit() || next() == '0') {
                return null;
            }
            int row = takeNext() - '1';
            if (row == 0 && take('0')) {
                row = ROWS - 1;
            }
            return new Reference(columnFixed, column, rowFixed, row);
        }

        private Part numeral() {
            long digits = digits(0, MOST_DIGITS);
            if (!take('.')) {
                return new Numeral(digits, 0);
            }
            int point = at;
            digits = digits(digits, MOST_DIGITS_BEHIND);
            return at == point ? null : new Numeral(digits, at - point);
        }

        private long digits(long before, int most) {
            long digits = before;
            for (int i = 0; i < most && nextIsDigit(); i++) {
                digits = digits * 10 + (takeNext() - '0');
            }
            return digits;
        }

        private static Part single(char sign, Part inner) {
            return inner == null ? null : new Single(sign, inner);
        }

        private static Part pair(char sign, Part left, Part right) {
            return right == null ? null : new Pair(sign, left, right);
        }
    }

    /**
     * A part of a formula with the parts inside it. Walking down the parts ends soon: each level took a
     * character of THE LINE at least, so that there are fewer than 40.
     */
    private abstract static class Part {
        final Part[] inner;

        Part(Part[] inner) {
            this.inner = inner;
        }

        /** The narrowest rule that the part fits without brackets. */
        abstract int rule();

        abstract double worth(Cells cells);

        abstract void writeBare(StringBuilder out);

        final void write(StringBuilder out, int needed) {
            boolean bracketed = rule() < needed;
            if (bracketed) {
                out.append('(');
            }
            writeBare(out);
            if (bracketed) {
                out.append(')');
            }
        }

        // What has nothing inside serves as its own copy.
        Part with(Part[] others) {
            return this;
        }

        // Copies share no reference, for these change in place when rows come and go.
        Part moved(int columns, int rows) {
            Part[] others = new Part[inner.length];
            for (int i = 0; i < inner.length; i++) {
                others[i] = inner[i].moved(columns, rows);
            }
            return with(others);
        }

        void addCells(CellSet cells) {
            for (int i = 0; i < inner.length; i++) {
                inner[i].addCells(cells);
            }
        }

        int lostReferences() {
            int many = 0;
            for (int i = 0; i < inner.length; i++) {
                many += inner[i].lostReferences();
            }
            return many;
        }

        void followRowIn(int row) {
            for (int i = 0; i < inner.length; i++) {
                inner[i].followRowIn(row);
            }
        }

        void followRowOut(int row) {
            for (int i = 0; i < inner.length; i++) {
                inner[i].followRowOut(row);
            }
        }
    }

    private static final class Numeral extends Part {
        private final long digits;
        private final int behind;

        Numeral(long digits, int behind) {
            super(new Part[0]);
            this.digits = digits;
            this.behind = behind;
        }

        int rule() {
            return PART;
        }

        double worth(Cells cells) {
            return (double) digits / (double) scale();
        }

        void writeBare(StringBuilder out) {
            long scale = scale();
            out.append((int) (digits / scale));
            if (behind > 0) {
                out.append('.');
            }
            long rest = digits % scale;
            for (int i = 0; i < behind; i++) {
                rest = rest * 10;
                out.append((char) ('0' + rest / scale));
                rest = rest % scale;
            }
        }

        private long scale() {
            long scale = 1;
            for (int i = 0; i < behind; i++) {
                scale = scale * 10;
            }
            return scale;
        }
    }

    private static final class Reference extends Part {
        private final boolean columnFixed;
        private final boolean rowFixed;
        final int column;
        int row;
        boolean lost;

        Reference(boolean columnFixed, int column, boolean rowFixed, int row) {
            super(new Part[0]);
            this.columnFixed = columnFixed;
            this.column = column;
            this.rowFixed = rowFixed;
            this.row = row;
        }

        int rule() {
            return PART;
        }

        Part moved(int columns, int rows) {
            return shifted(columns, rows);
        }

        Reference shifted(int columns, int rows) {
            int toColumn = columnFixed ? column : column + columns;
            int toRow = rowFixed ? row : row + rows;
            Reference shifted = new Reference(columnFixed, toColumn, rowFixed, toRow);
            shifted.lost = lost || !isInSheet(toColumn, toRow);
            return shifted;
        }

        private int cell() {
            return row * COLUMNS + column;
        }

        double worth(Cells cells) {
            if (lost) {
                return BAD;
            }
            return cells.filled[cell()] ? cells.values[cell()] : 0;
        }

        void addCells(CellSet cells) {
            if (!lost) {
                cells.add(cell());
            }
        }

        int lostReferences() {
            return lost ? 1 : 0;
        }

        void followRowIn(int inserted) {
            if (lost || row < inserted) {
                return;
            }
            row++;
            lost = row >= ROWS;
        }

        void followRowOut(int deleted) {
            if (lost || row < deleted) {
                return;
            }
            lost = row == deleted;
            row--;
        }

        void writeBare(StringBuilder out) {
            if (lost) {
                out.append('~');
                return;
            }
            if (columnFixed) {
                out.append('$');
            }
            out.append((char) ('a' + column));
            if (rowFixed) {
                out.append('$');
            }
            out.append(row + 1);
        }
    }

    /** - and ! with the part behind. */
    private static final class Single extends Part {
        private final char sign;

        Single(char sign, Part part) {
            super(new Part[] {part});
            this.sign = sign;
        }

        int rule() {
            return sign == '-' ? SIGNED : COMPARISON;
        }

        Part with(Part[] others) {
            return new Single(sign, others[0]);
        }

        double worth(Cells cells) {
            double number = inner[0].worth(cells);
            if (isBad(number)) {
                return BAD;
            }
            if (sign == '!') {
                return number == 0 ? 1 : 0;
            }
            return isNaN(number) ? number : -number;
        }

        void writeBare(StringBuilder out) {
            out.append(sign);
            inner[0].write(out, sign == '-' ? PART : TERMS);
        }
    }

    /** Two parts with a sign between them. */
    private static final class Pair extends Part {
        private final char sign;

        Pair(char sign, Part left, Part right) {
            super(new Part[] {left, right});
            this.sign = sign;
        }

        int rule() {
            switch (sign) {
                case '&':
                case '|':
                    return LOGIC;
                case '+':
                case '-':
                    return TERMS;
                case '*':
                case '/':
                    return PRODUCT;
                default:
                    return COMPARISON;
            }
        }

        Part with(Part[] others) {
            return new Pair(sign, others[0], others[1]);
        }

        double worth(Cells cells) {
            double left = inner[0].worth(cells);
            double right = inner[1].worth(cells);
            int rule = rule();
            if (rule == TERMS || rule == PRODUCT) {
                return workedOut(left, sign, right);
            }
            if (isBad(left) || isBad(right)) {
                return BAD;
            }
            return holds(left, right) ? 1 : 0;
        }

        private boolean holds(double left, double right) {
            switch (sign) {
                case '=':
                    return left == right;
                case '#':
                    return left != right;
                case '<':
                    return left < right;
                case '>':
                    return left > right;
                case '&':
                    return left != 0 && right != 0;
                default:
                    return left != 0 || right != 0;
            }
        }

        // All rules but the COMPARISON take on the left what they make themselves.
        void writeBare(StringBuilder out) {
            int rule = rule();
            inner[0].write(out, rule == COMPARISON ? TERMS : rule);
            out.append(sign);
            inner[1].write(out, rule + 1);
        }
    }

    /** A name with LOGICs in its brackets. */
    private static final class Call extends Part {
        private final Name name;

        Call(Name name, Part[] arguments) {
            super(arguments);
            this.name = name;
        }

        int rule() {
            return PART;
        }

        Part with(Part[] others) {
            return new Call(name, others);
        }

        double worth(Cells cells) {
            double number = inner[0].worth(cells);
            if (isBad(number)) {
                return BAD;
            }
            if (name == Name.IF) {
                return inner[number != 0 ? 1 : 2].worth(cells);
            }
            if (name == Name.INT) {
                return (double) (long) number;
            }
            return number < 0 ? -number : number;
        }

        void writeBare(StringBuilder out) {
            out.append('@');
            out.append(name.opening);
            for (int i = 0; i < inner.length; i++) {
                if (i > 0) {
                    out.append(',');
                }
                inner[i].write(out, LOGIC);
            }
            out.append(')');
        }
    }

    /** A name with a RANGE in its brackets. */
    private static final class OverRange extends Part {
        private final Name name;
        private final Reference first;
        private final Reference second;

        OverRange(Name name, Reference first, Reference second) {
            super(new Part[] {first, second});
            this.name = name;
            this.first = first;
            this.second = second;
        }

        int rule() {
            return PART;
        }

        Part moved(int columns, int rows) {
            return new OverRange(name, first.shifted(columns, rows), second.shifted(columns, rows));
        }

        private boolean isLost() {
            return first.lost || second.lost;
        }

        private int left() {
            return Math.min(first.column, second.column);
        }

        private int right() {
            return Math.max(first.column, second.column);
        }

        private int top() {
            return Math.min(first.row, second.row);
        }

        private int bottom() {
            return Math.max(first.row, second.row);
        }

        // A RANGE that is LOST stands for no cells, so that what is left of it refers to none.
        void addCells(CellSet cells) {
            if (isLost()) {
                return;
            }
            for (int column = left(); column <= right(); column++) {
                for (int row = top(); row <= bottom(); row++) {
                    cells.add(row * COLUMNS + column);
                }
            }
        }

        void followRowIn(int inserted) {
            boolean whole = !isLost();
            boolean firstIsGreater = first.row > second.row;
            first.followRowIn(inserted);
            second.followRowIn(inserted);
            if (whole) {
                keepAtLastRow(firstIsGreater ? first : second);
            }
        }

        private static void keepAtLastRow(Reference greater) {
            if (greater.lost) {
                greater.lost = false;
                greater.row = ROWS - 1;
            }
        }

        void followRowOut(int deleted) {
            if (isLost() || first.row == second.row) {
                first.followRowOut(deleted);
                second.followRowOut(deleted);
                return;
            }
            Reference lesser = first.row < second.row ? first : second;
            Reference greater = first.row < second.row ? second : first;
            if (lesser.row > deleted) {
                lesser.row--;
            }
            if (greater.row >= deleted) {
                greater.row--;
            }
        }

        double worth(Cells cells) {
            if (isLost()) {
                return BAD;
            }
            int many = gather(cells);
            if (name == Name.CNT) {
                return many;
            }
            if (name == Name.MIN || name == Name.MAX) {
                return extreme(cells.gathered, many);
            }
            double sum = sum(cells.gathered, many);
            return name == Name.SUM ? sum : workedOut(sum, '/', many);
        }

        // Column by column, in each from the least row: the order in which a sum must be made.
        private int gather(Cells cells) {
            int many = 0;
            for (int column = left(); column <= right(); column++) {
                for (int row = top(); row <= bottom(); row++) {
                    int cell = row * COLUMNS + column;
                    if (cells.filled[cell]) {
                        cells.gathered[many] = cells.values[cell];
                        many++;
                    }
                }
            }
            return many;
        }

        // A sum that is BAD once stays so, as does one with a BAD number in it.
        private static double sum(double[] numbers, int many) {
            double sum = 0;
            for (int i = 0; i < many; i++) {
                sum = workedOut(sum, '+', numbers[i]);
            }
            return sum;
        }

        private double extreme(double[] numbers, int many) {
            double best = BAD;
            for (int i = 0; i < many; i++) {
                if (isBad(numbers[i])) {
                    return BAD;
                }
                boolean better = name == Name.MIN ? numbers[i] < best : numbers[i] > best;
                if (i == 0 || better) {
                    best = numbers[i];
                }
            }
            return best;
        }

        void writeBare(StringBuilder out) {
            out.append('@');
            out.append(name.opening);
            first.write(out, PART);
            out.append(':');
            second.write(out, PART);
            out.append(')');
        }
    }
}
