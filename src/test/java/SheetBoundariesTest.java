/**
 * The boundaries of the sheet, of THE LINE and of each call by itself: what is the last that is taken, what
 * is the first that is refused, with which exception, and what a refused call leaves. A method's comment is
 * the document's sentence that it holds to.
 */
public final class SheetBoundariesTest {
    private static final String OUT = Probe.OUT;
    private static final String REFUSED = Probe.REFUSED;
    private static final String NOT_NOW = Probe.NOT_NOW;
    private static final String NOTHING = Probe.NOTHING;
    private static final String BAD = Probe.BAD;
    private static final String NO_FORMULA = Probe.NO_FORMULA;
    private static final double LIMIT = Probe.LIMIT;
    private static final int MOST_CALLS = 512;

    private static final int[][] CORNERS = {{0, 0}, {7, 0}, {0, 9}, {7, 9}};
    private static final int[][] OUTSIDE = {
        {-1, 0}, {8, 0}, {-1, 9}, {8, 9}, {0, -1}, {0, 10}, {7, -1}, {7, 10}, {-1, -1}, {8, 10},
        {Integer.MIN_VALUE, 0}, {Integer.MAX_VALUE, 0}, {0, Integer.MIN_VALUE}, {0, Integer.MAX_VALUE},
    };

    private interface Call {
        Object on(FormulaSheet sheet);
    }

    public static void main(String[] args) {
        cornersAreInTheSheet();
        besideTheCornersIsNot();
        rowsOfInsertAndDelete();
        lettersAndRowsAsWritten();
        outsideComesBeforeAllElse();
        theFirstThatFitsIsThrown();
        whatThrowsChangesNothing();
        aRefusedLineChangesTheLineAndErrorAtAlone();
        newObject();
        typeTakesCharacters();
        typeTakesForty();
        theLineAfterAFullOne();
        putUpToTheLimit();
        putInPlaceOfAnything();
        eraseOnce();
        kinds();
        valueThrows();
        countOfNothing();
        countOfAll();
        countOfAllCircular();
        countOfLost();
        countOfElse();
        theLastCallsOfAnObject();
        Check.end();
    }

    private static void due(String what, Object got, Object want) {
        Check.due(what, got, want);
    }

    private static void answers(String what, FormulaSheet sheet, Object want, Call call) {
        due(what, Probe.answer(() -> call.on(sheet)), want);
    }

    private static Object put(FormulaSheet sheet, int column, int row, double number) {
        sheet.put(column, row, number);
        return "";
    }

    private static Object erase(FormulaSheet sheet, int column, int row) {
        sheet.erase(column, row);
        return "";
    }

    // THE SHEET has columns 0 .. 7 (letters a .. h) and rows 0 .. 9 (written 1 .. 10).
    private static void cornersAreInTheSheet() {
        for (int[] corner : CORNERS) {
            int column = corner[0];
            int row = corner[1];
            String where = " at " + column + ", " + row;
            FormulaSheet sheet = new FormulaSheet();
            answers("kind" + where, sheet, 0, s -> s.kind(column, row));
            answers("put" + where, sheet, "", s -> put(s, column, row, 3));
            answers("value" + where, sheet, 3.0, s -> s.value(column, row));
            answers("kind of a number" + where, sheet, 1, s -> s.kind(column, row));
            answers("copy to itself" + where, sheet, 0, s -> s.copy(column, row, column, row));
            answers("copy to the middle" + where, sheet, 0, s -> s.copy(column, row, 4, 4));
            answers("copy from the middle" + where, sheet, 0, s -> s.copy(4, 4, column, row));
            answers("erase" + where, sheet, "", s -> erase(s, column, row));
            sheet.type('e');
            sheet.type('6');
            answers("enter" + where, sheet, 1, s -> s.enter(column, row));
            answers("text" + where, sheet, (int) 'e', s -> s.text(column, row, 0));
            answers("reaches from" + where, sheet, true, s -> s.reaches(column, row, 4, 5));
            answers("reaches to" + where, sheet, false, s -> s.reaches(4, 5, column, row));
        }
    }

    // Calls that name a cell or row that is not in the sheet throw IndexOutOfBoundsException ...
    private static void besideTheCornersIsNot() {
        for (int[] cell : OUTSIDE) {
            int column = cell[0];
            int row = cell[1];
            String where = " at " + column + ", " + row;
            FormulaSheet sheet = new FormulaSheet();
            sheet.put(0, 0, 1);
            sheet.type('1');
            answers("enter" + where, sheet, OUT, s -> s.enter(column, row));
            answers("put" + where, sheet, OUT, s -> put(s, column, row, 1));
            answers("erase" + where, sheet, OUT, s -> erase(s, column, row));
            answers("copy from" + where, sheet, OUT, s -> s.copy(column, row, 0, 0));
            answers("copy to" + where, sheet, OUT, s -> s.copy(0, 0, column, row));
            answers("copy onto itself" + where, sheet, OUT, s -> s.copy(column, row, column, row));
            answers("value" + where, sheet, OUT, s -> s.value(column, row));
            answers("kind" + where, sheet, OUT, s -> s.kind(column, row));
            answers("text" + where, sheet, OUT, s -> s.text(column, row, 0));
            answers("reaches from" + where, sheet, OUT, s -> s.reaches(column, row, 0, 0));
            answers("reaches to" + where, sheet, OUT, s -> s.reaches(0, 0, column, row));
            due("all that was outside changed no cell" + where, sheet.count(1), 1);
            due("all that was outside left the line" + where, sheet.count(0), 1);
        }
    }

    private static void rowsOfInsertAndDelete() {
        for (int row : new int[] {0, 1, 8, 9}) {
            due("insert at row " + row, new Probe().insert(row), 0);
            due("delete of row " + row, new Probe().delete(row), 0);
        }
        for (int row : new int[] {-1, 10, Integer.MIN_VALUE, Integer.MAX_VALUE}) {
            due("insert outside at " + row, new Probe().insert(row), OUT);
            due("delete outside at " + row, new Probe().delete(row), OUT);
        }
    }

    private static void lettersAndRowsAsWritten() {
        for (int[] corner : CORNERS) {
            Probe p = new Probe();
            p.sheet().put(corner[0], corner[1], 6);
            String name = Probe.name(corner[0], corner[1]);
            due("the cell written " + name, p.enter("e5", name) + " " + p.value("e5"), "1 6.0");
            due("the cell written " + name + " is reached", p.sheet().reaches(4, 4, corner[0], corner[1]), true);
        }
        for (int column = 0; column < 8; column++) {
            for (int row = 0; row < 10; row++) {
                Probe p = new Probe();
                p.sheet().put(column, row, 6);
                String name = Probe.name(column, row);
                String from = name.equals("e5") ? "e6" : "e5";
                p.enter(from, name);
                due("the cell written " + name, p.value(from), 6.0);
            }
        }
    }

    // ... before all else.
    private static void outsideComesBeforeAllElse() {
        for (int[] cell : OUTSIDE) {
            int column = cell[0];
            int row = cell[1];
            FormulaSheet sheet = new FormulaSheet();
            String where = " at " + column + ", " + row;
            answers("enter of no formula" + where, sheet, OUT, s -> s.enter(column, row));
            due("and errorAt is not set", sheet.errorAt(), -1);
            answers("put of too much" + where, sheet, OUT, s -> put(s, column, row, LIMIT * 2));
            answers("put of too little" + where, sheet, OUT, s -> put(s, column, row, -LIMIT * 2));
            answers("copy of an empty cell to" + where, sheet, OUT, s -> s.copy(3, 3, column, row));
            answers("copy to an empty cell from" + where, sheet, OUT, s -> s.copy(column, row, 3, 3));
            answers("text before its first" + where, sheet, OUT, s -> s.text(column, row, -1));
            answers("reaches from and to" + where, sheet, OUT, s -> s.reaches(column, row, column, row));
        }
    }

    // Of the others that a heading names the first that fits is thrown.
    private static void theFirstThatFitsIsThrown() {
        Probe p = new Probe();
        p.type("1".repeat(40));
        due("out of 0 .. 127 comes before 40 there", p.typeOne(128), REFUSED);
        due("out of 0 .. 127 comes before 40 there, below", p.typeOne(-1), REFUSED);
        Probe circle = new Probe();
        circle.enter("a1", "a1/0");
        due("CIRCULAR comes before BAD", circle.value("a1"), NOT_NOW);
        circle.enter("a2", "a2+1/0");
        due("CIRCULAR comes before BAD by itself", circle.value("a2"), NOT_NOW);
    }

    /** A sheet with a cell of each kind, LOST REFERENCES, a line that was refused and one that is typed. */
    private static Probe sample() {
        Probe p = new Probe();
        p.put("a1", 5);
        p.enter("b1", "a1+1");
        p.enter("c1", "c1");
        p.enter("d1", "1/0");
        p.enter("b2", "a1+@sum(a1:b1)");
        p.copy("b2", "a2");
        p.put("h10", -4);
        p.enter("e1", "1+");
        p.type("a1*2");
        return p;
    }

    /** All that calls tell of a sheet; what stands in THE LINE is told by entering it, last of all. */
    private static String state(Probe p) {
        StringBuilder all = new StringBuilder("errorAt ").append(p.errorAt());
        all.append(" length ").append(p.count(0)).append(cells(p));
        p.enter("g9");
        return all.append(" line ").append(p.text("g9")).toString();
    }

    private static String cells(Probe p) {
        StringBuilder all = new StringBuilder();
        for (int what = 1; what <= 5; what++) {
            all.append(' ').append(p.count(what));
        }
        for (int cell = 0; cell < 80; cell++) {
            String name = Probe.name(cell / 10, cell % 10);
            String kind = p.kind(name);
            all.append(' ').append(kind);
            if (!kind.equals("0")) {
                all.append(p.value(name)).append(kind.equals("1") ? "" : p.text(name));
            }
        }
        return all.toString();
    }

    private static void throwsAndLeaves(String what, String thrown, Call call) {
        Probe p = sample();
        answers(what, p.sheet(), thrown, call);
        due("what is left by " + what, state(p), state(sample()));
    }

    // What throws changes nothing but errorAt and, where it is said, THE LINE.
    private static void whatThrowsChangesNothing() {
        throwsAndLeaves("type -1", REFUSED, s -> s.type(-1));
        throwsAndLeaves("type 128", REFUSED, s -> s.type(128));
        throwsAndLeaves("enter outside", OUT, s -> s.enter(8, 0));
        throwsAndLeaves("put outside", OUT, s -> put(s, 0, 10, 1));
        throwsAndLeaves("put above on a number", REFUSED, s -> put(s, 0, 0, Math.nextUp(LIMIT)));
        throwsAndLeaves("put below on a formula", REFUSED, s -> put(s, 1, 0, Math.nextDown(-LIMIT)));
        throwsAndLeaves("put above on an empty cell", REFUSED, s -> put(s, 5, 5, Math.nextUp(LIMIT)));
        throwsAndLeaves("erase outside", OUT, s -> erase(s, -1, 0));
        throwsAndLeaves("erase of an empty cell", NOTHING, s -> erase(s, 5, 5));
        throwsAndLeaves("copy from outside", OUT, s -> s.copy(8, 0, 0, 0));
        throwsAndLeaves("copy to outside", OUT, s -> s.copy(1, 0, 1, 10));
        throwsAndLeaves("copy of an empty cell", NOTHING, s -> s.copy(5, 5, 1, 0));
        throwsAndLeaves("copy of an empty cell to itself", NOTHING, s -> s.copy(5, 5, 5, 5));
        throwsAndLeaves("insert above", OUT, s -> s.insert(-1));
        throwsAndLeaves("insert below", OUT, s -> s.insert(10));
        throwsAndLeaves("delete above", OUT, s -> s.delete(-1));
        throwsAndLeaves("delete below", OUT, s -> s.delete(10));
        throwsAndLeaves("value outside", OUT, s -> s.value(8, 9));
        throwsAndLeaves("value of an empty cell", NOTHING, s -> s.value(5, 5));
        throwsAndLeaves("value of a circle", NOT_NOW, s -> s.value(2, 0));
        throwsAndLeaves("value that is bad", BAD, s -> s.value(3, 0));
        throwsAndLeaves("kind outside", OUT, s -> s.kind(0, -1));
        throwsAndLeaves("text outside", OUT, s -> s.text(8, 0, 0));
        throwsAndLeaves("text of an empty cell", NO_FORMULA, s -> s.text(5, 5, 0));
        throwsAndLeaves("text of a number", NO_FORMULA, s -> s.text(0, 0, 0));
        throwsAndLeaves("reaches from outside", OUT, s -> s.reaches(-1, 0, 0, 0));
        throwsAndLeaves("reaches to outside", OUT, s -> s.reaches(0, 0, 0, 10));

        Probe full = sample().type("+" + "1".repeat(35));
        due("a 41st character", full.typeOne('1'), NOT_NOW);
        due("what is left by it", state(full), state(sample().type("+" + "1".repeat(35))));
    }

    // IllegalArgumentException: it is no FORMULA (THE LINE is empty then, too); errorAt is set.
    private static void aRefusedLineChangesTheLineAndErrorAtAlone() {
        for (String cell : new String[] {"a1", "b1", "c1", "d1", "a2", "f6", "h10"}) {
            Probe p = sample().type("+");
            due("no formula for " + cell, p.enter(cell), REFUSED);
            due("errorAt is set", p.errorAt(), 5);
            due("the line is empty", p.count(0), 0);
            due("no cell is changed by one for " + cell, cells(p), cells(sample()));
        }
    }

    // FormulaSheet(): An empty sheet, an empty LINE.
    private static void newObject() {
        Probe p = new Probe();
        due("errorAt of a new object", p.errorAt(), -1);
        for (int column = 0; column < 8; column++) {
            for (int row = 0; row < 10; row++) {
                String name = Probe.name(column, row);
                due("kind of a new " + name, p.kind(name), 0);
                due("value of a new " + name, p.value(name), NOTHING);
                due("text of a new " + name, p.character(name, 0), NO_FORMULA);
                due("a new " + name + " reaches itself", p.reaches(name, name), false);
            }
        }
        due("a new line has no character", new Probe().typeOne('1'), 1);
        due("a new line is no formula", new Probe().enter("a1"), REFUSED);
        due("a new sheet's first insert", new Probe().insert(0), 0);
        due("a new sheet's first delete", new Probe().delete(9), 0);
        due("a new sheet's erase", new Probe().erase("a1"), NOTHING);
        due("a new sheet's copy", new Probe().copy("a1", "h10"), NOTHING);
    }

    // IllegalArgumentException: out of 0 .. 127.
    private static void typeTakesCharacters() {
        for (int c : new int[] {-1, 128, -128, 255, 256, 65536 + '1', Integer.MIN_VALUE, Integer.MAX_VALUE}) {
            Probe p = new Probe();
            due("character " + c, p.typeOne(c), REFUSED);
            due("character " + c + " is not there", p.count(0), 0);
        }
        Probe p = new Probe();
        for (int c = 0; c <= 39; c++) {
            due("character " + c, p.typeOne(c), c + 1);
        }
        for (int c = 40; c <= 127; c++) {
            due("character " + c + " alone", new Probe().typeOne(c), 1);
        }
    }

    // THE LINE holds at most 40 characters. type: its length. IllegalStateException: 40 there.
    private static void typeTakesForty() {
        Probe p = new Probe();
        for (int length = 1; length <= 40; length++) {
            due("type", p.typeOne('1'), length);
            due("the line's length", p.count(0), length);
        }
        for (int i = 0; i < 3; i++) {
            due("a 41st", p.typeOne('1'), NOT_NOW);
            due("the line's length stays", p.count(0), 40);
        }
        due("a 41st that is 0", p.typeOne(0), NOT_NOW);
        due("a 41st that is 127", p.typeOne(127), NOT_NOW);
    }

    // enter: THE LINE ... is empty then.
    private static void theLineAfterAFullOne() {
        Probe taken = new Probe();
        taken.type("1+".repeat(19) + "12");
        due("a 41st for a full line", taken.typeOne('1'), NOT_NOW);
        due("a full line is entered", taken.enter("a1"), 0);
        due("a full line's value", taken.value("a1"), 31.0);
        due("the first behind a full line", taken.typeOne('7'), 1);
        taken.enter("a2");
        due("nothing of the full line is left", taken.text("a2"), "7");

        Probe refused = new Probe();
        refused.type("1+".repeat(20));
        due("a full line is refused", refused.enter("a1"), REFUSED);
        due("the first behind a refused line", refused.typeOne('7'), 1);
        refused.enter("a2");
        due("nothing of the refused line is left", refused.text("a2"), "7");

        Probe outside = new Probe();
        outside.type("1+".repeat(19) + "12");
        due("a full line outside", outside.enter("i1"), OUT);
        due("it is full still", outside.typeOne('1'), NOT_NOW);
        due("and is entered then", outside.enter("h10") + " " + outside.value("h10"), "0 31.0");
    }

    // put: IllegalArgumentException: above 2^50 or below -2^50.
    private static void putUpToTheLimit() {
        double[] taken = {LIMIT, -LIMIT, Math.nextDown(LIMIT), Math.nextUp(-LIMIT), 0.0, Double.MIN_VALUE,
            -Double.MIN_VALUE, LIMIT - 0.125, 0.125 - LIMIT};
        for (double number : taken) {
            Probe p = new Probe();
            due("put " + number, p.put("a1", number), "");
            due("value of " + number, p.value("a1"), number);
            due("kind of " + number, p.kind("a1"), 1);
        }
        double[] refused = {Math.nextUp(LIMIT), Math.nextDown(-LIMIT), LIMIT + 0.25, -LIMIT - 0.25, LIMIT * 2,
            -LIMIT * 2, Double.MAX_VALUE, -Double.MAX_VALUE, Double.POSITIVE_INFINITY, Double.NEGATIVE_INFINITY};
        for (double number : refused) {
            Probe p = new Probe();
            due("put " + number, p.put("a1", number), REFUSED);
            due("kind after " + number, p.kind("a1"), 0);
        }
    }

    // put, enter: in place of what it has.
    private static void putInPlaceOfAnything() {
        Probe p = sample();
        for (String cell : new String[] {"a1", "b1", "c1", "d1", "a2", "f6"}) {
            due("put on " + cell, p.put(cell, 2), "");
            due("kind of it", p.kind(cell), 1);
            due("value of it", p.value(cell), 2.0);
            due("text of it", p.text(cell), NO_FORMULA);
        }
        due("formulas that are left", p.count(2), 1);
        due("lost ones that are left", p.count(5), 0);
        Probe q = sample();
        q.enter("g1");
        for (String cell : new String[] {"a1", "b1", "c1", "d1", "a2", "f6"}) {
            due("enter on " + cell, q.enter(cell, "3"), 0);
            due("kind of it", q.kind(cell), 2);
            due("value of it", q.value(cell), 3.0);
            due("text of it", q.text(cell), "3");
        }
    }

    // erase: The cell becomes empty. NoSuchElementException: it is so.
    private static void eraseOnce() {
        Probe p = sample();
        for (String cell : new String[] {"a1", "b1", "c1", "d1", "a2", "h10"}) {
            due("erase of " + cell, p.erase(cell), "");
            due("kind of it", p.kind(cell), 0);
            due("value of it", p.value(cell), NOTHING);
            due("text of it", p.text(cell), NO_FORMULA);
            due("erase of it again", p.erase(cell), NOTHING);
        }
        due("what is left", p.count(1), 1);
        Probe moved = new Probe();
        moved.put("a1", 1);
        moved.insert(0);
        due("erase where a row came in", moved.erase("a1"), NOTHING);
        due("erase where it went", moved.erase("a2"), "");
    }

    // kind: 0 empty, 1 a NUMBER, 2 a FORMULA with a double as VALUE, 3 BAD but not CIRCULAR, 4 CIRCULAR.
    private static void kinds() {
        Probe p = new Probe();
        p.put("a1", LIMIT);
        p.put("a2", 0.25);
        p.put("a3", 0.125);
        p.enter("b1", "a1+a3");
        p.enter("b2", "a1+a2");
        p.enter("b3", "@cnt(b2:b2)");
        p.enter("b4", "@if(0,b2,1)");
        p.enter("b5", "@if(0,b5,1)");
        p.enter("b6", "b5");
        p.enter("b7", "@cnt(b5:b6)");
        p.put("a4", 0);
        due("kind of an empty cell", p.kind("h1"), 0);
        due("kind of 0", p.kind("a4"), 1);
        due("kind of the limit", p.kind("a1"), 1);
        due("kind of a formula at the limit", p.kind("b1"), 2);
        due("kind of a formula beyond", p.kind("b2"), 3);
        due("kind of a count of what is bad", p.kind("b3"), 2);
        due("kind of what takes nothing bad", p.kind("b4"), 2);
        due("kind of what needs nothing of itself", p.kind("b5"), 4);
        due("kind of what refers to a circle", p.kind("b6"), 3);
        due("kind of a count of a circle", p.kind("b7"), 2);
        p.erase("b5");
        due("kind of an empty cell that is referred to", p.kind("b5"), 0);
        due("kind of what refers to it", p.kind("b6"), 2);
    }

    // value: NoSuchElementException: it is empty. IllegalStateException: CIRCULAR. ArithmeticException: BAD else.
    private static void valueThrows() {
        Probe p = sample();
        due("value of a number", p.value("a1"), 5.0);
        due("value of a formula", p.value("b1"), 6.0);
        due("value of an empty cell", p.value("f6"), NOTHING);
        due("value of a circle", p.value("c1"), NOT_NOW);
        due("value of a division by 0", p.value("d1"), BAD);
        due("value of lost ones", p.value("a2"), BAD);
        p.put("g1", 0);
        due("0 is not empty", p.value("g1"), 0.0);
    }

    // count, each at its least ...
    private static void countOfNothing() {
        Probe p = new Probe();
        for (int what = 0; what <= 5; what++) {
            due("count " + what + " of a new object", p.count(what), 0);
        }
    }

    // ... and at its greatest. A formula in each cell takes most of an object's calls, so that copies are made.
    private static void countOfAll() {
        Probe p = new Probe();
        p.enter("a1", "1/0");
        for (int cell = 1; cell < 80; cell++) {
            p.copy("a1", Probe.name(cell % 8, cell / 8));
            due("count of cells", p.count(1), cell + 1);
            due("count of formulas", p.count(2), cell + 1);
        }
        due("count of circular cells", p.count(3), 0);
        due("count of bad cells", p.count(4), 80);
        p.put("h10", 1);
        due("count of cells with a number", p.count(1), 80);
        due("count of formulas but one", p.count(2), 79);
        due("count of bad cells but one", p.count(4), 79);
        p.type("1".repeat(40));
        due("count of a full line", p.count(0), 40);
    }

    private static void countOfAllCircular() {
        Probe p = new Probe();
        p.enter("a1", "@cnt($a$1:$h$10)");
        for (int cell = 1; cell < 80; cell++) {
            p.copy("a1", Probe.name(cell % 8, cell / 8));
        }
        due("count of all circular", p.count(3), 80);
        due("count of circular ones as bad", p.count(4), 80);
        p.erase("h10");
        due("count of all but one", p.count(3), 79);
        due("count of all but one as bad", p.count(4), 79);
    }

    // 5: LOST REFERENCES in all FORMULAS, those of RANGES too.
    private static void countOfLost() {
        Probe p = new Probe();
        p.enter("b1", "a1+a1+a1+a1+a1+a1+a1+a1+a1+a1+a1+a1+a1");
        due("none lost", p.count(5), 0);
        for (int row = 1; row <= 10; row++) {
            due("lost by a copy", p.copy("b1", "a" + row), 13);
            due("count of lost ones", p.count(5), 13 * row);
        }
        p.enter("b1", "@sum(a1:$h$1)+@sum($h1:a1)+@sum(a1:b1)");
        due("those of ranges", p.copy("b1", "a1"), 3);
        due("count with those of ranges", p.count(5), 13 * 9 + 3);
        p.put("a2", 1);
        due("a number in place of some", p.count(5), 13 * 8 + 3);
        p.erase("a1");
        due("erased ones", p.count(5), 13 * 8);
        p.delete(2);
        due("ones in a row that goes", p.count(5), 13 * 7);
    }

    // Else -1.
    private static void countOfElse() {
        Probe p = sample();
        for (int what : new int[] {-1, 6, -6, 7, Integer.MIN_VALUE, Integer.MAX_VALUE}) {
            due("count " + what, p.count(what), -1);
        }
        due("count 0", p.count(0), 4);
        due("count 5", p.count(5), 2);
    }

    // An object is used for at most 512 calls after it has been made.
    private static void theLastCallsOfAnObject() {
        Probe copies = new Probe();
        copies.enter("b2", "a1+@sum(a1:b1)");
        int made = 15;
        for (int i = made; i < MOST_CALLS - 1; i++) {
            due("a copy of many", copies.copy("b2", i % 2 == 0 ? "b2" : "c3"), 0);
        }
        due("the 512th call after copies", copies.copy("b2", "a2"), 2);

        Probe lines = new Probe();
        for (int i = 0; i < 12; i++) {
            due("a full line of many", lines.enter("a1", "1+".repeat(19) + "1" + i % 10), 0);
        }
        for (int i = 12 * 41; i < MOST_CALLS - 1; i++) {
            due("a value of many", lines.value("a1"), 30.0);
        }
        due("the 512th call after lines", lines.value("a1"), 30.0);

        Probe rows = new Probe();
        rows.enter("a1", "b10");
        for (int i = 4; i < MOST_CALLS - 1; i++) {
            due("a row of many", i % 2 == 0 ? rows.insert(1) : rows.delete(1), 0);
        }
        due("the 512th call after rows", rows.character("a1", 0), (int) '~');
    }
}
