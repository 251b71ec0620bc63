/**
 * The boundaries of what REFERENCES do when formulas are copied and rows come and go, at each edge of the
 * sheet, and of what is reached by them. A method's comment is the document's sentence that it holds to.
 */
public final class ReferenceBoundariesTest {
    private static final String OUT = Probe.OUT;
    private static final String NOTHING = Probe.NOTHING;
    private static final int LOST = -1;
    private static final String[] SIGNS = {"", "$"};

    public static void main(String[] args) {
        copyToEachEdge();
        copyFromEachToEach();
        copyOfFixedOnes();
        copyOfRanges();
        copyOfLostOnes();
        copyOntoItself();
        copyInPlaceOfAnything();
        copyOfNothing();
        copiesAreApart();
        insertMovesCells();
        insertAtTheEdges();
        insertMovesEachReference();
        insertMovesEachRange();
        insertInRangesByHand();
        insertWhereHalfIsLost();
        deleteMovesCells();
        deleteAtTheEdges();
        deleteMovesEachReference();
        deleteMovesEachRange();
        deleteInRangesByHand();
        deleteWhereHalfIsLost();
        lostStaysLost();
        rowsAgainAndAgain();
        reachesOnceOrMore();
        reachesIntoRanges();
        reachesAfterRows();
        Check.end();
    }

    private static void due(String what, Object got, Object want) {
        Check.due(what, got, want);
    }

    private static void copied(String line, String from, String to, Object lost, String want) {
        Probe p = new Probe();
        p.enter(from, line);
        String what = line + " copied from " + from + " to " + to;
        due(what, p.copy(from, to), lost);
        due("text of " + what, p.text(to), want);
        due("text that is left by " + what, p.text(from), from.equals(to) ? want : line);
        due("lost ones by " + what, p.count(5), lost);
    }

    // In each REFERENCE a letter and row that is not FIXED moves by as much as the second cell lies from the
    // first; beyond the sheet: the REFERENCE is LOST.
    private static void copyToEachEdge() {
        copied("b5", "c5", "b5", 0, "a5");
        copied("b5", "c5", "a5", 1, "~");
        copied("g5", "f5", "g5", 0, "h5");
        copied("g5", "f5", "h5", 1, "~");
        copied("c2", "c3", "c2", 0, "c1");
        copied("c2", "c3", "c1", 1, "~");
        copied("c9", "c8", "c9", 0, "c10");
        copied("c9", "c8", "c10", 1, "~");
        copied("h10", "a1", "a1", 0, "h10");
        copied("a1", "a1", "h10", 0, "h10");
        copied("a1", "h10", "h10", 0, "a1");
        copied("h10", "h10", "a1", 0, "a1");
        copied("b1", "a1", "h10", 1, "~");
        copied("a2", "a1", "h10", 1, "~");
        copied("g10", "h10", "a1", 1, "~");
        copied("h9", "h10", "a1", 1, "~");
        copied("h10+a1", "a1", "b2", 1, "~+b2");
        copied("1+2", "a1", "h10", 0, "1+2");
        copied("b2+b2+b2", "b2", "a1", 0, "a1+a1+a1");
        copied("a2+b2+c2", "b2", "a1", 1, "~+a1+b1");
    }

    private static void copyFromEachToEach() {
        for (int from = 0; from < 80; from++) {
            for (int to = 0; to < 80; to++) {
                Probe p = new Probe();
                p.enter(Probe.name(from / 10, from % 10), "e6");
                int column = 4 + to / 10 - from / 10;
                int row = 5 + to % 10 - from % 10;
                boolean inside = column >= 0 && column <= 7 && row >= 0 && row <= 9;
                String what = "e6 from cell " + from + " to cell " + to;
                due(what, p.sheet().copy(from / 10, from % 10, to / 10, to % 10), inside ? 0 : 1);
                due("text of " + what, p.text(Probe.name(to / 10, to % 10)), inside ? Probe.name(column, row) : "~");
            }
        }
    }

    // A $ before the letter or row makes it FIXED.
    private static void copyOfFixedOnes() {
        copied("$a5", "c5", "a5", 0, "$a5");
        copied("$a5", "c5", "h10", 0, "$a10");
        copied("$a5", "c4", "c10", 1, "~");
        copied("$a5", "c5", "h1", 0, "$a1");
        copied("$a5", "c6", "c1", 1, "~");
        copied("b$1", "c5", "b1", 0, "a$1");
        copied("b$1", "c5", "a1", 1, "~");
        copied("g$10", "c5", "d10", 0, "h$10");
        copied("g$10", "c5", "e10", 1, "~");
        copied("$a$1", "h10", "a1", 0, "$a$1");
        copied("$h$10", "a1", "h10", 0, "$h$10");
        copied("a1+$a1+a$1+$a$1", "b2", "a1", 3, "~+~+~+$a$1");
        copied("a1+$a1+a$1+$a$1", "b2", "a2", 2, "~+$a1+~+$a$1");
        copied("a1+$a1+a$1+$a$1", "b2", "b1", 2, "~+~+a$1+$a$1");
    }

    // how many REFERENCES (those of RANGES, too) are LOST by it
    private static void copyOfRanges() {
        copied("@sum(b2:c3)", "d4", "c3", 0, "@sum(a1:b2)");
        copied("@sum(b2:c3)", "d4", "b3", 1, "@sum(~:a2)");
        copied("@sum(c3:b2)", "d4", "b3", 1, "@sum(a2:~)");
        copied("@sum(b2:c3)", "d4", "a3", 2, "@sum(~:~)");
        copied("@sum(b2:c3)", "d4", "c2", 1, "@sum(~:b1)");
        copied("@sum(b2:c3)", "d4", "c1", 2, "@sum(~:~)");
        copied("@sum(f8:g9)", "d4", "e5", 0, "@sum(g9:h10)");
        copied("@sum(f8:g9)", "d4", "f5", 1, "@sum(h9:~)");
        copied("@sum(f8:g9)", "d4", "e6", 1, "@sum(g10:~)");
        copied("@sum(f8:g9)", "d4", "h8", 2, "@sum(~:~)");
        copied("@sum($b$2:c3)", "d4", "a1", 1, "@sum($b$2:~)");
        copied("@sum($b$2:$c$3)", "d4", "a1", 0, "@sum($b$2:$c$3)");
        copied("@cnt(b1:b1)+b1", "b1", "a1", 0, "@cnt(a1:a1)+a1");
        copied("@cnt(a1:a1)+a1", "b1", "a1", 3, "@cnt(~:~)+~");
        copied("@if(a1,-a1,@abs(a1))&!a1", "b1", "a1", 4, "@if(~,-~,@abs(~))&!~");
    }

    private static void copyOfLostOnes() {
        Probe p = new Probe();
        p.enter("b2", "a1+@sum(a1:c3)+b2");
        due("some are lost", p.copy("b2", "a2"), 2);
        due("text with lost ones", p.text("a2"), "~+@sum(~:b3)+a2");
        due("lost ones are not lost once more", p.copy("a2", "g2"), 0);
        due("lost ones do not come back", p.text("g2"), "~+@sum(~:h3)+g2");
        due("what is left is lost then", p.copy("g2", "h10"), 1);
        due("text with one more", p.text("h10"), "~+@sum(~:~)+h10");
        due("all that is lost", p.count(5), 2 + 2 + 3);
        due("back again", p.copy("h10", "b2"), 0);
        due("back again, its text", p.text("b2"), "~+@sum(~:~)+b2");
    }

    // (perhaps the same one, which then stays as it is)
    private static void copyOntoItself() {
        for (String line : new String[] {"1", "a1+$h$10", "@sum(a1:h10)", "-(1+b2)*007.50"}) {
            Probe p = new Probe();
            p.enter("c3", line);
            String before = p.text("c3") + p.kind("c3");
            due(line + " onto itself", p.copy("c3", "c3"), 0);
            due(line + " stays", p.text("c3") + p.kind("c3"), before);
            due(line + " is one", p.count(1), 1);
        }
        Probe p = new Probe();
        p.put("a1", 4);
        due("a number onto itself", p.copy("a1", "a1"), 0);
        due("a number stays", p.value("a1"), 4.0);
        p.enter("b1", "a1");
        p.copy("b1", "a2");
        due("a lost one onto itself", p.copy("a2", "a2"), 0);
        due("a lost one stays", p.text("a2") + p.count(5), "~1");
    }

    // in place of what that has
    private static void copyInPlaceOfAnything() {
        String[] lines = {"b1", "h1*2", "1/0", "a1"};
        for (String line : lines) {
            Probe p = new Probe();
            p.enter("a1", line);
            p.put("c1", 7);
            due("a number over " + line, p.copy("c1", "a1"), 0);
            due("a number over " + line + ", its kind", p.kind("a1") + p.value("a1"), "17.0");
            p.enter("a1", line);
            p.enter("c1", "$d$1+3");
            due("a formula over " + line, p.copy("c1", "a1"), 0);
            due("a formula over " + line + ", its text", p.text("a1"), "$d$1+3");
            due("a formula over " + line + ", how many", p.count(1), 2);
        }
        Probe p = new Probe();
        p.put("a1", 7);
        p.enter("b1", "c1");
        due("a formula over a number", p.copy("b1", "a1"), 0);
        due("a formula over a number, its text", p.text("a1"), "b1");
        due("a formula to an empty cell", p.copy("b1", "b2") + p.text("b2"), "0c2");
    }

    // NoSuchElementException: the first cell is empty.
    private static void copyOfNothing() {
        Probe p = new Probe();
        p.put("a1", 1);
        due("nothing copied to a number", p.copy("b1", "a1"), NOTHING);
        due("the number stays", p.value("a1"), 1.0);
        due("nothing copied to itself", p.copy("b1", "b1"), NOTHING);
        due("nothing copied to outside", p.copy("b1", "i1"), OUT);
        due("nothing copied to outside below", p.copy("b1", "a11"), OUT);
        p.erase("a1");
        due("what was erased", p.copy("a1", "b1"), NOTHING);
    }

    // Copies go their own ways when rows come and go.
    private static void copiesAreApart() {
        Probe p = new Probe();
        p.enter("a5", "$b$7+@sum($b$7:$c$8)+1.5");
        p.copy("a5", "b5");
        p.copy("a5", "a5");
        p.insert(5);
        due("the first", p.text("a5"), "$b$8+@sum($b$8:$c$9)+1.5");
        due("its copy", p.text("b5"), "$b$8+@sum($b$8:$c$9)+1.5");
        p.delete(7);
        due("the first again", p.text("a5"), "~+@sum($b$8:$c$8)+1.5");
        due("its copy again", p.text("b5"), "~+@sum($b$8:$c$8)+1.5");
        due("both are counted", p.count(5), 2);
    }

    private static Probe numbered() {
        Probe p = new Probe();
        for (int row = 1; row <= 10; row++) {
            p.put("a" + row, row);
            p.put("h" + row, -row);
        }
        return p;
    }

    // A row of empty cells comes in at this row: it and those below move down by one, the last one is lost:
    // how many cells of that were not empty.
    private static void insertMovesCells() {
        for (int row = 0; row <= 9; row++) {
            Probe p = numbered();
            p.put("d10", 5);
            due("insert at " + row, p.insert(row), 3);
            for (int at = 1; at <= 10; at++) {
                Object want = at <= row ? at + ".0" : at == row + 1 ? NOTHING : at - 1 + ".0";
                due("a" + at + " after insert at " + row, p.value("a" + at), want);
                due("h" + at + " after insert at " + row, p.value("h" + at),
                    want.equals(NOTHING) ? NOTHING : "-" + want);
            }
            due("how many after insert at " + row, p.count(1), 18);
            due("what was in the last row, at " + row, p.kind("d10"), 0);
        }
    }

    private static void insertAtTheEdges() {
        due("insert in an empty sheet", new Probe().insert(0), 0);
        Probe last = new Probe();
        for (int column = 0; column < 8; column++) {
            last.sheet().put(column, 9, 1);
        }
        due("a full last row", last.insert(9), 8);
        due("nothing is left of it", last.count(1), 0);
        Probe above = new Probe();
        for (int column = 0; column < 8; column++) {
            above.sheet().put(column, 8, 1);
        }
        due("a full row before the last", above.insert(9), 0);
        due("a row before the last goes down", above.insert(8), 0);
        due("and is lost then", above.insert(0), 8);
        Probe formulas = new Probe();
        formulas.enter("a10", "b1/0");
        formulas.enter("b10", "b10");
        due("formulas of the last row", formulas.insert(9), 2);
        due("no formula is left", formulas.count(2), 0);
        due("no circle is left", formulas.count(3), 0);
    }

    private static String written(String columnSign, String rowSign, int row) {
        return row == LOST ? "~" : columnSign + "c" + rowSign + (row + 1);
    }

    /** The text of a line in d1 (d2 if the first row goes) when a row came in or went. */
    private static String after(boolean in, int row, String line) {
        Probe p = new Probe();
        p.enter(!in && row == 0 ? "d2" : "d1", line);
        due("rows for " + line, in ? p.insert(row) : p.delete(row), 0);
        return p.text(in && row == 0 ? "d2" : "d1");
    }

    // Then all REFERENCES, FIXED or not: a row that is this one or below gets one more; one that is beyond the
    // sheet then: LOST ...
    private static void insertMovesEachReference() {
        for (int row = 0; row <= 9; row++) {
            for (int of = 0; of <= 9; of++) {
                int to = of < row ? of : of < 9 ? of + 1 : LOST;
                for (String columnSign : SIGNS) {
                    for (String rowSign : SIGNS) {
                        String line = written(columnSign, rowSign, of);
                        due(line + " after insert at " + row, after(true, row, line), written(columnSign, rowSign, to));
                    }
                }
            }
        }
    }

    // ... but the REFERENCE of a RANGE with the greater row (of equal ones the second) stays at the last row
    // instead.
    private static void insertMovesEachRange() {
        for (int row = 0; row <= 9; row++) {
            for (int first = 0; first <= 9; first++) {
                for (int second = 0; second <= 9; second++) {
                    int toFirst = first < row ? first : first < 9 ? first + 1 : first > second ? 9 : LOST;
                    int toSecond = second < row ? second : second < 9 ? second + 1 : second >= first ? 9 : LOST;
                    String line = "@sum(" + written("", "$", first) + ":" + written("$", "", second) + ")";
                    due(line + " after insert at " + row, after(true, row, line),
                        "@sum(" + written("", "$", toFirst) + ":" + written("$", "", toSecond) + ")");
                }
            }
        }
    }

    private static void insertInRangesByHand() {
        due("a range's end leaves the sheet", after(true, 0, "@sum(a1:b10)"), "@sum(a2:b10)");
        due("a range's end leaves the sheet, turned", after(true, 0, "@sum(b10:a1)"), "@sum(b10:a2)");
        due("two rows become one", after(true, 9, "@sum(a9:b10)"), "@sum(a9:b10)");
        due("two rows become one, from above", after(true, 8, "@sum(a9:b10)"), "@sum(a10:b10)");
        due("two rows become one, turned", after(true, 8, "@sum(a10:b9)"), "@sum(a10:b10)");
        due("of equal ones the second", after(true, 9, "@sum(a10:b10)"), "@sum(~:b10)");
        due("of one cell the second", after(true, 9, "@sum(a10:a10)"), "@sum(~:a10)");
        due("equal ones, the greater column first", after(true, 9, "@sum(b10:a10)"), "@sum(~:a10)");
        due("equal ones, fixed", after(true, 0, "@sum($a$10:$b$10)"), "@sum(~:$b$10)");
        due("equal ones before the last row", after(true, 8, "@sum(a9:b9)"), "@sum(a10:b10)");
        due("by itself beside a range", after(true, 5, "a10+@sum(a9:a10)+a9"), "~+@sum(a10:a10)+a10");
        for (String name : new String[] {"sum", "min", "max", "cnt", "avg"}) {
            due(name + " in all else", after(true, 1, "@if(1,2,-(3+@" + name + "(a1:b10)))"),
                "@if(1,2,-(3+@" + name + "(a1:b10)))");
        }
    }

    /** A RANGE one of whose REFERENCES is LOST, in d1 (d2 if the first row goes), and the other in this row. */
    private static Probe halfLost(boolean firstIsLost, int of, String cell) {
        Probe p = new Probe();
        String kept = "$c$" + (of + 1);
        String row = cell.substring(1);
        p.enter("e" + row, firstIsLost ? "@sum(a5:" + kept + ")" : "@sum(" + kept + ":a5)");
        p.copy("e" + row, cell);
        p.erase("e" + row);
        return p;
    }

    private static void halfLostAfter(boolean in, int row, int of, int to) {
        for (boolean firstIsLost : new boolean[] {true, false}) {
            Probe p = halfLost(firstIsLost, of, !in && row == 0 ? "d2" : "d1");
            due("half is lost", p.count(5), 1);
            due("rows for a half", in ? p.insert(row) : p.delete(row), 0);
            String kept = written("$", "$", to);
            due("half of a range of row " + of + " after " + (in ? "insert" : "delete") + " at " + row,
                p.text(in && row == 0 ? "d2" : "d1"), firstIsLost ? "@sum(~:" + kept + ")" : "@sum(" + kept + ":~)");
            due("lost ones then", p.count(5), to == LOST ? 2 : 1);
        }
    }

    // (If one REFERENCE of a RANGE is LOST already, the other is as one by itself; so in delete.)
    private static void insertWhereHalfIsLost() {
        for (int row = 0; row <= 9; row++) {
            for (int of = 0; of <= 9; of++) {
                halfLostAfter(true, row, of, of < row ? of : of < 9 ? of + 1 : LOST);
            }
        }
    }

    private static void deleteWhereHalfIsLost() {
        for (int row = 0; row <= 9; row++) {
            for (int of = 0; of <= 9; of++) {
                halfLostAfter(false, row, of, of < row ? of : of > row ? of - 1 : LOST);
            }
        }
    }

    // The row goes, those below move up, the last one is empty: how many cells of the row were not empty.
    private static void deleteMovesCells() {
        for (int row = 0; row <= 9; row++) {
            Probe p = numbered();
            p.put("d" + (row + 1), 5);
            due("delete of " + row, p.delete(row), 3);
            for (int at = 1; at <= 10; at++) {
                Object want = at == 10 ? NOTHING : at <= row ? at + ".0" : at + 1 + ".0";
                due("a" + at + " after delete of " + row, p.value("a" + at), want);
                due("h" + at + " after delete of " + row, p.value("h" + at),
                    want.equals(NOTHING) ? NOTHING : "-" + want);
            }
            due("how many after delete of " + row, p.count(1), 18);
            due("what was in the row " + row, p.kind("d" + (row + 1)), 0);
        }
    }

    private static void deleteAtTheEdges() {
        due("delete in an empty sheet", new Probe().delete(0), 0);
        for (int row : new int[] {0, 9}) {
            Probe p = new Probe();
            for (int column = 0; column < 8; column++) {
                p.sheet().put(column, row, 1);
            }
            due("an empty row beside " + row, p.delete(5), 0);
            due("a full row " + row, p.delete(row == 9 ? 8 : 0), 8);
            due("nothing is left of row " + row, p.count(1), 0);
        }
        Probe formulas = new Probe();
        formulas.enter("a10", "b1/0");
        formulas.enter("b10", "b10");
        due("formulas of the last row", formulas.delete(9), 2);
        due("no formula is left", formulas.count(2), 0);
        Probe up = new Probe();
        up.put("a10", 1);
        for (int i = 0; i < 9; i++) {
            due("an empty row above", up.delete(0), 0);
        }
        due("the last row is the first then", up.value("a1"), 1.0);
        due("and goes", up.delete(0), 1);
    }

    // Then all REFERENCES, FIXED or not: a row below gets one less; one to the row itself: LOST ...
    private static void deleteMovesEachReference() {
        for (int row = 0; row <= 9; row++) {
            for (int of = 0; of <= 9; of++) {
                int to = of < row ? of : of > row ? of - 1 : LOST;
                for (String columnSign : SIGNS) {
                    for (String rowSign : SIGNS) {
                        String line = written(columnSign, rowSign, of);
                        due(line + " after delete of " + row, after(false, row, line),
                            written(columnSign, rowSign, to));
                    }
                }
            }
        }
    }

    // ... but in a RANGE of different rows the REFERENCE with the lesser row stays as it is, the one with the
    // greater gets one less.
    private static void deleteMovesEachRange() {
        for (int row = 0; row <= 9; row++) {
            for (int first = 0; first <= 9; first++) {
                for (int second = 0; second <= 9; second++) {
                    String line = "@sum(" + written("", "$", first) + ":" + written("$", "", second) + ")";
                    due(line + " after delete of " + row, after(false, row, line),
                        "@sum(" + written("", "$", rangeRowAfterDelete(first, second, row)) + ":"
                            + written("$", "", rangeRowAfterDelete(second, first, row)) + ")");
                }
            }
        }
    }

    private static int rangeRowAfterDelete(int of, int other, int row) {
        if (of != row) {
            return of > row ? of - 1 : of;
        }
        return of == other ? LOST : of < other ? of : of - 1;
    }

    private static void deleteInRangesByHand() {
        due("the lesser row", after(false, 2, "@sum(a3:b5)"), "@sum(a3:b4)");
        due("the lesser row, turned", after(false, 2, "@sum(b5:a3)"), "@sum(b4:a3)");
        due("the greater row", after(false, 4, "@sum(a3:b5)"), "@sum(a3:b4)");
        due("the greater row, turned", after(false, 4, "@sum(b5:a3)"), "@sum(b4:a3)");
        due("between", after(false, 3, "@sum(a3:b5)"), "@sum(a3:b4)");
        due("just above", after(false, 1, "@sum(a3:b5)"), "@sum(a2:b4)");
        due("just below", after(false, 5, "@sum(a3:b5)"), "@sum(a3:b5)");
        due("two rows, the lesser", after(false, 2, "@sum(a3:b4)"), "@sum(a3:b3)");
        due("two rows, the greater", after(false, 3, "@sum(a3:b4)"), "@sum(a3:b3)");
        due("one row", after(false, 2, "@sum(a3:b3)"), "@sum(~:~)");
        due("one cell", after(false, 2, "@sum($a$3:$a$3)"), "@sum(~:~)");
        due("one row below", after(false, 1, "@sum(a3:b3)"), "@sum(a2:b2)");
        due("one row above", after(false, 3, "@sum(a3:b3)"), "@sum(a3:b3)");
        due("the whole height, its first", after(false, 0, "@sum(a1:b10)"), "@sum(a1:b9)");
        due("the whole height, its last", after(false, 9, "@sum(a1:b10)"), "@sum(a1:b9)");
        due("the last two, the last", after(false, 9, "@sum(b10:a9)"), "@sum(b9:a9)");
        due("the first two, the first", after(false, 0, "@sum(b2:a1)"), "@sum(b1:a1)");
        due("by itself beside a range", after(false, 2, "a3+@sum(a3:a4)+a4"), "~+@sum(a3:a3)+a3");
    }

    private static void lostStaysLost() {
        Probe p = new Probe();
        p.enter("a1", "b10+@cnt(b10:c10)");
        p.insert(9);
        due("lost by insert", p.text("a1"), "~+@cnt(~:c10)");
        for (int row = 1; row <= 9; row++) {
            p.delete(9);
            p.insert(row);
            due("lost still", p.text("a1"), "~+@cnt(~:~)");
            due("counted still", p.count(5), 3);
        }
        Probe q = new Probe();
        q.enter("a1", "b2+@cnt(b2:c2)");
        q.delete(1);
        due("lost by delete", q.text("a1"), "~+@cnt(~:~)");
        q.insert(1);
        due("a row that comes in again brings none back", q.text("a1"), "~+@cnt(~:~)");
        q.delete(1);
        due("nor does one that goes", q.text("a1"), "~+@cnt(~:~)");
    }

    private static void rowsAgainAndAgain() {
        Probe p = new Probe();
        p.enter("a1", "b2+@sum(b2:b3)");
        String[] rows = {"b3+@sum(b3:b4)", "b4+@sum(b4:b5)", "b5+@sum(b5:b6)", "b6+@sum(b6:b7)", "b7+@sum(b7:b8)",
            "b8+@sum(b8:b9)", "b9+@sum(b9:b10)", "b10+@sum(b10:b10)", "~+@sum(~:b10)", "~+@sum(~:~)"};
        for (String want : rows) {
            p.insert(1);
            due("one row more", p.text("a1"), want);
        }
        Probe q = new Probe();
        q.enter("a1", "b10+@sum(b9:b10)");
        for (int row = 9; row >= 2; row--) {
            q.delete(1);
            String due = row == 2 ? "b2+@sum(b2:b2)" : "b" + row + "+@sum(b" + (row - 1) + ":b" + row + ")";
            due("one row less", q.text("a1"), due);
        }
        q.delete(1);
        due("no row left", q.text("a1"), "~+@sum(~:~)");
    }

    // Whether the first cell can get to the second by going on to cells that are REFERRED to, once or more.
    private static void reachesOnceOrMore() {
        Probe p = new Probe();
        due("not at all", p.reaches("a1", "a1"), false);
        p.put("a1", 1);
        due("a number, itself", p.reaches("a1", "a1"), false);
        p.enter("a1", "1");
        due("a formula without any, itself", p.reaches("a1", "a1"), false);
        p.enter("a1", "b1");
        due("once", p.reaches("a1", "b1"), true);
        due("none, itself", p.reaches("a1", "a1"), false);
        due("not yet twice", p.reaches("a1", "c1"), false);
        p.enter("b1", "c1");
        due("twice", p.reaches("a1", "c1"), true);
        p.enter("c1", "h10");
        due("three times", p.reaches("a1", "h10"), true);
        due("from an empty cell", p.reaches("h10", "c1"), false);
        p.enter("h10", "a1");
        due("round to itself", p.reaches("a1", "a1"), true);
        due("round to the one before", p.reaches("a1", "h10") + p.reaches("h10", "c1"), "truetrue");
        p.erase("c1");
        due("through an erased one", p.reaches("a1", "h10"), false);
        due("to an erased one", p.reaches("a1", "c1"), true);
        p.enter("d1", "d1");
        due("itself at once", p.reaches("d1", "d1"), true);
        due("itself alone", p.reaches("d1", "a1") + p.reaches("a1", "d1"), "falsefalse");
    }

    private static void reachesIntoRanges() {
        for (String range : new String[] {"c3:e5", "e5:c3", "c5:e3", "e3:c5"}) {
            Probe p = new Probe();
            p.enter("a1", "@if(1,2,@cnt(" + range + "))");
            for (int column = 0; column < 8; column++) {
                for (int row = 0; row < 10; row++) {
                    boolean inside = column >= 2 && column <= 4 && row >= 2 && row <= 4;
                    due(range + " reaches " + column + ", " + row, p.sheet().reaches(0, 0, column, row), inside);
                }
            }
        }
        Probe all = new Probe();
        all.enter("a1", "@cnt(b1:h10)");
        due("the sheet's last cell", all.reaches("a1", "h10"), true);
        due("the sheet's last row", all.reaches("a1", "b10"), true);
        due("beside the range", all.reaches("a1", "a10"), false);
    }

    private static void reachesAfterRows() {
        Probe p = new Probe();
        p.enter("a1", "b9+b10");
        p.insert(5);
        due("what went down", p.reaches("a1", "b10"), true);
        due("what was there", p.reaches("a1", "b9"), false);
        p.insert(5);
        due("what is lost", p.reaches("a1", "b10"), false);
        p.enter("a1", "a2");
        p.enter("a2", "a1");
        due("a circle before", p.count(3), 2);
        p.delete(1);
        due("a circle whose other goes", p.count(3) + p.kind("a1"), "03");
        p.enter("a1", "@cnt(a2:a10)");
        p.insert(0);
        due("a range that went down with its cell", p.kind("a2") + p.reaches("a2", "a3"), "2true");
        p.enter("a5", "a4");
        p.insert(4);
        due("a cell that went away from what it refers to", p.text("a6") + p.kind("a6"), "a42");
    }
}
