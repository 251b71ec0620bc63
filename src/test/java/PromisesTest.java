/** For each promise of the document ordinary inputs, the edges that it names, and wrong inputs. */
public final class PromisesTest {
    private static final double LIMIT = Probe.LIMIT;
    private static final String OUT = Probe.OUT;
    private static final String REFUSED = Probe.REFUSED;
    private static final String NOT_NOW = Probe.NOT_NOW;
    private static final String NOTHING = Probe.NOTHING;
    private static final String BAD = Probe.BAD;
    private static final String NO_FORMULA = Probe.NO_FORMULA;

    public static void main(String[] args) {
        promise1NewObject();
        promise2Type();
        promise3Enter();
        promise4ErrorAt();
        promise4ErrorAtInNamesAndReferences();
        promise5Put();
        promise6Erase();
        promise7Copy();
        promise8Insert();
        promise9Delete();
        promise10Value();
        promise10ValueOfRanges();
        promise10ValueOfCells();
        promise10ValueOfNaN();
        noOperationAnswersNaN();
        promise11Kind();
        promise12Text();
        promise13Reaches();
        promise14Count();
        outsideTheSheet();
        whatThrowsChangesNothing();
        Check.end();
    }

    private static void due(String what, Object got, Object want) {
        Check.due(what, got, want);
    }

    private static void promise1NewObject() {
        Probe p = new Probe();
        for (int what = 0; what <= 5; what++) {
            due("1: count " + what + " of a new sheet", p.count(what), 0);
        }
        for (int column = 0; column < 8; column++) {
            for (int row = 0; row < 10; row++) {
                due("1: kind of a new cell", p.sheet().kind(column, row), 0);
            }
        }
        due("1: errorAt", p.errorAt(), -1);
        Probe other = new Probe();
        other.put("a1", 1);
        other.type("a1");
        due("1: objects share no cells", p.kind("a1"), 0);
        due("1: objects share no line", p.count(0), 0);
    }

    private static void promise2Type() {
        Probe p = new Probe();
        due("2: -1", p.typeOne(-1), REFUSED);
        due("2: 128", p.typeOne(128), REFUSED);
        due("2: least", p.typeOne(0), 1);
        due("2: greatest", p.typeOne(127), 2);
        for (int length = 3; length <= 40; length++) {
            due("2: length", p.typeOne('1'), length);
        }
        due("2: a full line", p.typeOne('1'), NOT_NOW);
        due("2: wrong comes before full", p.typeOne(128), REFUSED);
        due("2: what was refused is not there", p.count(0), 40);
    }

    private static void promise3Enter() {
        Probe p = new Probe();
        due("3: no reference", p.enter("a1", "1+2"), 0);
        due("3: the line is empty then", p.count(0), 0);
        due("3: each cell once", p.enter("a1", "b1+$b$1+@sum(b1:c2)+c2"), 4);
        due("3: the whole sheet", p.enter("a1", "@cnt(h10:a1)"), 80);
        due("3: corners either way", p.enter("a1", "@sum(c4:b9)"), 12);
        due("3: what is not needed, too", p.enter("a1", "@if(1,b1,c1)"), 2);
        due("3: itself", p.enter("a1", "a1"), 1);
        p.put("b2", 7);
        p.enter("b2", "3");
        due("3: in place of a number", p.value("b2"), 3.0);
        due("3: refused", p.enter("b2", "4+"), REFUSED);
        due("3: refused leaves the cell", p.value("b2"), 3.0);
        due("3: refused empties the line", p.count(0), 0);
        due("3: an empty line is refused", p.enter("b2"), REFUSED);
        p.type("5");
        due("3: outside", p.enter("i1"), OUT);
        due("3: outside leaves the line", p.count(0), 1);
        p.enter("b2");
        due("3: the line that was left", p.value("b2"), 5.0);
        due("3: 40 characters", p.enter("a1", "1+1+1+1+1+1+1+1+1+1+1+1+1+1+1+1+1+1+1+10"), 0);
        due("3: 40 characters' value", p.value("a1"), 29.0);
        due("3: a blank", p.enter("a1", "1 +2"), REFUSED);
        due("3: a capital", p.enter("a1", "A1"), REFUSED);
        due("3: ~ can't be typed", p.enter("a1", "~"), REFUSED);
    }

    private static void promise4ErrorAt() {
        due("4: empty", new Probe().refused(""), 0);
        due("4: unfinished", new Probe().refused("1+"), 2);
        due("4: two signs", new Probe().refused("--1"), 1);
        due("4: minus behind minus", new Probe().refused("1--1"), -1);
        due("4: minus behind minus twice", new Probe().refused("1---1"), 3);
        due("4: not not", new Probe().refused("!!1"), 1);
        due("4: not in a comparison", new Probe().refused("!1=2"), 2);
        due("4: not behind a comparison", new Probe().refused("1=!2"), 2);
        due("4: not behind and", new Probe().refused("1&!2"), -1);
        due("4: minus not", new Probe().refused("-!1"), 1);
        due("4: two comparisons", new Probe().refused("1=2=3"), 3);
        due("4: comparisons with brackets", new Probe().refused("(1=2)=3"), -1);
        due("4: a bracket too many", new Probe().refused("(1))"), 3);
        due("4: a bracket too few", new Probe().refused("(1"), 2);
        due("4: empty brackets", new Probe().refused("()"), 1);
        due("4: nine digits", new Probe().refused("123456789"), -1);
        due("4: ten digits", new Probe().refused("1234567890"), 9);
        due("4: nothing behind the point", new Probe().refused("1."), 2);
        due("4: a sign behind the point", new Probe().refused("1.+"), 2);
        due("4: four digits behind", new Probe().refused("1.2345"), -1);
        due("4: five digits behind", new Probe().refused("1.23456"), 6);
        due("4: two points", new Probe().refused("1.2.3"), 3);
        due("4: nothing before the point", new Probe().refused(".5"), 0);
        due("4: six brackets", new Probe().refused("((((((1))))))"), -1);
        due("4: seven brackets", new Probe().refused("(((((((1"), 6);
        due("4: six open at a time again", new Probe().refused("((((((1))))))+((((((2))))))"), -1);
        due("4: six with a name's", new Probe().refused("(((((@abs(1))))))"), -1);
        due("4: the @ of a seventh", new Probe().refused("((((((@abs(1)))))))"), 6);
        due("4: a range's bracket counts", new Probe().refused("((((((@sum(a1:a2)"), 6);
        due("4: names in names", new Probe().refused("@abs(@abs(@abs(@abs(@abs(@abs(1"), 31);
        due("4: names in names closed", new Probe().refused("@abs(@abs(@abs(@abs(@abs(@abs(1))))))"), -1);
        due("4: a full line that is not finished", new Probe().refused("1+1+1+1+1+1+1+1+1+1+1+1+1+1+1+1+1+1+1+1+"), 40);
        due("4: a blank", new Probe().refused("1 "), 1);
        due("4: character 0", new Probe().refused("\0"), 0);
        due("4: a comma by itself", new Probe().refused("1,2"), 1);
    }

    private static void promise4ErrorAtInNamesAndReferences() {
        Probe p = new Probe();
        due("4: a name's third", new Probe().refused("@sux"), 3);
        due("4: a name's second", new Probe().refused("@sx"), 2);
        due("4: a name's first", new Probe().refused("@x"), 1);
        due("4: a name alone", new Probe().refused("@"), 1);
        due("4: a name without bracket", new Probe().refused("@sum"), 4);
        due("4: a name that goes on", new Probe().refused("@sumx"), 4);
        due("4: if and int", new Probe().refused("@i("), 2);
        due("4: int cut", new Probe().refused("@in("), 3);
        due("4: if too long", new Probe().refused("@ift"), 3);
        due("4: min and max", new Probe().refused("@mix"), 3);
        due("4: avg and abs", new Probe().refused("@avs"), 3);
        due("4: cnt", new Probe().refused("@cnx"), 3);
        due("4: a range alone", new Probe().refused("@sum(a1)"), 7);
        due("4: a range's row", new Probe().refused("@sum(a10:b10)"), -1);
        due("4: a numeral for a range", new Probe().refused("@sum(1)"), 5);
        due("4: more than a range", new Probe().refused("@sum(a1:a2+1)"), 10);
        due("4: a range in brackets", new Probe().refused("@sum((a1:a2))"), 5);
        due("4: a range outside", new Probe().refused("a1:a2"), 2);
        due("4: a range for abs", new Probe().refused("@abs(a1:a2)"), 7);
        due("4: two for abs", new Probe().refused("@abs(1,2)"), 6);
        due("4: two for if", new Probe().refused("@if(1,2)"), 7);
        due("4: four for if", new Probe().refused("@if(1,2,3,4)"), 9);
        due("4: no column", new Probe().refused("i1"), 0);
        due("4: row 0", new Probe().refused("a0"), 1);
        due("4: row 10", new Probe().refused("a10"), -1);
        due("4: row 11", new Probe().refused("a11"), 2);
        due("4: row 20", new Probe().refused("a20"), 2);
        due("4: row 100", new Probe().refused("a100"), 3);
        due("4: row 01", new Probe().refused("a01"), 1);
        due("4: no row", new Probe().refused("a"), 1);
        due("4: two letters", new Probe().refused("aa1"), 1);
        due("4: $ alone", new Probe().refused("$"), 1);
        due("4: $ before a row alone", new Probe().refused("$1"), 1);
        due("4: two $", new Probe().refused("$$a1"), 1);
        due("4: two $ before the row", new Probe().refused("a$$1"), 2);
        due("4: $ behind", new Probe().refused("a1$"), 2);
        due("4: all fixed", new Probe().refused("$a$1"), -1);

        p.refused("1+");
        due("4: asked again", p.errorAt(), 2);
        p.type("1").enter("i1");
        due("4: outside leaves it", p.errorAt(), 2);
        p.put("a1", 3);
        due("4: put leaves it", p.errorAt(), 2);
        p.enter("a1");
        due("4: entered since", p.errorAt(), -1);
    }

    private static void promise5Put() {
        Probe p = new Probe();
        due("5: a number", p.put("a1", -2.5), "");
        due("5: its value", p.value("a1"), -2.5);
        due("5: the greatest", p.put("a1", LIMIT), "");
        due("5: the greatest's value", p.value("a1"), LIMIT);
        due("5: the least", p.put("b1", -LIMIT), "");
        due("5: above", p.put("a1", LIMIT + 1), REFUSED);
        due("5: a little above", p.put("a1", Math.nextUp(LIMIT)), REFUSED);
        due("5: below", p.put("a1", Math.nextDown(-LIMIT)), REFUSED);
        due("5: without end", p.put("a1", Double.POSITIVE_INFINITY), REFUSED);
        due("5: without end below", p.put("a1", Double.NEGATIVE_INFINITY), REFUSED);
        due("5: refused leaves the cell", p.value("a1"), LIMIT);
        due("5: outside comes first", p.put("a11", LIMIT * 2), OUT);
        p.enter("c1", "1/0");
        p.put("c1", 4);
        due("5: in place of a formula", p.kind("c1"), 1);
        due("5: in place of a formula, the text", p.text("c1"), NO_FORMULA);
    }

    private static void promise6Erase() {
        Probe p = new Probe();
        due("6: empty", p.erase("a1"), NOTHING);
        p.put("a1", 0);
        due("6: a number", p.erase("a1"), "");
        due("6: a number is gone", p.kind("a1"), 0);
        due("6: again", p.erase("a1"), NOTHING);
        p.enter("a1", "b1");
        due("6: a formula", p.erase("a1"), "");
        due("6: a formula is gone", p.kind("a1"), 0);
        due("6: its references are gone", p.reaches("a1", "b1"), false);
        due("6: outside", p.erase("a11"), OUT);
        p.put("a1", 5);
        p.enter("b1", "a1+1");
        p.erase("a1");
        due("6: what refers to it sees it empty", p.value("b1"), 1.0);
    }

    private static void promise7Copy() {
        Probe p = new Probe();
        due("7: empty", p.copy("a1", "b1"), NOTHING);
        p.put("a1", 5);
        due("7: a number", p.copy("a1", "b2"), 0);
        due("7: a number's value", p.value("b2"), 5.0);
        p.enter("c3", "b2+$b2+b$2+$b$2");
        due("7: moved", p.copy("c3", "e6"), 0);
        due("7: moved text", p.text("e6"), "d5+$b5+d$2+$b$2");
        due("7: the first stays", p.text("c3"), "b2+$b2+b$2+$b$2");
        due("7: beyond the columns", p.copy("c3", "a3"), 2);
        due("7: beyond the columns' text", p.text("a3"), "~+$b2+~+$b$2");
        due("7: beyond the rows", p.copy("c3", "c1"), 2);
        due("7: beyond the rows' text", p.text("c1"), "~+~+b$2+$b$2");
        due("7: lost ones stay lost and count no more", p.copy("a3", "c5"), 0);
        due("7: lost ones' text", p.text("c5"), "~+$b4+~+$b$2");
        due("7: onto itself", p.copy("a3", "a3"), 0);
        due("7: onto itself text", p.text("a3"), "~+$b2+~+$b$2");
        due("7: outside", p.copy("a1", "i1"), OUT);
        due("7: from outside", p.copy("i1", "a1"), OUT);
        due("7: outside comes before empty", p.copy("h9", "h11"), OUT);

        p.enter("b2", "@sum(a1:c3)");
        due("7: a range", p.copy("b2", "c4"), 0);
        due("7: a range's text", p.text("c4"), "@sum(b3:d5)");
        due("7: half of a range", p.copy("b2", "a2"), 1);
        due("7: half of a range's text", p.text("a2"), "@sum(~:b3)");
        due("7: half of a range is bad", p.value("a2"), BAD);
        due("7: both of a range", p.copy("b2", "a10"), 2);
        due("7: both of a range's text", p.text("a10"), "@sum(~:~)");
        p.enter("b2", "a9+a10");
        due("7: to the last row", p.copy("b2", "b3"), 1);
        due("7: to the last row's text", p.text("b3"), "a10+~");
        p.enter("a1", "h1+g1");
        due("7: to the last column", p.copy("a1", "b1"), 1);
        due("7: to the last column's text", p.text("b1"), "~+h1");
        due("7: over a formula", p.copy("b2", "b1"), 0);
        due("7: over a formula's text", p.text("b1"), "a8+a9");
        p.put("d1", 2);
        p.copy("d1", "b1");
        due("7: a number over a formula", p.kind("b1"), 1);
    }

    private static String afterInsert(int row, String line) {
        Probe p = new Probe();
        p.enter("a1", line);
        p.insert(row);
        return p.text(row == 0 ? "a2" : "a1");
    }

    private static void promise8Insert() {
        Probe p = new Probe();
        for (int row = 1; row <= 10; row++) {
            p.put("a" + row, row);
        }
        p.put("c10", 1);
        due("8: the last row is lost", p.insert(3), 2);
        due("8: above", p.value("a3"), 3.0);
        due("8: the new row", p.kind("a4"), 0);
        due("8: below", p.value("a5"), 4.0);
        due("8: the last", p.value("a10"), 9.0);
        due("8: how many are left", p.count(1), 9);
        due("8: at the last row", p.insert(9), 1);
        due("8: at the last row, empty", p.insert(9), 0);
        due("8: outside below", p.insert(10), OUT);
        due("8: outside above", p.insert(-1), OUT);
        due("8: outside changes nothing", p.count(1), 8);

        due("8: references follow", afterInsert(2, "b1+b2+b3+b4+$b$3+b$9"), "b1+b2+b4+b5+$b$4+b$10");
        due("8: all follow", afterInsert(0, "b1"), "b2");
        due("8: beyond is lost", afterInsert(5, "b10+$b$10+b9"), "~+~+b10");
        due("8: a range grows", afterInsert(2, "@sum(b2:b5)"), "@sum(b2:b6)");
        due("8: a range's end stays", afterInsert(2, "@sum(b2:b10)"), "@sum(b2:b10)");
        due("8: a range's end stays, turned", afterInsert(2, "@sum(b10:$b$4)"), "@sum(b10:$b$5)");
        due("8: a range goes to the last row", afterInsert(2, "@sum(b9:c10)"), "@sum(b10:c10)");
        due("8: of equal ones the second stays", afterInsert(2, "@sum(b10:c10)"), "@sum(~:c10)");
        due("8: at the last row", afterInsert(9, "@sum(b9:c10)+b9+b10"), "@sum(b9:c10)+b9+~");
        due("8: inside names and signs", afterInsert(2, "-b3&!@abs(b3)|@if(b3,b3,(b3=1)=0)"),
            "-b4&!@abs(b4)|@if(b4,b4,(b4=1)=0)");

        Probe half = new Probe();
        half.enter("b2", "@sum(a2:b10)");
        half.copy("b2", "a2");
        due("8: half lost", half.text("a2"), "@sum(~:a10)");
        half.insert(4);
        due("8: half lost, the other is as one by itself", half.text("a2"), "@sum(~:~)");
        due("8: both are counted", half.count(5), 2);
    }

    private static String afterDelete(int row, String line) {
        Probe p = new Probe();
        p.enter("a1", line);
        p.delete(row);
        return p.text("a1");
    }

    private static void promise9Delete() {
        Probe p = new Probe();
        for (int row = 1; row <= 10; row++) {
            p.put("a" + row, row);
        }
        p.put("c4", 1);
        due("9: the row goes", p.delete(3), 2);
        due("9: above", p.value("a3"), 3.0);
        due("9: below", p.value("a4"), 5.0);
        due("9: below, another column", p.kind("c4"), 0);
        due("9: the last but one", p.value("a9"), 10.0);
        due("9: the last is empty", p.kind("a10"), 0);
        due("9: how many are left", p.count(1), 9);
        due("9: an empty row", p.delete(9), 0);
        due("9: the first row", p.delete(0), 1);
        due("9: outside below", p.delete(10), OUT);
        due("9: outside above", p.delete(-1), OUT);
        due("9: outside changes nothing", p.count(1), 8);

        due("9: references follow", afterDelete(2, "b1+b2+b4+$b$4+b10"), "b1+b2+b3+$b$3+b9");
        due("9: the row itself is lost", afterDelete(2, "b3+$b$3+b2"), "~+~+b2");
        due("9: a range shrinks", afterDelete(2, "@sum(b2:b5)"), "@sum(b2:b4)");
        due("9: a range's lesser row", afterDelete(2, "@sum(b3:b5)"), "@sum(b3:b4)");
        due("9: a range's lesser row, turned", afterDelete(2, "@sum(b5:b3)"), "@sum(b4:b3)");
        due("9: a range's greater row", afterDelete(4, "@sum(b3:b5)"), "@sum(b3:b4)");
        due("9: a range's greater row, turned", afterDelete(4, "@sum(b5:c4)"), "@sum(b4:c4)");
        due("9: a range of one row", afterDelete(4, "@sum(b5:c5)"), "@sum(~:~)");
        due("9: a range of one row below", afterDelete(4, "@sum(b6:c6)"), "@sum(b5:c5)");
        due("9: a range above", afterDelete(4, "@sum(b2:c3)"), "@sum(b2:c3)");
        due("9: a range at the end", afterDelete(9, "@sum($b$10:c9)"), "@sum($b$9:c9)");
        due("9: inside names and signs", afterDelete(2, "-b3&!@abs(b4)|@if(b3,b4,(b3=1)=0)"),
            "-~&!@abs(b3)|@if(~,b3,(~=1)=0)");

        Probe half = new Probe();
        half.enter("b1", "@sum(a2:b5)");
        half.copy("b1", "a1");
        half.delete(4);
        due("9: half lost, the other is as one by itself", half.text("a1"), "@sum(~:~)");
        due("9: the whole one", half.text("b1"), "@sum(a2:b4)");
        half.enter("b1", "@sum(a2:b5)");
        half.copy("b1", "a1");
        half.delete(2);
        due("9: half lost, the other follows", half.text("a1"), "@sum(~:a4)");
        due("9: lost ones stay lost", half.delete(0), 2);
    }

    private static void promise10Value() {
        Probe p = new Probe();
        due("10: empty", p.value("a1"), NOTHING);
        due("10: outside", p.value("a11"), OUT);
        due("10: a numeral", new Probe().worth("007.50"), 7.5);
        due("10: a long numeral", new Probe().worth("123456789.1234"), 1234567891234L / 10000.0);
        due("10: natural order", new Probe().worth("2+3*4"), 14.0);
        due("10: from the left", new Probe().worth("9-3-2"), 4.0);
        due("10: from the left, divided", new Probe().worth("8/4/2*5"), 5.0);
        due("10: brackets", new Probe().worth("9-(3-2)"), 8.0);
        due("10: the negative", new Probe().worth("-2*-3"), 6.0);
        due("10: as doubles", new Probe().worth("0.1+0.2"), 0.1 + 0.2);
        due("10: equal", new Probe().worth("(1=1)+10*(1=2)"), 1.0);
        due("10: not equal", new Probe().worth("(1#1)+10*(1#2)"), 10.0);
        due("10: less", new Probe().worth("(1<1)+10*(1<2)+100*(2<1)"), 10.0);
        due("10: greater", new Probe().worth("(1>1)+10*(1>2)+100*(2>1)"), 100.0);
        due("10: and", new Probe().worth("(2&3)+10*(0&1)+100*(1&0)+1000*(0&0)"), 1.0);
        due("10: or", new Probe().worth("(2|3)+10*(0|1)+100*(1|0)+1000*(0|0)"), 111.0);
        due("10: and and or are alike", new Probe().worth("1|1&0"), 0.0);
        due("10: not", new Probe().worth("(!0)+10*(!2)"), 1.0);
        due("10: not over terms", new Probe().worth("!1-1"), 1.0);
        due("10: abs", new Probe().worth("@abs(-2.5)+@abs(3)"), 5.5);
        due("10: int", new Probe().worth("@int(2.9)+10*@int(-2.9)"), -18.0);
        due("10: if", new Probe().worth("@if(2,3,4)+10*@if(0,5,6)"), 63.0);
        due("10: if with a negative", new Probe().worth("@if(-1,2,3)"), 2.0);
        due("10: logic of negatives", new Probe().worth("(-1&-2)+10*(-1|0)+100*(!-1)"), 11.0);
        due("10: divided by 0", new Probe().worth("1/0"), BAD);
        due("10: 0 divided by 0", new Probe().worth("0/0"), BAD);
        due("10: divided by -0", new Probe().worth("1/-0"), BAD);
        due("10: BAD in a sum", new Probe().worth("1+1/0"), BAD);
        due("10: BAD is not left out by &", new Probe().worth("0&1/0"), BAD);
        due("10: BAD is not left out by |", new Probe().worth("1|1/0"), BAD);
        due("10: BAD before &", new Probe().worth("1/0&0"), BAD);
        due("10: BAD before *", new Probe().worth("1/0*0"), BAD);
        due("10: BAD before <", new Probe().worth("1/0<0"), BAD);
        due("10: above before *", new Probe().worth("999999999*999999999*0"), BAD);
        due("10: below before =", new Probe().worth("-999999999*999999999=0"), BAD);
        due("10: BAD negative", new Probe().worth("-(1/0)"), BAD);
        due("10: BAD not", new Probe().worth("!1/0"), BAD);
        due("10: BAD compared", new Probe().worth("1/0=1/0"), BAD);
        due("10: BAD times 0", new Probe().worth("0*(1/0)"), BAD);
        due("10: BAD in abs", new Probe().worth("@abs(1/0)"), BAD);
        due("10: BAD in int", new Probe().worth("@int(1/0)"), BAD);
        due("10: BAD as what is asked", new Probe().worth("@if(1/0,1,1)"), BAD);
        due("10: BAD taken", new Probe().worth("@if(0,1,1/0)"), BAD);
        due("10: BAD not taken", new Probe().worth("@if(1,2,1/0)+@if(0,1/0,3)"), 5.0);
        p.put("a1", LIMIT);
        p.put("a2", -LIMIT);
        due("10: the limit", p.worth("a1+0"), LIMIT);
        due("10: above", p.worth("a1+1"), BAD);
        due("10: below", p.worth("a2-1"), BAD);
        due("10: the least", p.worth("a2*1"), -LIMIT);
        due("10: product above", p.worth("a1*1.0001"), BAD);
        due("10: quotient below", p.worth("a2/0.5"), BAD);
        due("10: above on the way", p.worth("a1+1-1"), BAD);
        due("10: the negative of the limit", p.worth("-a1=a2"), 1.0);
        p.put("a1", Double.MIN_VALUE);
        due("10: a quotient without end", p.worth("1/a1"), BAD);
    }

    private static void promise10ValueOfRanges() {
        Probe p = new Probe();
        p.put("b2", 3);
        p.put("b4", -5);
        p.put("c3", 10);
        due("10: sum", p.worth("@sum(b2:c4)"), 8.0);
        due("10: sum turned", p.worth("@sum(c2:b4)"), 8.0);
        due("10: sum of a column", p.worth("@sum(b1:b9)"), -2.0);
        due("10: sum of none", p.worth("@sum(e1:f9)"), 0.0);
        due("10: cnt", p.worth("@cnt(a1:g9)"), 3.0);
        due("10: cnt of none", p.worth("@cnt(e1:f9)"), 0.0);
        due("10: avg", p.worth("@avg(a1:c9)*3"), 8 / 3.0 * 3);
        due("10: avg of none", p.worth("@avg(e1:f9)"), BAD);
        due("10: min", p.worth("@min(a1:c9)"), -5.0);
        due("10: max", p.worth("@max(a1:c9)"), 10.0);
        due("10: min of none", p.worth("@min(e1:f9)"), BAD);
        due("10: max of none", p.worth("@max(e1:f9)"), BAD);
        due("10: max of what is below 0", p.worth("@max(b3:b4)"), -5.0);
        due("10: min of what is above 0", p.worth("@min(b2:c3)"), 3.0);
        p.enter("d1", "1/0");
        due("10: BAD in sum", p.worth("@sum(a1:d9)"), BAD);
        due("10: BAD in avg", p.worth("@avg(a1:d9)"), BAD);
        due("10: BAD in min", p.worth("@min(a1:d9)"), BAD);
        due("10: BAD in max", p.worth("@max(a1:d9)"), BAD);
        due("10: BAD but not for cnt", p.worth("@cnt(a1:d9)"), 4.0);
        p.enter("b1", "@cnt(a1:a3)");
        p.copy("b1", "a1");
        due("10: cnt of a range that is lost", p.value("a1"), BAD);

        Probe order = new Probe();
        order.put("a1", LIMIT);
        order.put("a2", -1);
        order.put("b1", 1);
        due("10: column by column", order.worth("@sum(a1:b2)"), LIMIT);
        order.put("a2", 1);
        order.put("b1", -1);
        due("10: a partial sum above", order.worth("@sum(a1:b2)"), BAD);
        due("10: a partial sum above in avg", order.worth("@avg(a1:b2)"), BAD);
        order.put("a1", -1);
        order.put("a2", -LIMIT);
        order.put("b1", 1);
        due("10: a partial sum below", order.worth("@sum(a1:b2)"), BAD);
        order.put("a1", 0.1);
        order.put("a2", 0.2);
        order.put("b1", 0.3);
        due("10: added one after another", order.worth("@sum(b2:a1)"), 0.1 + 0.2 + 0.3);
    }

    private static void promise10ValueOfCells() {
        Probe p = new Probe();
        p.enter("a1", "b1+1");
        p.enter("b1", "c1*2");
        due("10: an empty cell is 0", p.value("a1"), 1.0);
        p.put("c1", 5);
        due("10: as the sheet is now", p.value("a1"), 11.0);
        p.enter("c1", "a1");
        due("10: in a circle", p.value("b1"), NOT_NOW);
        p.enter("d1", "a1");
        due("10: beside a circle", p.value("d1"), BAD);
        p.enter("d1", "@if(0,a1,3)");
        due("10: a circle that is not needed", p.value("d1"), 3.0);
        p.enter("d1", "@cnt(a1:c1)");
        due("10: cnt of a circle", p.value("d1"), 3.0);
        p.enter("e1", "@if(0,e1,3)");
        due("10: itself, not needed", p.value("e1"), NOT_NOW);
        p.enter("f1", "@cnt(f1:f2)");
        due("10: itself in cnt", p.value("f1"), NOT_NOW);
        p.erase("b1");
        due("10: the circle is cut", p.value("c1"), 1.0);

        Probe chain = chainThroughAllCells();
        due("10: through all cells", chain.value("h10"), 80.0);
        due("10: through all cells, the other end", chain.value("a1"), 1.0);
        chain.enter("a1", "h10");
        due("10: one great circle", chain.value("d5"), NOT_NOW);
    }

    /** Each cell refers three times to the one before: above it, or at the foot of the column before. */
    private static Probe chainThroughAllCells() {
        Probe chain = new Probe();
        chain.enter("a2", "a1+a1-a1+1");
        chain.enter("b1", "a10+a10-a10+1");
        for (int column = 0; column < 8; column++) {
            chain.copy("b1", Probe.name(column, 0));
            for (int row = 1; row < 10; row++) {
                chain.copy("a2", Probe.name(column, row));
            }
        }
        chain.enter("a1", "1");
        return chain;
    }

    // LANGUAGE.md, rule 3: no operation on doubles may answer NaN. Any operation alters the bits of this one, so
    // that NaN which has them still was handed on as it is.
    private static void noOperationAnswersNaN() {
        double marked = Double.longBitsToDouble(0x7ff0000000000001L);
        Probe p = new Probe();
        p.put("a1", marked);
        for (String line : new String[] {"a1", "a1+1", "1+a1", "a1-1", "1-a1", "a1*2", "0*a1", "a1/2", "0/a1", "-a1",
            "-(1-a1)", "@abs(a1)", "@if(1,a1,2)", "@sum(a1:b2)", "@avg(a1:b2)", "@min(a1:b2)", "@max(a1:b2)"}) {
            p.enter("h10", line);
            long bits = Double.doubleToRawLongBits(p.sheet().value(7, 9));
            due("NaN is handed on in " + line, Long.toHexString(bits), "7ff0000000000001");
        }
    }

    // What lies neither above 2^50 nor below -2^50 is a NUMBER, and all doubles are worked with as Java's.
    private static void promise10ValueOfNaN() {
        Probe p = new Probe();
        due("5: NaN is neither above nor below", p.put("a1", Double.NaN), "");
        due("10: NaN", p.value("a1"), Double.NaN);
        due("11: NaN is a number", p.kind("a1"), 1);
        for (String line : new String[] {"a1", "a1+1", "1-a1", "a1*0", "0/a1", "a1/2", "-a1", "@abs(a1)",
            "@if(a1,a1,1)", "@sum(a1:a2)", "@avg(a1:a2)", "a1+a1"}) {
            due("10: NaN in " + line, p.worth(line), Double.NaN);
            due("11: NaN in " + line, p.kind("h10"), 2);
        }
        due("14: NaN is not BAD", p.count(4), 0);
        due("10: NaN equals nothing", p.worth("a1=a1|a1<0|a1>0"), 0.0);
        due("10: NaN is other than all", p.worth("a1#a1&a1&!(!a1)"), 1.0);
        due("10: NaN divided by 0", p.worth("a1/0"), BAD);
        p.enter("a3", "1/0");
        due("10: BAD behind NaN", p.worth("a1+a3"), BAD);
        due("10: NaN behind BAD", p.worth("a3*a1"), BAD);
        due("10: BAD behind NaN in a sum", p.worth("@sum(a1:a3)"), BAD);
        due("10: BAD behind NaN in avg", p.worth("@avg(a1:a3)"), BAD);
        due("7: NaN copied", p.copy("a1", "b2"), 0);
        due("10: NaN as it is copied", p.value("b2"), Double.NaN);
    }

    private static void promise11Kind() {
        Probe p = new Probe();
        p.put("a2", 0);
        p.enter("a3", "a1");
        p.enter("a4", "a2/a1");
        p.enter("a5", "a6");
        p.enter("a6", "a5");
        p.enter("a7", "a6");
        due("11: empty", p.kind("a1"), 0);
        due("11: a number", p.kind("a2"), 1);
        due("11: a formula", p.kind("a3"), 2);
        due("11: bad", p.kind("a4"), 3);
        due("11: circular", p.kind("a5"), 4);
        due("11: circular, the other", p.kind("a6"), 4);
        due("11: bad by a circle", p.kind("a7"), 3);
        due("11: outside", p.kind("a11"), OUT);
        p.put("a1", 1);
        due("11: bad no more", p.kind("a4"), 2);
        p.enter("a8", "a8");
        due("11: itself", p.kind("a8"), 4);
    }

    private static void promise12Text() {
        Probe p = new Probe();
        due("12: empty", p.text("a1"), NO_FORMULA);
        p.put("a1", 1);
        due("12: a number", p.text("a1"), NO_FORMULA);
        due("12: outside", p.character("i1", 0), OUT);
        p.enter("a1", "1+2");
        due("12: before", p.character("a1", -1), -1);
        due("12: first", p.character("a1", 0), (int) '1');
        due("12: last", p.character("a1", 2), (int) '2');
        due("12: behind", p.character("a1", 3), -1);
        due("12: far behind", p.character("a1", Integer.MAX_VALUE), -1);
        due("12: far before", p.character("a1", Integer.MIN_VALUE), -1);
        due("12: 0s before", new Probe().rewritten("007+000+0+010+000000000.5"), "7+0+0+10+0.5");
        due("12: 0s behind", new Probe().rewritten("1.0+0.0500+1.2300+00.0"), "1.0+0.0500+1.2300+0.0");
        due("12: the longest numeral", new Probe().rewritten("999999999.9999"), "999999999.9999");
        due("12: $", new Probe().rewritten("a1+$a1+a$10+$h$10"), "a1+$a1+a$10+$h$10");
        due("12: brackets around all", new Probe().rewritten("((1))"), "1");
        due("12: brackets around a part", new Probe().rewritten("-(1)+(a1)*(@abs(1))"), "-1+a1*@abs(1)");
        due("12: sums", new Probe().rewritten("(1+2)+(3+4)-(5-6)"), "1+2+(3+4)-(5-6)");
        due("12: products", new Probe().rewritten("(1*2)/(3*4)*(5/6)"), "1*2/(3*4)*(5/6)");
        due("12: sums and products", new Probe().rewritten("(1+2)*(3*4)+(5*6)"), "(1+2)*(3*4)+5*6");
        due("12: negatives", new Probe().rewritten("(-1)*(-2)-(-3)+-(-4)"), "-1*-2--3+-(-4)");
        due("12: negative of a product", new Probe().rewritten("-(1*2)+(-1*2)"), "-(1*2)+-1*2");
        due("12: comparisons", new Probe().rewritten("(1+2)=(3-4)"), "1+2=3-4");
        due("12: comparisons in comparisons", new Probe().rewritten("(1<2)#(3>4)"), "(1<2)#(3>4)");
        due("12: comparisons in sums", new Probe().rewritten("(1<2)+(!3)"), "(1<2)+(!3)");
        due("12: not", new Probe().rewritten("!(1+2)"), "!1+2");
        due("12: not of not", new Probe().rewritten("!(!1)"), "!(!1)");
        due("12: not of a comparison", new Probe().rewritten("!(1=2)"), "!(1=2)");
        due("12: not in a comparison", new Probe().rewritten("(!1)=(!2)"), "(!1)=(!2)");
        due("12: not in logic", new Probe().rewritten("(!1)&(!2)|(3=4)"), "!1&!2|3=4");
        due("12: logic", new Probe().rewritten("(1&2)|(3|4)"), "1&2|(3|4)");
        due("12: logic from the left", new Probe().rewritten("((1|2)&3)|4"), "1|2&3|4");
        due("12: logic in all else", new Probe().rewritten("!(1&2)|(1|2)=3|-(1&2)"), "!(1&2)|(1|2)=3|-(1&2)");
        due("12: arguments", new Probe().rewritten("@if((1&2),(3),((!4)))"), "@if(1&2,3,!4)");
        due("12: one argument", new Probe().rewritten("@int((1|2))+@abs((1=2))"), "@int(1|2)+@abs(1=2)");
        due("12: ranges", new Probe().rewritten("@min($b2:a$10)*@max(h10:a1)"), "@min($b2:a$10)*@max(h10:a1)");
        due("12: all names", new Probe().rewritten("@sum(a1:a2)+@cnt(a1:a2)+@avg(a1:a2)"),
            "@sum(a1:a2)+@cnt(a1:a2)+@avg(a1:a2)");
        p.enter("a1", "b9+b9+b9+b9+b9+b9+b9+b9+b9+b9+b9+b9+b9");
        p.copy("a1", "a2");
        due("12: longer than the line", p.text("a2"), "b10+b10+b10+b10+b10+b10+b10+b10+b10+b10+b10+b10+b10");
        p.copy("a1", "a3");
        due("12: lost ones", p.text("a3"), "~+~+~+~+~+~+~+~+~+~+~+~+~");
        p.enter("c2", "$b$1+$b1*(b$1-b1)");
        p.copy("c2", "a1");
        due("12: lost ones with $ and brackets", p.text("a1"), "$b$1+~*(~-~)");
    }

    private static void promise13Reaches() {
        Probe p = new Probe();
        p.enter("a1", "b1");
        p.enter("b1", "@if(1,2,c1)");
        p.enter("c1", "@cnt(d2:e4)");
        due("13: once", p.reaches("a1", "b1"), true);
        due("13: twice", p.reaches("a1", "c1"), true);
        due("13: into a range", p.reaches("a1", "e3"), true);
        due("13: an empty one", p.reaches("c1", "d2"), true);
        due("13: beside a range", p.reaches("a1", "f3"), false);
        due("13: backwards", p.reaches("b1", "a1"), false);
        due("13: itself", p.reaches("a1", "a1"), false);
        p.enter("e4", "a1");
        due("13: itself in a circle", p.reaches("a1", "a1"), true);
        due("13: all of a circle", p.reaches("b1", "a1"), true);
        p.put("b1", 2);
        due("13: no more", p.reaches("a1", "c1"), false);
        due("13: from a number", p.reaches("b1", "c1"), false);
        due("13: from an empty one", p.reaches("h1", "a1"), false);
        due("13: outside", p.reaches("a11", "a1"), OUT);
        due("13: to outside", p.reaches("a1", "i1"), OUT);
        p.enter("h10", "h9");
        due("13: in the last row", p.reaches("h10", "h9"), true);
        p.enter("b5", "a5+a6");
        p.copy("b5", "b10");
        due("13: what is not lost", p.reaches("b10", "a10"), true);
        p.enter("c5", "@sum(a5:b6)");
        due("13: a whole range", p.reaches("c5", "b6"), true);
        p.copy("c5", "b5");
        due("13: a range that lost its first", p.reaches("b5", "a6"), false);
        p.copy("c5", "c10");
        due("13: a range that lost its second", p.reaches("c10", "a10"), false);
    }

    private static void promise14Count() {
        Probe p = new Probe();
        p.type("1+");
        p.put("a1", 1);
        p.put("a2", 2);
        due("14: the line", p.count(0), 2);
        p.enter("h1");
        p.enter("b1", "1/0");
        p.enter("b2", "b3");
        p.enter("b3", "b2");
        p.enter("b4", "b3");
        p.enter("b5", "a1");
        due("14: the line is empty", p.count(0), 0);
        due("14: cells", p.count(1), 7);
        due("14: formulas", p.count(2), 5);
        due("14: circular", p.count(3), 2);
        due("14: bad", p.count(4), 4);
        due("14: lost", p.count(5), 0);
        p.copy("b5", "a5");
        due("14: lost by a copy", p.count(5), 1);
        due("14: lost is bad", p.count(4), 5);
        p.enter("b6", "@sum(a1:a2)+@sum(a1:c2)");
        p.copy("b6", "a6");
        due("14: those of ranges, too", p.count(5), 4);
        p.erase("a6");
        due("14: lost no more", p.count(5), 1);
        due("14: 6", p.count(6), -1);
        due("14: -1", p.count(-1), -1);
        due("14: great", p.count(Integer.MAX_VALUE), -1);
    }

    private static void outsideTheSheet() {
        FormulaSheet sheet = new FormulaSheet();
        sheet.put(0, 0, 1);
        int[][] outside = {{-1, 0}, {8, 0}, {0, -1}, {0, 10}, {Integer.MIN_VALUE, 0}, {0, Integer.MAX_VALUE}};
        for (int[] cell : outside) {
            int column = cell[0];
            int row = cell[1];
            String where = " outside at " + column + ", " + row;
            due("enter" + where, Probe.answer(() -> sheet.enter(column, row)), OUT);
            due("copy from" + where, Probe.answer(() -> sheet.copy(column, row, 0, 0)), OUT);
            due("copy to" + where, Probe.answer(() -> sheet.copy(0, 0, column, row)), OUT);
            due("copy of nothing to" + where, Probe.answer(() -> sheet.copy(1, 1, column, row)), OUT);
            due("value" + where, Probe.answer(() -> sheet.value(column, row)), OUT);
            due("kind" + where, Probe.answer(() -> sheet.kind(column, row)), OUT);
            due("text" + where, Probe.answer(() -> sheet.text(column, row, 0)), OUT);
            due("reaches from" + where, Probe.answer(() -> sheet.reaches(column, row, 0, 0)), OUT);
            due("reaches to" + where, Probe.answer(() -> sheet.reaches(0, 0, column, row)), OUT);
            due("put" + where, Probe.answer(() -> {
                sheet.put(column, row, 1);
                return "";
            }), OUT);
            due("erase" + where, Probe.answer(() -> {
                sheet.erase(column, row);
                return "";
            }), OUT);
        }
        due("all that was outside changed nothing", sheet.count(1), 1);
    }

    private static void whatThrowsChangesNothing() {
        Probe p = new Probe();
        p.enter("a1", "b1+1");
        p.put("b1", 2);
        p.type("7");
        p.erase("c1");
        p.copy("c1", "a1");
        p.put("a1", LIMIT * 2);
        p.value("c1");
        p.character("b1", 0);
        p.insert(10);
        p.delete(-1);
        due("the line stays", p.count(0), 1);
        due("the cells stay", p.count(1), 2);
        due("the text stays", p.text("a1"), "b1+1");
        due("the value stays", p.value("a1"), 3.0);
        due("errorAt stays", p.errorAt(), -1);
    }
}
