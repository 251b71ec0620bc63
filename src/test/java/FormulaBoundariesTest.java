/**
 * The boundaries of the rules of a FORMULA, of what is refused and where, and of what is written out. A
 * method's comment is the document's sentence that it holds to.
 */
public final class FormulaBoundariesTest {
    private static final String REFUSED = Probe.REFUSED;
    private static final String OUT = Probe.OUT;
    private static final String NO_FORMULA = Probe.NO_FORMULA;

    // The rules, the widest first: a part of one can stand where one that is not narrower is needed.
    private static final int LOGIC = 0;
    private static final int COMPARISON = 1;
    private static final int TERMS = 2;
    private static final int PRODUCT = 3;
    private static final int SIGNED = 4;
    private static final int PART = 5;

    public static void main(String[] args) {
        digitsBeforeThePoint();
        digitsBehindThePoint();
        lettersOfAReference();
        rowsOfAReference();
        fixedSigns();
        lostCannotBeTyped();
        signsOnce();
        namesToTheirLastLetter();
        argumentsOfRanges();
        argumentsOfLogics();
        sixBrackets();
        sixBracketsOfNames();
        sixAtATime();
        emptyLine();
        noBlanks();
        fortyCharacters();
        enterAnswersCells();
        enterAnswersCellsOnce();
        errorAtOfAnyLength();
        errorAtIsTheLeast();
        errorAtAsTimeGoes();
        errorAtIsLeftByAllElse();
        aLineIsReadFromItsOwnBeginning();
        charactersOfAText();
        textOfNoFormula();
        numeralsWrittenOut();
        fixedWrittenOut();
        bracketsWrittenOut();
        textsBeyondForty();
        Check.end();
    }

    private static void due(String what, Object got, Object want) {
        Check.due(what, got, want);
    }

    private static void taken(String line, Object cells) {
        Probe p = new Probe();
        due("'" + line + "' is entered", p.enter("d4", line), cells);
        due("errorAt of '" + line + "'", p.errorAt(), -1);
        due("the line behind '" + line + "'", p.count(0), 0);
        due("formulas with '" + line + "'", p.count(2), 1);
    }

    private static void taken(String line) {
        taken(line, 0);
    }

    private static void refused(String line, int at) {
        Probe p = new Probe();
        due("'" + line + "' is entered", p.enter("d4", line), REFUSED);
        due("errorAt of '" + line + "'", p.errorAt(), at);
        due("the line behind '" + line + "'", p.count(0), 0);
        due("cells after '" + line + "'", p.count(1), 0);
    }

    // NUMERAL: 1 to 9 digits ...
    private static void digitsBeforeThePoint() {
        refused(".", 0);
        refused(".5", 0);
        refused("1+.5", 2);
        taken("0");
        taken("9");
        taken("12345678");
        taken("123456789");
        refused("1234567890", 9);
        taken("000000000");
        refused("0000000000", 9);
        refused("1234567890.5", 9);
        taken("999999999+999999999");
        refused("1+9999999999", 11);
        refused("/", 0);
        refused(":", 0);
        refused("1:", 1);
        refused("1/", 2);
    }

    // ... then perhaps . and 1 to 4 digits.
    private static void digitsBehindThePoint() {
        refused("1.", 2);
        refused("1.+1", 2);
        refused("1.a1", 2);
        taken("1.2");
        taken("1.234");
        taken("1.2345");
        refused("1.23456", 6);
        taken("123456789.1234");
        refused("123456789.12345", 14);
        taken("0.0000");
        refused("0.00000", 6);
        refused("1..2", 2);
        refused("1.2.", 3);
        refused("1./", 2);
        refused("1.:", 2);
    }

    // REFERENCE: ... a letter a .. h ...
    private static void lettersOfAReference() {
        refused("`1", 0);
        taken("a1", 1);
        taken("h1", 1);
        refused("i1", 0);
        refused("A1", 0);
        refused("H1", 0);
        refused("1a1", 1);
        refused("aa1", 1);
        refused("ah", 1);
        refused("@sum(a1:i1)", 8);
        taken("@sum(a1:h1)", 8);
        refused("@sum(`1:h1)", 5);
    }

    // ... a row 1 .. 10 (a 1 that a 0 follows is 10; no other 0).
    private static void rowsOfAReference() {
        refused("a", 1);
        refused("a0", 1);
        refused("a01", 1);
        refused("a/1", 1);
        taken("a1", 1);
        taken("a2", 1);
        taken("a9", 1);
        refused("a:", 1);
        taken("a10", 1);
        refused("a11", 2);
        refused("a12", 2);
        refused("a19", 2);
        refused("a20", 2);
        refused("a90", 2);
        refused("a99", 2);
        refused("a100", 3);
        refused("a101", 3);
        refused("a$0", 2);
        taken("a$10", 1);
        refused("a$100", 4);
        refused("a$20", 3);
        taken("@cnt(a10:a10)", 1);
        refused("@cnt(a0:a1)", 6);
        refused("@cnt(a1:a0)", 9);
        refused("@cnt(a11:a1)", 7);
        refused("@cnt(a1:a100)", 11);
        Probe p = new Probe();
        p.put("a1", 3);
        p.put("a10", 4);
        due("a 1 that a 0 follows is 10", p.worth("a10"), 4.0);
        due("a 1 that no 0 follows is 1", p.worth("a1+0"), 3.0);
    }

    // perhaps $
    private static void fixedSigns() {
        taken("$a1", 1);
        taken("a$1", 1);
        taken("$a$1", 1);
        refused("$", 1);
        refused("a$", 2);
        refused("$a$", 3);
        refused("$$a1", 1);
        refused("a$$1", 2);
        refused("a1$", 2);
        refused("a10$", 3);
        refused("a1$0", 2);
        refused("$1", 1);
        refused("$a", 2);
        refused("$i1", 1);
        refused("1$", 1);
    }

    // A REFERENCE can also be LOST (it is written as ~ then; it can't be typed).
    private static void lostCannotBeTyped() {
        refused("~", 0);
        refused("1+~", 2);
        refused("@sum(~:a1)", 5);
        refused("@sum(a1:~)", 8);
        refused("$~", 1);
        Probe p = new Probe();
        p.enter("b1", "a1");
        p.copy("b1", "a1");
        due("a lost one's text", p.text("a1"), "~");
        due("a lost one's text has one character", p.character("a1", 1), -1);
    }

    // COMPARISON: ! TERMS, or TERMS, or TERMS, one of = # < >, TERMS. SIGNED: a PART, or - PART.
    private static void signsOnce() {
        for (String sign : new String[] {"=", "#", "<", ">"}) {
            taken("1" + sign + "2");
            refused(sign + "2", 0);
            refused("1" + sign, 2);
            refused("1" + sign + "2" + sign + "3", 3);
            refused("1" + sign + "2=3", 3);
            refused("1" + sign + sign + "3", 2);
            refused("1" + sign + "!3", 2);
            refused("!1" + sign + "3", 2);
            taken("(1" + sign + "2)" + sign + "3");
            taken("1" + sign + "2&1" + sign + "2");
        }
        for (String sign : new String[] {"+", "*", "/", "&", "|"}) {
            taken("1" + sign + "2" + sign + "3");
            refused(sign + "2", 0);
            refused("1" + sign, 2);
            refused("1" + sign + sign + "2", 2);
        }
        taken("!1");
        refused("!", 1);
        refused("!!1", 1);
        taken("!(!1)");
        refused("1!", 1);
        refused("1+!1", 2);
        refused("-!1", 1);
        taken("1&!1|!1");
        taken("-1");
        refused("-", 1);
        refused("--1", 1);
        taken("-(-1)");
        taken("1--1");
        refused("1---1", 3);
        taken("1*-1/-1");
        refused("1*--1", 3);
        taken("!-1");
        taken("1=-1");
    }

    // NAME: sum, min, max, cnt, avg ...; abs, int ...; if ...
    private static void namesToTheirLastLetter() {
        for (String name : new String[] {"sum", "min", "max", "cnt", "avg"}) {
            taken("@" + name + "(a1:a1)", 1);
            nameCutAndChanged(name);
        }
        taken("@abs(1)");
        taken("@int(1)");
        taken("@if(1,2,3)");
        for (String name : new String[] {"abs", "int", "if"}) {
            nameCutAndChanged(name);
        }
        refused("@", 1);
        refused("@(1)", 1);
        refused("@@", 1);
        refused("@Sum(a1:a1)", 1);
        refused("@1", 1);
        refused("sum(a1:a1)", 0);
        refused("abs(1)", 1);
        refused("1@abs(1)", 1);
    }

    private static void nameCutAndChanged(String name) {
        for (int length = 0; length <= name.length(); length++) {
            refused("@" + name.substring(0, length), 1 + length);
            refused("@" + name.substring(0, length) + "z(", 1 + length);
            refused("@" + name.substring(0, length) + ")", 1 + length);
        }
        refused("@" + name + "(", name.length() + 2);
        refused("@" + name + "()", name.length() + 2);
        refused("@" + name + name + "(", name.length() + 1);
    }

    // ... with one RANGE as ARGUMENTS: REFERENCE : REFERENCE ...
    private static void argumentsOfRanges() {
        for (String name : new String[] {"sum", "min", "max", "cnt", "avg"}) {
            String call = "@" + name + "(";
            refused(call + "a1)", 7);
            refused(call + "a1:)", 8);
            refused(call + ":a1)", 5);
            taken(call + "a1:a2)", 2);
            refused(call + "a1:a2", 10);
            refused(call + "a1:a2:a3)", 10);
            refused(call + "a1:a2,a3:a4)", 10);
            refused(call + "a1,a2)", 7);
            refused(call + "1)", 5);
            refused(call + "a1:2)", 8);
            refused(call + "(a1:a2))", 5);
            refused(call + "-a1:a2)", 5);
            refused(call + "a1+1:a2)", 7);
            refused(call + "a1:a2+1)", 10);
        }
        refused("a1:a2", 2);
        refused("(a1:a2)", 3);
    }

    // ... abs, int with one LOGIC; if with three LOGICs, with a comma between two.
    private static void argumentsOfLogics() {
        for (String name : new String[] {"abs", "int"}) {
            refused("@" + name + "()", 5);
            taken("@" + name + "(1)");
            taken("@" + name + "(1&!2|3=4)");
            refused("@" + name + "(1", 6);
            refused("@" + name + "(1,2)", 6);
            refused("@" + name + "(,1)", 5);
            refused("@" + name + "(a1:a2)", 7);
        }
        refused("@if()", 4);
        refused("@if(1)", 5);
        refused("@if(1,2)", 7);
        taken("@if(1,2,3)");
        refused("@if(1,2,3", 9);
        refused("@if(1,2,3,", 9);
        refused("@if(1,2,3,4)", 9);
        refused("@if(,2,3)", 4);
        refused("@if(1,,3)", 6);
        refused("@if(1,2,)", 8);
        refused("@if(1;2;3)", 5);
        taken("@if(1&2,!3,4=5)");
        refused("@if(a1:a2,1,2)", 6);
        refused("1,2", 1);
        refused("(1,2)", 2);
        refused("@abs(@if(1,2,3),4)", 15);
    }

    // At most 6 brackets ( may be open at a time, those of @ counted.
    private static void sixBrackets() {
        taken("(((((1)))))");
        taken("((((((1))))))");
        refused("(((((((1)))))))", 6);
        refused("(((((((", 6);
        refused("((((((", 6);
        refused("((((((1)))))", 12);
        refused("((((((1)))))))", 13);
        taken("-(-(-(-(-(-(1))))))");
        refused("-(-(-(-(-(-(-(1)))))))", 13);
        taken("!(!(!(!(!(!(1))))))");
        refused("!(!(!(!(!(!(!(1)))))))", 13);
        taken("((((((-1))))))");
        refused("((((((-(1)))))))", 7);
        refused("((((((1+(", 8);
        refused("((((((1&!(", 9);
    }

    private static void sixBracketsOfNames() {
        taken("(((((@abs(1))))))");
        refused("((((((@abs(1)))))))", 6);
        refused("((((((@", 6);
        refused("((((((-@", 7);
        taken("(((((@sum(a1:a2))))))", 2);
        refused("((((((@sum(a1:a2)))))))", 6);
        taken("(((((@if(1,2,3))))))");
        refused("((((((@if(1,2,3)))))))", 6);
        taken("@int(@int(@int(@int(@int(@int(1))))))");
        refused("@int(@int(@int(@int(@int(@int(@int(1", 30);
        refused("@int(@int(@int(@int(@int(@int((1", 30);
        refused("@if(@if(@if(@if(@if((1),2,3),2,3),2,3),2", 40);
        refused("@if(@if(@if(@if(@if(((1),2,3),2,3),2,3)", 21);
        taken("((((@if(1,(2),3)))))");
        taken("((((@if(1,2,@cnt(a1:a2))))))", 2);
        refused("((((@if(1,2,((", 13);
        refused("((((@if(1,(@", 11);
    }

    private static void sixAtATime() {
        taken("((((((1))))))+((((((2))))))");
        taken("(1)+(2)+(3)+(4)+(5)+(6)+(7)+(8)");
        taken("@abs(1)+@abs(2)+(((((@abs(3))))))");
        taken("((((((1)+(2))))))");
        refused("((((((1)+((2", 10);
        taken("(((((@cnt(a1:a2)+(3))))))", 2);
        refused("(((((@cnt(a1:a2)+((3", 18);
        taken("@if((((((1))))),(((((2))))),(((((3))))))");
    }

    private static void emptyLine() {
        refused("", 0);
        refused("(", 1);
        refused("()", 1);
        refused(")", 0);
        refused("(1", 2);
        taken("(1)");
        refused("(1))", 3);
        refused("(1)(2)", 3);
        refused("1(2)", 1);
        refused("(1)2", 3);
        refused("a1(", 2);
        refused("(1)a1", 3);
    }

    // each standing for a row of characters without blanks
    private static void noBlanks() {
        refused(" 1", 0);
        refused("1 ", 1);
        refused("1 +1", 1);
        refused("1+ 1", 2);
        refused("a 1", 1);
        refused("@ sum(a1:a1)", 1);
        refused("@sum (a1:a1)", 4);
        refused("@if(1, 2,3)", 6);
        refused("1\t", 1);
        refused("1\n", 1);
        refused("1\0", 1);
        refused("1\u007f", 1);
    }

    // THE LINE holds at most 40 characters.
    private static void fortyCharacters() {
        taken("1+".repeat(19) + "1");
        taken("1+".repeat(19) + "12");
        taken("a1+".repeat(12) + "a1+1", 1);
        taken("-1".repeat(20));
        refused("1+".repeat(19) + "1)", 39);
        refused("1+".repeat(19) + "1a", 39);
        refused("1+".repeat(20), 40);
    }

    // enter: how many cells that REFERS to.
    private static void enterAnswersCells() {
        taken("1", 0);
        taken("a1", 1);
        taken("@cnt(a1:h10)", 80);
        taken("@cnt(h10:a1)", 80);
        taken("@cnt(a10:h1)", 80);
        taken("@cnt(h1:a10)", 80);
        taken("@cnt(a1:h9)", 72);
        taken("@cnt(a1:g10)", 70);
        taken("@cnt(a1:a10)", 10);
        taken("@cnt(a1:h1)", 8);
        taken("@cnt(h10:h10)", 1);
        taken("@cnt(g9:h10)", 4);
        taken("@cnt(g10:h9)", 4);
        taken("d4", 1);
        taken("@if(1,a1,b1)", 2);
        taken("@if(c1,a1,b1)", 3);
        taken("0&a1", 1);
        taken("0*a1", 1);
    }

    private static void enterAnswersCellsOnce() {
        taken("a1+a1", 1);
        taken("a1+$a1+a$1+$a$1", 1);
        taken("@sum(a1:b2)+@cnt(b2:c3)", 7);
        taken("@sum(a1:b2)+b2", 4);
        taken("@sum(a1:b2)+b3", 5);
        taken("@cnt(a1:h10)+h10+@sum(a1:a2)", 80);
        taken("h8+h9+h10+a1+a2", 5);
    }

    // The least k such that no FORMULA (of any length ...) begins with the characters 0 .. k ...; its length if
    // there is none (but it is no FORMULA as it is).
    private static void errorAtOfAnyLength() {
        refused("1+".repeat(20), 40);
        refused("1+".repeat(19) + "(1", 40);
        refused("1+".repeat(19) + "@a", 40);
        refused("1+".repeat(19) + "1.", 40);
        refused("1+".repeat(19) + "$a", 40);
        refused("((((((" + "1+".repeat(16) + "11", 40);
        refused("1+".repeat(16) + "@sum(a1:", 40);
        refused("1+".repeat(19) + "@x", 39);
        refused("1+".repeat(19) + "+1", 38);
        refused("x" + "1+".repeat(19) + "1", 0);
        refused("((((((" + "1+".repeat(16) + "1(", 39);
        refused("((((((" + "1+".repeat(16) + "((", 38);
    }

    private static void errorAtIsTheLeast() {
        refused("1++1++1", 2);
        refused("x1++1", 0);
        refused("1+x+y", 2);
        refused("(1+2", 4);
        refused("1)+(2", 1);
        refused("a11+b11", 2);
        refused("@sum(a1;a2)+@x", 7);
    }

    // -1 if none was refused so far, or a FORMULA was entered since (an enter that throws
    // IndexOutOfBoundsException leaves it).
    private static void errorAtAsTimeGoes() {
        Probe p = new Probe();
        due("none was refused so far", p.errorAt(), -1);
        p.enter("a1", "1");
        due("none was refused still", p.errorAt(), -1);
        p.type("1+").enter("i1");
        due("an enter outside refuses no line", p.errorAt(), -1);
        p.enter("a1");
        due("the line is refused then", p.errorAt(), 2);
        due("it is told again", p.errorAt(), 2);
        p.type("7").enter("a11");
        due("an enter outside leaves it", p.errorAt(), 2);
        due("and the line", p.count(0), 1);
        p.enter("a1");
        due("entered since", p.errorAt(), -1);
        p.enter("a1", "(1");
        p.enter("b1", "1+(2");
        due("the one refused last", p.errorAt(), 4);
        p.enter("b1", "x");
        due("the one refused last, at 0", p.errorAt(), 0);
        p.enter("b1");
        due("an empty one refused last", p.errorAt(), 0);
        p.enter("b1", "1");
        due("entered since, again", p.errorAt(), -1);
        due("the same object", p.enter("b1") + p.errorAt(), REFUSED + 0);
        due("and another", new Probe().errorAt(), -1);
    }

    private static void errorAtIsLeftByAllElse() {
        Probe p = new Probe();
        p.enter("b1", "a1");
        p.enter("c1", "1+)");
        p.type("5");
        p.typeOne(128);
        p.put("a1", 1);
        p.put("a1", Probe.LIMIT * 2);
        p.copy("b1", "b2");
        p.copy("h1", "b2");
        p.erase("b2");
        p.erase("b2");
        p.insert(3);
        p.insert(10);
        p.delete(3);
        p.delete(-1);
        p.value("b1");
        p.value("h1");
        p.kind("b1");
        p.text("b1");
        p.text("a1");
        p.reaches("b1", "a1");
        p.count(3);
        due("all other calls leave errorAt", p.errorAt(), 2);
    }

    private static void aLineIsReadFromItsOwnBeginning() {
        String[] lines = {"((((((", "((((((1", "@abs(@abs(@abs(1", "1+", "x", "1))", "@sum(a1:", "((1))"};
        for (String before : lines) {
            Probe p = new Probe();
            p.enter("a1", before);
            due("six brackets after " + before, p.enter("a1", "((((((1))))))"), 0);
            p.enter("a1", before);
            due("seven brackets after " + before, p.refused("(((((((1)))))))"), 6);
            p.enter("a1", before);
            due("a short line after " + before, p.enter("a1", "2") + p.text("a1"), "02");
        }
    }

    // Character i of the cell's FORMULA written out, from 0; -1 for another i.
    private static void charactersOfAText() {
        Probe p = new Probe();
        p.enter("a1", "7");
        due("the only character", p.character("a1", 0), (int) '7');
        due("behind the only one", p.character("a1", 1), -1);
        due("before the only one", p.character("a1", -1), -1);
        p.enter("a1", "(a1+$b$10)*2");
        String text = "(a1+$b$10)*2";
        for (int i = 0; i < text.length(); i++) {
            due("character " + i, p.character("a1", i), (int) text.charAt(i));
        }
        for (int i : new int[] {-1, -2, 12, 13, 40, Integer.MIN_VALUE, Integer.MAX_VALUE}) {
            due("character " + i, p.character("a1", i), -1);
        }
        p.enter("a1", "((7))");
        due("behind what is left of brackets", p.character("a1", 1), -1);
    }

    // UnsupportedOperationException: it has none.
    private static void textOfNoFormula() {
        for (int i : new int[] {-1, 0, 1, Integer.MIN_VALUE, Integer.MAX_VALUE}) {
            Probe p = new Probe();
            p.put("b1", 1);
            due("text of an empty cell at " + i, p.character("a1", i), NO_FORMULA);
            due("text of a number at " + i, p.character("b1", i), NO_FORMULA);
            due("text outside at " + i, p.character("i1", i), OUT);
            p.enter("b1", "1/0");
            due("text of a bad formula at " + i, p.character("b1", i), i == 0 ? '1' + 0 : i == 1 ? '/' + 0 : -1);
            p.erase("b1");
            due("text of an erased formula at " + i, p.character("b1", i), NO_FORMULA);
        }
        Probe p = new Probe();
        p.enter("a1", "a1");
        due("text of a circle", p.text("a1"), "a1");
    }

    private static void written(String line, String want) {
        due("'" + line + "' written out", new Probe().rewritten(line), want);
    }

    // a NUMERAL without 0s that are not needed before the point's digits (one digit stays there), all digits
    // behind it
    private static void numeralsWrittenOut() {
        written("0", "0");
        written("00", "0");
        written("000000000", "0");
        written("01", "1");
        written("000000001", "1");
        written("000000010", "10");
        written("100000000", "100000000");
        written("010203040", "10203040");
        written("999999999", "999999999");
        written("0.0", "0.0");
        written("00.0", "0.0");
        written("000000000.0000", "0.0000");
        written("000000000.0001", "0.0001");
        written("0.1000", "0.1000");
        written("007.50", "7.50");
        written("10.00", "10.00");
        written("1.0", "1.0");
        written("1.0000", "1.0000");
        written("1.0010", "1.0010");
        written("999999999.9999", "999999999.9999");
        written("123456789.0", "123456789.0");
        written("00+00.00*01", "0+0.00*1");
    }

    // $ as typed
    private static void fixedWrittenOut() {
        for (String cell : new String[] {"a1", "$a1", "a$1", "$a$1", "h10", "$h10", "h$10", "$h$10", "h9"}) {
            written(cell, cell);
            written("@max(" + cell + ":c5)", "@max(" + cell + ":c5)");
            written("@max(c5:" + cell + ")", "@max(c5:" + cell + ")");
        }
    }

    // brackets just around those parts that by the rules could not stand there without (LOGIC where a COMPARISON
    // is needed, and so on), and around arguments none
    private static void bracketsWrittenOut() {
        String[][] parts = {
            {"1&2", "1|2", "1&2|3", "!1&2"}, {"!1", "1=2", "1#2", "1<2", "1>2", "1+2=3"},
            {"1+2", "1-2", "1-2+3", "1*2-3"}, {"1*2", "1/2", "1/2*3", "-1*2"}, {"-1", "-a1"},
            {"7", "1.50", "b$2", "@abs(1)", "@int(1&2)", "@if(1,2,3)", "@sum(b1:c2)"},
        };
        for (int rule = LOGIC; rule <= PART; rule++) {
            for (String part : parts[rule]) {
                inLogics(part, rule);
                inTermsAndProducts(part, rule);
            }
        }
    }

    private static void inLogics(String part, int rule) {
        bracketed("_", LOGIC, part, rule);
        for (String sign : new String[] {"&", "|"}) {
            bracketed("_" + sign + "9", LOGIC, part, rule);
            bracketed("9" + sign + "_", COMPARISON, part, rule);
        }
        bracketed("!_", TERMS, part, rule);
        for (String sign : new String[] {"=", "#", "<", ">"}) {
            bracketed("_" + sign + "9", TERMS, part, rule);
            bracketed("9" + sign + "_", TERMS, part, rule);
        }
        for (String call : new String[] {"@abs(_)", "@int(_)", "@if(_,8,9)", "@if(8,_,9)", "@if(8,9,_)"}) {
            bracketed(call, LOGIC, part, rule);
        }
    }

    private static void inTermsAndProducts(String part, int rule) {
        for (String sign : new String[] {"+", "-"}) {
            bracketed("_" + sign + "9", TERMS, part, rule);
            bracketed("9" + sign + "_", PRODUCT, part, rule);
        }
        for (String sign : new String[] {"*", "/"}) {
            bracketed("_" + sign + "9", PRODUCT, part, rule);
            bracketed("9" + sign + "_", SIGNED, part, rule);
        }
        bracketed("-_", PART, part, rule);
    }

    private static void bracketed(String around, int needed, String part, int rule) {
        String want = around.replace("_", rule < needed ? "(" + part + ")" : part);
        written(around.replace("_", "(" + part + ")"), want);
        written(around.replace("_", "((" + part + "))"), want);
        written("(" + around.replace("_", "(" + part + ")") + ")", want);
        written(want, want);
    }

    private static void textsBeyondForty() {
        Probe p = new Probe();
        String line = "b9+".repeat(13) + "1";
        due("a line of 40", p.enter("a1", line), 1);
        due("the last of 40", p.character("a1", 39), (int) '1');
        due("behind the last of 40", p.character("a1", 40), -1);
        p.copy("a1", "a2");
        String longer = "b10+".repeat(13) + "1";
        due("a text of 53", p.text("a2"), longer);
        due("the last of 53", p.character("a2", 52), (int) '1');
        due("behind the last of 53", p.character("a2", 53), -1);
    }
}
