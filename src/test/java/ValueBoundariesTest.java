import java.util.ArrayList;
import java.util.Arrays;
import java.util.List;

/**
 * The boundaries of what formulas give: the greatest and least double, division by 0, RANGES with nothing in
 * them and with all, what is BAD and what is CIRCULAR. A method's comment is the document's sentence that it
 * holds to.
 */
public final class ValueBoundariesTest {
    private static final String BAD = Probe.BAD;
    private static final String NOT_NOW = Probe.NOT_NOW;
    private static final double LIMIT = Probe.LIMIT;
    private static final double ABOVE = Math.nextUp(1.0);
    private static final double BELOW = Math.nextDown(1.0);
    private static final double LEAST = Double.MIN_VALUE;
    private static final String[] RANGE_NAMES = {"sum", "min", "max", "cnt", "avg"};

    public static void main(String[] args) {
        numerals();
        emptyCellIsZero();
        sumsAtTheLimit();
        productsAtTheLimit();
        quotientsAtTheLimit();
        beyondOnTheWay();
        divisionByZero();
        negatives();
        comparisons();
        logics();
        sizes();
        withoutWhatIsBehindThePoint();
        ifTakesOne();
        ifLeavesTheOther();
        sumOfNoneAndOne();
        sumStepByStep();
        sumInItsOrder();
        countOfNoneAndAll();
        averages();
        leastAndGreatest();
        rangesWhicheverIsLess();
        rangesThatAreLost();
        lostReferences();
        badInAnything();
        badIsNotBroughtBack();
        badCellsInRanges();
        circlesOfAnySize();
        circlesThatAreNotNeeded();
        besideACircle();
        lostOnesMakeNoCircle();
        valuesAfterEachChange();
        eachQuestionAfterEachChange();
        longestChain();
        Check.end();
    }

    private static void due(String what, Object got, Object want) {
        Check.due(what, got, want);
    }

    /** A sheet with these numbers in a1, a2 and so on. */
    private static Probe sheet(double... numbers) {
        Probe p = new Probe();
        for (int i = 0; i < numbers.length; i++) {
            p.put(Probe.name(i / 10, i % 10), numbers[i]);
        }
        return p;
    }

    private static void worth(String line, Object want, double... numbers) {
        due(line + " of " + Arrays.toString(numbers), sheet(numbers).worth(line), want);
    }

    // A NUMERAL: the whole number of all its digits divided by 10 to the number of digits behind the point
    // (1 without).
    private static void numerals() {
        worth("0", 0.0);
        worth("000000000.0000", 0.0);
        worth("999999999", 999999999.0);
        worth("999999999.9", 9999999999L / 10.0);
        worth("999999999.9999", 9999999999999L / 10000.0);
        worth("0.0001", 1 / 10000.0);
        worth("0.1", 1 / 10.0);
        worth("0.10", 10 / 100.0);
        worth("0.100", 100 / 1000.0);
        worth("0.1000", 1000 / 10000.0);
        worth("0.3", 3 / 10.0);
        worth("1.15", 115 / 100.0);
        worth("010.010", 10010 / 1000.0);
    }

    // A REFERENCE: the cell's VALUE, 0 if it is empty.
    private static void emptyCellIsZero() {
        worth("a1", 0.0);
        worth("a1+1", 1.0);
        worth("1/a1", BAD);
        worth("a1=0", 1.0);
        worth("!a1", 1.0);
        worth("@if(a1,1,2)", 2.0);
        worth("a1", LIMIT, LIMIT);
        worth("a1", -LIMIT, -LIMIT);
    }

    // + - * / of both: ... a result above 2^50 or below -2^50: BAD. All doubles are worked with as Java's.
    private static void sumsAtTheLimit() {
        worth("a1+a2", LIMIT, LIMIT - 1, 1);
        worth("a1+a2", LIMIT, LIMIT, 0);
        worth("a1+a2", LIMIT, LIMIT, 0.125);
        worth("a1+a2", BAD, LIMIT, 0.25);
        worth("a1+a2", BAD, LIMIT - 1, 1.25);
        worth("a1+a2", BAD, LIMIT, LIMIT);
        worth("a1+a2", -LIMIT, -LIMIT, -0.125);
        worth("a1+a2", BAD, -LIMIT, -0.25);
        worth("a1+a2", 0.0, LIMIT, -LIMIT);
        worth("a1-a2", -LIMIT, 1 - LIMIT, 1);
        worth("a1-a2", -LIMIT, -LIMIT, 0.125);
        worth("a1-a2", BAD, -LIMIT, 0.25);
        worth("a1-a2", LIMIT, LIMIT, -0.125);
        worth("a1-a2", BAD, LIMIT, -0.25);
        worth("a1-a2", BAD, LIMIT, -LIMIT);
        worth("a1-a2", 0.0, LIMIT, LIMIT);
    }

    private static void productsAtTheLimit() {
        worth("a1*a2", LIMIT, 1 << 25, 1 << 25);
        worth("a1*a2", LIMIT, LIMIT, 1);
        worth("a1*a2", Math.nextDown(LIMIT), LIMIT, BELOW);
        worth("a1*a2", BAD, LIMIT, ABOVE);
        worth("a1*a2", -LIMIT, LIMIT, -1);
        worth("a1*a2", BAD, LIMIT, -ABOVE);
        worth("a1*a2", BAD, -LIMIT, ABOVE);
        worth("a1*a2", LIMIT, -LIMIT, -1);
        worth("a1*a2", BAD, -LIMIT, -ABOVE);
        worth("a1*a2", BAD, LIMIT, LIMIT);
        worth("a1*a2", 0.0, LIMIT, 0);
        worth("a1*a2", 0.0, LEAST, 0.5);
        worth("999999999*999999999", BAD);
    }

    private static void quotientsAtTheLimit() {
        worth("a1/a2", LIMIT, LIMIT, 1);
        worth("a1/a2", LIMIT - 0.25, LIMIT, ABOVE);
        worth("a1/a2", BAD, LIMIT, BELOW);
        worth("a1/a2", LIMIT, 1, 1 / LIMIT);
        worth("a1/a2", BAD, 1, Math.nextDown(1 / LIMIT));
        worth("a1/a2", -LIMIT, LIMIT, -1);
        worth("a1/a2", BAD, LIMIT, -BELOW);
        worth("a1/a2", BAD, -LIMIT, BELOW);
        worth("a1/a2", BAD, 1, LEAST);
        worth("a1/a2", BAD, -1, LEAST);
        worth("a1/a2", 1.0, LEAST, LEAST);
        worth("a1/a2", 0.0, 0, LEAST);
        worth("a1/a2", 0.0, LEAST, LIMIT);
    }

    // Each result counts, not the last one alone.
    private static void beyondOnTheWay() {
        worth("a1+1-1", BAD, LIMIT);
        worth("a1-1+1", LIMIT, LIMIT);
        worth("a1-1+1", BAD, -LIMIT);
        worth("a1*2/2", BAD, LIMIT);
        worth("a1/2*2", LIMIT, LIMIT);
        worth("0*(a1+1)", BAD, LIMIT);
        worth("(a1+1)=0", BAD, LIMIT);
        worth("!(a1+1)", BAD, LIMIT);
        worth("@abs(a1-1)", BAD, -LIMIT);
        worth("@int(a1*2)", BAD, LIMIT);
        worth("@if(a1+1,1,2)", BAD, LIMIT);
        worth("1/(a1*2)", BAD, LIMIT);
    }

    // division by 0: BAD
    private static void divisionByZero() {
        worth("1/0", BAD);
        worth("0/0", BAD);
        worth("-1/0", BAD);
        worth("1/-0", BAD);
        worth("1/0.0000", BAD);
        worth("1/0.0001", 10000.0);
        worth("1/a1", BAD, -0.0);
        worth("1/(a1*0)", BAD, -3);
        worth("1/(1-1)", BAD);
        worth("a1/a1", 1.0, LEAST);
        worth("a1/a1", 1.0, -LEAST);
        worth("1/@int(0.9999)", BAD);
        worth("1/@sum(a1:a9)", BAD);
    }

    // - PART: the negative.
    private static void negatives() {
        worth("-a1", -LIMIT, LIMIT);
        worth("-a1", LIMIT, -LIMIT);
        worth("-0=0", 1.0);
        worth("-2*3", -6.0);
        worth("2--3", 5.0);
        worth("-2-3", -5.0);
        worth("-a1=a2", 1.0, LEAST, -LEAST);
    }

    // = equal, # not equal, <, >: 1 or 0.
    private static void comparisons() {
        String[] signs = {"=", "#", "<", ">"};
        double[][] pairs = {{1, 1}, {1, ABOVE}, {ABOVE, 1}, {0.0, -0.0}, {-0.0, 0.0}, {0, LEAST}, {0, -LEAST},
            {LIMIT, LIMIT}, {-LIMIT, LIMIT}, {LIMIT, Math.nextDown(LIMIT)}};
        String[] due = {"1000", "0110", "0101", "1000", "1000", "0110", "0101", "1000", "0110", "0101"};
        for (int i = 0; i < pairs.length; i++) {
            for (int sign = 0; sign < signs.length; sign++) {
                worth("a1" + signs[sign] + "a2", due[i].charAt(sign) - '0' + ".0", pairs[i]);
            }
        }
        worth("0.1+0.2=0.3", 0.0);
        worth("0.1+0.2>0.3", 1.0);
    }

    // &: 1 if both are other than 0, else 0. |: 1 if one is other than 0, else 0. !: 1 if it is 0, else 0.
    private static void logics() {
        double[] others = {LEAST, -LEAST, 1, -1, LIMIT, -LIMIT, 0.5};
        for (double other : others) {
            for (double zero : new double[] {0.0, -0.0}) {
                worth("a1&a2", 0.0, other, zero);
                worth("a1&a2", 0.0, zero, other);
                worth("a1&a2", 0.0, zero, zero);
                worth("a1|a2", 1.0, other, zero);
                worth("a1|a2", 1.0, zero, other);
                worth("a1|a2", 0.0, zero, zero);
                worth("!a1", 1.0, zero);
            }
            worth("a1&a2", 1.0, other, other);
            worth("a1|a2", 1.0, other, other);
            worth("!a1", 0.0, other);
        }
        worth("1|1&0", 0.0);
        worth("0&0|1", 1.0);
        worth("0&1=0", 0.0);
        worth("!1&0", 0.0);
        worth("!0|0", 1.0);
    }

    // abs: the size.
    private static void sizes() {
        worth("@abs(a1)", LIMIT, -LIMIT);
        worth("@abs(a1)", LIMIT, LIMIT);
        worth("@abs(a1)", LEAST, -LEAST);
        worth("@abs(a1)=0", 1.0, -0.0);
        worth("@abs(a1)", 0.5, -0.5);
        worth("@abs(a1)", 0.5, 0.5);
        worth("@abs(a1)", LEAST, LEAST);
        worth("@abs(a1)", 1.0, -1);
    }

    // int: without what is behind the point.
    private static void withoutWhatIsBehindThePoint() {
        worth("@int(a1)", 0.0, BELOW);
        worth("@int(a1)", 1.0, 1);
        worth("@int(a1)", 1.0, ABOVE);
        worth("@int(a1)", 1.0, Math.nextDown(2.0));
        worth("@int(a1)=0", 1.0, -BELOW);
        worth("@int(a1)", -1.0, -1);
        worth("@int(a1)", -1.0, Math.nextUp(-2.0));
        worth("@int(a1)", -2.0, -2);
        worth("@int(a1)", LIMIT, LIMIT);
        worth("@int(a1)", -LIMIT, -LIMIT);
        worth("@int(a1)", LIMIT - 1, Math.nextDown(LIMIT));
        worth("@int(a1)", 1 - LIMIT, Math.nextUp(-LIMIT));
        worth("@int(a1)", (double) (1L << 31), (1L << 31) + 0.5);
        worth("@int(a1)", -3e9, -3e9 - 0.5);
    }

    // if: the second if the first is other than 0, else the third ...
    private static void ifTakesOne() {
        for (double other : new double[] {1, -1, LEAST, -LEAST, LIMIT, -LIMIT}) {
            worth("@if(a1,2,3)", 2.0, other);
        }
        worth("@if(a1,2,3)", 3.0, 0.0);
        worth("@if(a1,2,3)", 3.0, -0.0);
        worth("@if(a1,2,3)", 3.0);
        worth("@if(1,@if(0,1,2),3)", 2.0);
        worth("@if(0,3,@if(1,1,2))", 1.0);
    }

    // ... the one that is not taken is not worked out.
    private static void ifLeavesTheOther() {
        worth("@if(1,2,1/0)", 2.0);
        worth("@if(0,1/0,3)", 3.0);
        worth("@if(1,1/0,3)", BAD);
        worth("@if(0,2,1/0)", BAD);
        worth("@if(1/0,2,3)", BAD);
        worth("@if(1/0,2,2)", BAD);
        worth("@if(1,2,a1+1)", 2.0, LIMIT);
        worth("@if(1,2,@avg(b1:b9))", 2.0);
        worth("@if(0,@min(b1:b9),3)", 3.0);
        worth("@if(1,2,@if(1/0,1,1))", 2.0);
        Probe p = new Probe();
        p.enter("b1", "@if(1,7,$c$1+c1+@sum(c1:c2))");
        due("those that are not taken are referred to", p.reaches("b1", "c2"), true);
        p.copy("b1", "h10");
        due("a lost one that is not taken", p.value("h10"), 7.0);
        p.enter("b2", "@if(0,7,a1)");
        p.copy("b2", "b1");
        due("a lost one that is taken", p.value("b1"), BAD);
    }

    // sum: from 0 on, the VALUES of the RANGE's cells that are not empty are added ...
    private static void sumOfNoneAndOne() {
        worth("@sum(a1:a9)", 0.0);
        worth("@sum(a1:a1)", 0.0);
        worth("@sum(a1:a1)", 4.0, 4);
        worth("@sum(a2:a2)", 0.0, 4);
        worth("@sum(a1:a3)", 6.0, 1, 2, 3, 100);
        worth("@sum(a2:a3)", 5.0, 1, 2, 3, 100);
        worth("@sum(a1:g10)", 70.0, filled(70, 1));
        worth("@sum(a1:h9)", 71.0, filled(78, 1));
        worth("@sum(a1:h9)", 72.0, filled(79, 1));
    }

    private static double[] filled(int many, double number) {
        double[] numbers = new double[many];
        Arrays.fill(numbers, number);
        return numbers;
    }

    // (a partial sum above 2^50 or below -2^50: BAD)
    private static void sumStepByStep() {
        worth("@sum(a1:a2)", LIMIT, LIMIT - 1, 1);
        worth("@sum(a1:a2)", LIMIT, LIMIT, 0.125);
        worth("@sum(a1:a2)", BAD, LIMIT, 0.25);
        worth("@sum(a1:a2)", -LIMIT, -LIMIT, -0.125);
        worth("@sum(a1:a2)", BAD, -LIMIT, -0.25);
        worth("@sum(a1:a3)", BAD, LIMIT, 1, -1);
        worth("@sum(a1:a3)", LIMIT, LIMIT, -1, 1);
        worth("@sum(a1:a3)", BAD, -LIMIT, -1, 1);
        worth("@sum(a1:a3)", -LIMIT, -LIMIT, 1, -1);
        worth("@sum(a1:a3)", LIMIT, -LIMIT, LIMIT, LIMIT);
        worth("@sum(a1:a3)", BAD, LIMIT, LIMIT, -LIMIT);
        worth("@sum(a1:a3)", BAD, -LIMIT, -LIMIT, LIMIT);
        worth("@avg(a1:a3)", BAD, LIMIT, 1, -1);
        worth("@avg(a1:a2)", BAD, LIMIT, LIMIT);
    }

    // ... one after another, column by column, in each from the least row.
    private static void sumInItsOrder() {
        double[][] orders = {{LIMIT, -1, 1, 0}, {LIMIT, 1, -1, 0}, {-1, LIMIT, 1, 0}, {1, LIMIT, -1, 0}};
        Object[] due = {LIMIT, BAD, LIMIT, BAD};
        for (int i = 0; i < orders.length; i++) {
            for (String range : new String[] {"a1:b2", "b2:a1", "a2:b1", "b1:a2"}) {
                Probe p = new Probe();
                p.put("a1", orders[i][0]);
                p.put("a2", orders[i][1]);
                p.put("b1", orders[i][2]);
                p.put("b2", orders[i][3]);
                due("sum " + i + " of " + range, p.worth("@sum(" + range + ")"), due[i]);
            }
        }
        worth("@sum(a1:a3)", 0.1 + 0.2 + 0.3, 0.1, 0.2, 0.3);
        worth("@sum(a3:a1)", 0.3 + 0.2 + 0.1, 0.3, 0.2, 0.1);
    }

    // cnt: how many cells are not empty.
    private static void countOfNoneAndAll() {
        worth("@cnt(a1:a9)", 0.0);
        worth("@cnt(a1:a1)", 1.0, 0);
        worth("@cnt(a2:a9)", 0.0, 0);
        worth("@cnt(a1:a2)", 1.0, 0);
        worth("@cnt(a1:g10)", 70.0, filled(70, 0));
        worth("@cnt(a1:h9)", 71.0, filled(78, 0));
        worth("@cnt(a1:h9)", 72.0, filled(79, 0));
    }

    // avg: sum divided by cnt; cnt 0: BAD.
    private static void averages() {
        worth("@avg(a1:a9)", BAD);
        worth("@avg(a1:a1)", BAD);
        worth("@avg(a1:a9)", 0.0, 0);
        worth("@avg(a1:a9)", LIMIT, LIMIT);
        worth("@avg(a1:a9)", -LIMIT, -LIMIT);
        worth("@avg(a1:a9)", 2.5, 2, 3);
        worth("@avg(a1:a9)", 1 / 3.0, 0, 0, 1);
        worth("@avg(a1:a9)", (0.1 + 0.2 + 0.3) / 3, 0.1, 0.2, 0.3);
        worth("@avg(a1:a9)", 0.0, LIMIT, -LIMIT);
    }

    // min, max: the least, greatest VALUE; no cell that is not empty: BAD.
    private static void leastAndGreatest() {
        for (String name : new String[] {"@min", "@max"}) {
            worth(name + "(a1:a9)", BAD);
            worth(name + "(a1:a1)", BAD);
            worth(name + "(a2:a9)", BAD, 1);
            worth(name + "(a1:a9)", 7.0, 7);
            worth(name + "(a1:a9)", -7.0, -7);
            worth(name + "(a1:a9)", 0.0, 0);
            worth(name + "(a1:a9)", LIMIT, LIMIT, LIMIT);
            worth(name + "(a1:a9)", -LIMIT, -LIMIT);
            worth(name + "(a1:a9)", 3.0, 3, 3, 3);
        }
        worth("@min(a1:a9)", 1.0, ABOVE, 1, ABOVE);
        worth("@max(a1:a9)", 1.0, BELOW, 1, BELOW);
        worth("@min(a1:a9)", -3.0, -1, -2, -3);
        worth("@min(a1:a9)", -3.0, -3, -2, -1);
        worth("@max(a1:a9)", -1.0, -1, -2, -3);
        worth("@max(a1:a9)", -1.0, -3, -2, -1);
        worth("@min(a1:a9)", 1.0, 3, 1, 2);
        worth("@max(a1:a9)", 3.0, 1, 3, 2);
        worth("@min(a1:a9)", -LIMIT, LIMIT, -LIMIT);
        worth("@max(a1:a9)", LIMIT, -LIMIT, LIMIT);
    }

    // A RANGE is all cells of the columns from one's to the other's and the rows from one's to the other's,
    // whichever is less.
    private static void rangesWhicheverIsLess() {
        Probe p = new Probe();
        double weight = 1;
        for (int row = 1; row <= 4; row++) {
            for (char column = 'b'; column <= 'e'; column++) {
                p.put(column + "" + row, weight);
                weight = weight * 2;
            }
        }
        double middle = 32 + 64 + 512 + 1024;
        for (String range : new String[] {"c2:d3", "d3:c2", "c3:d2", "d2:c3", "$c$2:d3", "d$2:$c3"}) {
            due("sum of " + range, p.worth("@sum(" + range + ")"), middle);
        }
        due("one column", p.worth("@sum(c2:c3)"), 32.0 + 512);
        due("one row", p.worth("@sum(d2:c2)"), 32.0 + 64);
        due("one cell", p.worth("@sum(c2:c2)"), 32.0);
        due("all", p.worth("@sum(b1:e4)"), weight - 1);
        due("beyond all", p.worth("@sum(g9:a1)"), weight - 1);
    }

    // it is LOST if one of its REFERENCES is. A RANGE that is LOST: BAD.
    private static void rangesThatAreLost() {
        for (String name : RANGE_NAMES) {
            String[] lines = {"(c2:$d$3)", "($d$3:c2)", "(c2:c3)"};
            for (String line : lines) {
                Probe p = sheet();
                p.put("d3", 1);
                p.enter("d5", "@" + name + line);
                due("lost of " + name + line, p.copy("d5", "a5"), line.equals("(c2:c3)") ? 2 : 1);
                due(name + " of a lost range", p.value("a5"), BAD);
                due(name + " of a lost range is no circle", p.kind("a5"), 3);
                due("its worth in all else", p.worth("0*a5"), BAD);
            }
        }
    }

    // A REFERENCE: ... LOST: BAD.
    private static void lostReferences() {
        String[] lines = {"a5", "-a5", "!a5", "0*a5", "1|a5", "@abs(a5)", "@if(a5,1,1)", "@if(0,1,a5)"};
        for (String line : lines) {
            Probe p = new Probe();
            p.enter("b5", line);
            p.copy("b5", "a6");
            due(line + " with a lost one", p.value("a6"), BAD);
            due(line + " with a lost one, its kind", p.kind("a6"), 3);
        }
    }

    // What is BAD in anything that is worked out ... makes the whole BAD.
    private static void badInAnything() {
        for (String sign : new String[] {"+", "-", "*", "=", "#", "<", ">", "&", "|"}) {
            for (String good : new String[] {"0", "1", "a1"}) {
                worth("(1/0)" + sign + good, BAD);
                worth(good + sign + "(1/0)", BAD);
            }
            worth("(1/0)" + sign + "(1/0)", BAD);
        }
        worth("0/(1/0)", BAD);
        worth("(1/0)/1", BAD);
        worth("(1/0)/(1/0)", BAD);
        worth("-(1/0)", BAD);
        worth("!(1/0)", BAD);
        worth("@abs(1/0)", BAD);
        worth("@int(1/0)", BAD);
        worth("-(-(1/0))", BAD);
        worth("@abs(-(1/0))", BAD);
    }

    // BAD is no number, not even a great one that something of the other sign could bring back.
    private static void badIsNotBroughtBack() {
        String[] ranges = {"sum(a1:a2)", "avg(a1:a2)", "sum(a2:a3)", "min(a1:a3)", "max(a1:a3)"};
        for (double number : new double[] {LIMIT, -LIMIT, 1 / LIMIT, -1 / LIMIT, LEAST}) {
            for (String bad : new String[] {"1/0", "b2+b2", "b1+b1", "b2*b1"}) {
                for (String sign : new String[] {"+", "-", "*", "/", "<", ">", "=", "#"}) {
                    broughtBack(bad, number, "a1" + sign + "(" + bad + ")");
                    broughtBack(bad, number, "(" + bad + ")" + sign + "a1");
                    broughtBack(bad, number, "a2" + sign + "a1");
                    broughtBack(bad, number, "a1" + sign + "a2");
                }
                for (String range : ranges) {
                    broughtBack(bad, number, "@" + range);
                }
            }
        }
    }

    private static void broughtBack(String bad, double number, String line) {
        Probe p = new Probe();
        p.put("b1", LIMIT);
        p.put("b2", -LIMIT);
        p.put("a1", number);
        p.put("a3", number);
        p.enter("a2", bad);
        due(line + " with " + bad + " and " + number, p.worth(line), BAD);
    }

    // (a cell of a RANGE too, but not for cnt)
    private static void badCellsInRanges() {
        for (String bad : new String[] {"1/0", "b9", "999999999*999999999", "-999999999*999999999"}) {
            for (String cell : new String[] {"b1", "b2", "b3"}) {
                Probe p = new Probe();
                p.put("b1", 1);
                p.put("b2", 1);
                p.put("b3", 1);
                p.enter("b9", "b9");
                p.enter(cell, bad);
                for (String name : RANGE_NAMES) {
                    due(name + " with " + bad + " in " + cell, p.worth("@" + name + "(b1:b3)"),
                        name.equals("cnt") ? "3.0" : BAD);
                }
                due("beside " + bad, p.worth("@sum(c1:c3)"), 0.0);
            }
        }
    }

    // It is CIRCULAR if it can be reached from itself by going on to cells that are REFERRED to.
    private static void circlesOfAnySize() {
        for (int size : new int[] {1, 2, 3, 79, 80}) {
            Probe p = ring(size);
            due("circular in a ring of " + size, p.count(3), size);
            due("bad in a ring of " + size, p.count(4), size);
            due("the first of a ring of " + size, p.value("a1"), NOT_NOW);
            due("the last of a ring of " + size, p.value(ringCell(size - 1)), NOT_NOW);
            due("a ring of " + size + " reaches itself", p.reaches("a1", "a1"), true);
            p.put("a1", 1);
            due("a ring of " + size + " that is cut", p.count(3), 0);
            due("values of a ring of " + size + " that is cut", p.value(ringCell(size - 1)), 1.0);
        }
    }

    private static String ringCell(int i) {
        return Probe.name(i / 10, i % 10);
    }

    private static Probe ring(int size) {
        Probe p = new Probe();
        for (int i = 0; i < size; i++) {
            p.enter(ringCell(i), ringCell((i + 1) % size));
        }
        return p;
    }

    // A cell REFERS to the cells ..., whether these are needed or not.
    private static void circlesThatAreNotNeeded() {
        String[] lines = {"a1", "-a1", "0*a1", "@if(1,2,a1)", "@if(0,a1,2)", "@if(a1,1,1)", "@cnt(a1:a1)",
            "@cnt(a1:h10)", "@cnt(h10:a1)", "@if(1,2,@sum(a1:a2))", "0&a1", "1|a1", "$a$1"};
        for (String line : lines) {
            Probe p = new Probe();
            p.enter("a1", line);
            due(line + " in a1", p.value("a1"), NOT_NOW);
            due(line + " in a1, its kind", p.kind("a1"), 4);
        }
        for (String line : new String[] {"a2", "@cnt(a2:a10)", "@cnt(b1:h10)", "@cnt(a2:h2)"}) {
            Probe p = new Probe();
            p.enter("a1", line);
            due(line + " in a1", p.kind("a1"), 2);
        }
    }

    private static void besideACircle() {
        Probe p = new Probe();
        p.enter("a1", "a2");
        p.enter("a2", "a1");
        p.enter("a3", "a1");
        p.enter("a4", "a3");
        p.enter("a5", "@if(1,5,a1)");
        p.enter("a6", "@cnt(a1:a4)");
        p.enter("a7", "a5+a6");
        due("what refers to a circle", p.kind("a3"), 3);
        due("what refers to that", p.kind("a4"), 3);
        due("what refers to a circle without need", p.value("a5"), 5.0);
        due("what counts a circle", p.value("a6"), 4.0);
        due("what refers to those", p.value("a7"), 9.0);
        due("circular ones", p.count(3), 2);
        due("bad ones", p.count(4), 4);
        p.enter("a2", "a1+a3");
        due("one more in the circle", p.count(3), 3);
        due("it throws as the others do", p.value("a3"), NOT_NOW);
        p.erase("a1");
        due("no circle", p.count(3), 0);
        due("and none bad", p.count(4), 0);
    }

    // REFERENCES and RANGES (those that are not LOST)
    private static void lostOnesMakeNoCircle() {
        Probe p = new Probe();
        p.enter("a1", "$a1");
        due("a circle", p.kind("a1"), 4);
        p.enter("a2", "a1");
        p.copy("a2", "a1");
        due("a lost one is no circle", p.kind("a1"), 3);
        due("a lost one reaches nothing", p.reaches("a1", "a1"), false);
        p.enter("b2", "@cnt(a2:$h$10)");
        due("a range round itself", p.kind("b2"), 4);
        p.copy("b2", "a3");
        due("a lost range round itself", p.kind("a3"), 3);
        due("a lost range reaches nothing", p.reaches("a3", "h10") + p.reaches("a3", "a3"), "falsefalse");
    }

    // All VALUES are always those of the sheet as it is.
    private static void valuesAfterEachChange() {
        Probe p = new Probe();
        p.enter("b1", "a1+a2");
        p.enter("c1", "b1*2");
        due("of nothing", p.value("c1"), 0.0);
        p.put("a1", 3);
        due("after put", p.value("c1"), 6.0);
        p.copy("a1", "a2");
        due("after copy", p.value("c1"), 12.0);
        p.enter("a2", "a1*2");
        due("after enter", p.value("c1"), 18.0);
        p.erase("a1");
        due("after erase", p.value("c1"), 0.0);
        p.put("a1", 1);
        p.insert(1);
        due("after insert", p.value("c1") + p.value("a3"), "6.02.0");
        p.put("a2", 50);
        due("after put beside", p.value("c1"), 6.0);
        p.delete(0);
        due("after delete", p.count(2), 1);
        due("what lost its cell", p.value("a2"), BAD);
        due("kind after delete", p.kind("a2"), 3);
        p.put("a2", 2);
        due("count after put", p.count(4), 0);
        p.enter("b2", "b2");
        due("reaches after enter", p.reaches("b2", "b2"), true);
        p.put("b2", 1);
        due("reaches after put", p.reaches("b2", "b2"), false);
    }

    private interface Change {
        void on(Probe p);
    }

    /** c3 hangs on a10 through b3, and all has been asked for once. */
    private static Probe hanging() {
        Probe p = new Probe();
        p.put("a10", 2);
        p.put("d10", 0);
        p.enter("b3", "1/a10");
        p.enter("c3", "b3");
        due("what hangs", p.value("c3") + p.kind("c3") + p.reaches("c3", "a10"), "0.52true");
        due("none of it is bad", p.count(3) + p.count(4), 0);
        return p;
    }

    private static void eachQuestionAfterEachChange() {
        asked("put", p -> p.put("a10", 0), BAD, 3, true, 0, 2);
        asked("enter", p -> p.enter("a10", "0"), BAD, 3, true, 0, 2);
        asked("enter of a circle", p -> p.enter("a10", "c3"), NOT_NOW, 4, true, 3, 3);
        asked("erase", p -> p.erase("a10"), BAD, 3, true, 0, 2);
        asked("copy", p -> p.copy("d10", "a10"), BAD, 3, true, 0, 2);
        asked("insert", p -> p.insert(9), BAD, 3, false, 0, 2);
        asked("delete", p -> p.delete(9), BAD, 3, false, 0, 2);
        asked("put in place of a formula", p -> p.put("b3", 4), "4.0", 2, false, 0, 0);
        asked("erase of a formula", p -> p.erase("b3"), "0.0", 2, false, 0, 0);
    }

    /** Each question is the first one after the change. */
    private static void asked(String what, Change change, Object... want) {
        for (int question = 0; question < want.length; question++) {
            Probe p = hanging();
            change.on(p);
            due("question " + question + " after " + what, answer(p, question), want[question]);
        }
    }

    private static Object answer(Probe p, int question) {
        switch (question) {
            case 0:
                return p.value("c3");
            case 1:
                return p.kind("c3");
            case 2:
                return p.reaches("c3", "a10");
            default:
                return p.count(question);
        }
    }

    private static void longestChain() {
        for (boolean forwards : new boolean[] {true, false}) {
            List<String> cells = new ArrayList<>();
            for (int i = 0; i < 80; i++) {
                cells.add(forwards ? ringCell(i) : ringCell(79 - i));
            }
            Probe p = new Probe();
            p.put(cells.get(0), 1);
            for (int i = 1; i < 80; i++) {
                p.enter(cells.get(i), cells.get(i - 1));
            }
            due("the end of the longest chain", p.value(cells.get(79)), 1.0);
            p.put(cells.get(0), 2);
            due("the end of the longest chain again", p.value(cells.get(79)), 2.0);
            due("the longest way", p.reaches(cells.get(79), cells.get(0)), true);
            due("the longest way back", p.reaches(cells.get(0), cells.get(79)), false);
            p.erase(cells.get(40));
            due("the end of a chain that is cut", p.value(cells.get(79)), 0.0);
            due("the way that is cut", p.reaches(cells.get(79), cells.get(0)), false);
            due("the way to the cut", p.reaches(cells.get(79), cells.get(40)), true);
        }
    }
}
