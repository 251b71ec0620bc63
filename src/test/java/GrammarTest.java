import java.util.Random;

/** enter and errorAt against the rules themselves: short lines of every kind, and long ones with faults. */
public final class GrammarTest {
    private static final Grammar GRAMMAR = new Grammar(6);

    public static void main(String[] args) {
        FormulaSheet sheet = new FormulaSheet();
        allShortLines(sheet, "", "1a0$.(-!=@:");
        brackets(sheet);
        names(sheet);
        Lines lines = new Lines(new Random(1), 8, 10);
        for (int i = 0; i < 1500; i++) {
            check(sheet, lines.formula());
            check(sheet, lines.faulty());
        }
        Check.end();
    }

    private static void allShortLines(FormulaSheet sheet, String line, String characters) {
        check(sheet, line);
        if (line.length() < 4) {
            for (int i = 0; i < characters.length(); i++) {
                allShortLines(sheet, line + characters.charAt(i), characters);
            }
        }
    }

    private static void brackets(FormulaSheet sheet) {
        for (int open = 0; open <= 8; open++) {
            for (String inner : new String[] {"1", "@abs(1)", "@sum(a1:a2)", "@if(1,2,3)", "(1)+(2)", "-(1)", "@", "("}) {
                for (int closed = 0; closed <= 8; closed++) {
                    check(sheet, "(".repeat(open) + inner + ")".repeat(closed));
                }
            }
        }
    }

    private static void names(FormulaSheet sheet) {
        for (String name : new String[] {"sum", "min", "max", "cnt", "avg", "abs", "int", "if", "ab", "sun", "i"}) {
            for (String behind : new String[] {"", "(", "()", "(1)", "(a1:b10)", "(1,2,3)", "(a1,b1,c1)", "(a1:b1)1"}) {
                check(sheet, "@" + name + behind);
            }
        }
        for (int c = 0; c <= 127; c++) {
            check(sheet, String.valueOf((char) c));
            check(sheet, "@" + (char) c);
            check(sheet, "1" + (char) c);
            check(sheet, "a1" + (char) c);
            check(sheet, "@sum(a1" + (char) c);
        }
    }

    private static void check(FormulaSheet sheet, String line) {
        for (int i = 0; i < line.length(); i++) {
            sheet.type(line.charAt(i));
        }
        int want = GRAMMAR.refusedAt(line);
        boolean taken = !Probe.answer(() -> sheet.enter(0, 0)).startsWith("throws");
        Check.due("'" + line + "' is taken", taken, want == -1);
        Check.due("errorAt of '" + line + "'", sheet.errorAt(), want);
    }
}
