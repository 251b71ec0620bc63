import java.util.Random;

/** enter and errorAt against the rules themselves: short lines of every kind, and long ones with faults. */
public final class GrammarTest {
    private static final Grammar GRAMMAR = new Grammar(6);

    public static void main(String[] args) {
        allShortLines("", "1a0$.(-!=@:");
        brackets();
        names();
        Lines lines = new Lines(new Random(1), 8, 10);
        for (int i = 0; i < 1500; i++) {
            check(lines.formula());
            check(lines.faulty());
        }
        Check.end();
    }

    private static void allShortLines(String line, String characters) {
        check(line);
        if (line.length() < 4) {
            for (int i = 0; i < characters.length(); i++) {
                allShortLines(line + characters.charAt(i), characters);
            }
        }
    }

    private static void brackets() {
        String[] parts = {"1", "@abs(1)", "@sum(a1:a2)", "@if(1,2,3)", "(1)+(2)", "-(1)", "@", "("};
        for (int open = 0; open <= 8; open++) {
            for (String inner : parts) {
                for (int closed = 0; closed <= 8; closed++) {
                    check("(".repeat(open) + inner + ")".repeat(closed));
                }
            }
        }
    }

    private static void names() {
        for (String name : new String[] {"sum", "min", "max", "cnt", "avg", "abs", "int", "if", "ab", "sun", "i"}) {
            for (String behind : new String[] {"", "(", "()", "(1)", "(a1:b10)", "(1,2,3)", "(a1,b1,c1)", "(a1:b1)1"}) {
                check("@" + name + behind);
            }
        }
        for (int c = 0; c <= 127; c++) {
            check(String.valueOf((char) c));
            check("@" + (char) c);
            check("1" + (char) c);
            check("a1" + (char) c);
            check("@sum(a1" + (char) c);
        }
    }

    private static void check(String line) {
        FormulaSheet sheet = new FormulaSheet();
        for (int i = 0; i < line.length(); i++) {
            sheet.type(line.charAt(i));
        }
        int want = GRAMMAR.refusedAt(line);
        boolean taken = !Probe.answer(() -> sheet.enter(0, 0)).startsWith("throws");
        Check.due("'" + line + "' is taken", taken, want == -1);
        Check.due("errorAt of '" + line + "'", sheet.errorAt(), want);
    }
}
