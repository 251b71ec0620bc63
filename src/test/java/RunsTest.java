import java.util.ArrayList;
import java.util.List;
import java.util.Random;
import java.util.Set;
import java.util.function.Function;

/**
 * Runs of calls, the same ones each time, on the class and on the model beside it; all cells are compared after
 * each change. An object answers for 512 calls alone: when they are used up, the changes are made again on a
 * new one, which then tells of the next cells.
 */
public final class RunsTest {
    private static final int RUNS = 160;
    private static final int MOST_FOR_CHANGES = 380;
    private static final int MOST_FOR_A_CHANGE = 41;
    private static final int MOST_FOR_A_CELL = 90;
    private static final double[] NUMBERS = {0, 1, -1, 2.5, 1e9, 1L << 50, -(1L << 50), 0.1, -7};

    private final Random random;
    private final Lines lines;
    private final int columns;
    private final int rows;
    private final Model model = new Model();
    private final List<Function<Probe, String>> changes = new ArrayList<>();
    private final StringBuilder log = new StringBuilder();
    private Probe probe = new Probe();
    private int usedForChanges = 0;

    private RunsTest(int seed) {
        random = new Random(seed);
        columns = 2 + seed % 7;
        rows = 3 + seed % 8;
        lines = new Lines(random, columns, rows);
    }

    public static void main(String[] args) {
        for (int seed = 0; seed < RUNS && Check.wrongSoFar() == 0; seed++) {
            new RunsTest(seed).run();
        }
        Check.end();
    }

    private void run() {
        while (usedForChanges + MOST_FOR_A_CHANGE <= MOST_FOR_CHANGES && Check.wrongSoFar() == 0) {
            change();
            model.forget();
            compareAll();
        }
        if (Check.wrongSoFar() > 0) {
            System.out.println("after" + log);
        }
    }

    private void keepCalls(int needed) {
        if (probe.callsLeft() < needed) {
            probe = new Probe();
            changes.forEach(change -> change.apply(probe));
        }
    }

    private String changed(Function<Probe, String> change) {
        keepCalls(MOST_FOR_A_CHANGE);
        int before = probe.callsLeft();
        String answer = change.apply(probe);
        usedForChanges += before - probe.callsLeft();
        changes.add(change);
        return answer;
    }

    private void due(String call, Object got, Object want) {
        Check.due(call, got, want);
    }

    private int anyCell() {
        return random.nextInt(columns) * 10 + 9 - random.nextInt(rows);
    }

    private static String name(int cell) {
        return "abcdefgh".charAt(cell / 10) + "" + (cell % 10 + 1);
    }

    private void change() {
        int way = random.nextInt(20);
        int cell = anyCell();
        if (way < 9) {
            enter(cell, lines.formula());
        } else if (way < 12) {
            double number = NUMBERS[random.nextInt(NUMBERS.length)];
            log.append(" put ").append(name(cell)).append(' ').append(number);
            due("put", changed(p -> p.put(name(cell), number)), "");
            model.cells[cell / 10][cell % 10] = number;
        } else if (way < 13) {
            erase(cell);
        } else if (way < 17) {
            copy(cell, anyCell());
        } else {
            int row = 9 - random.nextInt(rows);
            boolean in = random.nextInt(2) == 0;
            log.append(in ? " insert " : " delete ").append(row);
            String answer = changed(p -> in ? p.insert(row) : p.delete(row));
            due(in ? "insert" : "delete", answer, in ? model.insert(row) : model.delete(row));
        }
    }

    private void enter(int cell, String line) {
        log.append(" enter ").append(name(cell)).append(' ').append(line);
        String got = changed(p -> p.enter(name(cell), line));
        model.cells[cell / 10][cell % 10] = Model.parse(line);
        due("enter " + line, got, model.referred(cell).size());
    }

    private void erase(int cell) {
        log.append(" erase ").append(name(cell));
        boolean empty = model.cells[cell / 10][cell % 10] == null;
        due("erase", changed(p -> p.erase(name(cell))), empty ? "throws.NoSuchElementException" : "");
        model.cells[cell / 10][cell % 10] = null;
    }

    private void copy(int cell, int to) {
        log.append(" copy ").append(name(cell)).append(' ').append(name(to));
        Object content = model.cells[cell / 10][cell % 10];
        Object want = content == null ? "throws.NoSuchElementException" : 0;
        if (content instanceof Model.Node formula) {
            content = formula.copied(to / 10 - cell / 10, to % 10 - cell % 10);
            want = Model.lost((Model.Node) content) - Model.lost(formula);
        }
        if (content != null) {
            model.cells[to / 10][to % 10] = content;
        }
        due("copy", changed(p -> p.copy(name(cell), name(to))), want);
    }

    private void compareAll() {
        int[] counts = new int[5];
        for (int cell = 0; cell < 80; cell++) {
            int kind = compare(cell);
            counts[1] += kind > 0 ? 1 : 0;
            counts[2] += kind > 1 ? 1 : 0;
            counts[3] += kind == 4 ? 1 : 0;
            counts[4] += kind > 2 ? 1 : 0;
        }
        keepCalls(counts.length + 1);
        for (int what = 0; what < counts.length; what++) {
            due("count " + what, probe.count(what), counts[what]);
        }
        due("count 5", probe.count(5), model.lost());
    }

    /** The kind that is due. */
    private int compare(int cell) {
        String name = name(cell);
        Object content = model.cells[cell / 10][cell % 10];
        Set<Integer> reached = model.reached(cell);
        keepCalls(MOST_FOR_A_CELL);
        for (int i = 0; i < 3; i++) {
            int to = anyCell();
            due("reaches " + name + " " + name(to), probe.reaches(name, name(to)), reached.contains(to));
        }
        String value = "throws.NoSuchElementException";
        String text = "throws.UnsupportedOperationException";
        int kind = content == null ? 0 : 1;
        if (content != null) {
            try {
                value = plain(String.valueOf(model.value(cell)));
                kind = content instanceof Model.Node ? 2 : 1;
            } catch (Model.Bad e) {
                kind = reached.contains(cell) ? 4 : 3;
                value = kind == 4 ? "throws.IllegalStateException" : "throws.ArithmeticException";
            }
        }
        if (content instanceof Model.Node formula) {
            text = Model.write(formula);
        }
        due("kind " + name, probe.kind(name), kind);
        due("value " + name, plain(probe.value(name)), value);
        due("text " + name, probe.text(name), text);
        return kind;
    }

    /** 0 and -0 are one number. */
    private static String plain(String number) {
        return number.equals("-0.0") ? "0.0" : number;
    }
}
