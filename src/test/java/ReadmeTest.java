/** The example of README.md, call by call. */
public final class ReadmeTest {
    public static void main(String[] args) {
        FormulaSheet sheet = new FormulaSheet();
        sheet.put(0, 0, 20);
        sheet.put(0, 1, 22);
        int length = 0;
        for (char c : "@sum(a1:a9)*2".toCharArray()) {
            length++;
            Check.due("type " + c, sheet.type(c), length);
        }
        Check.due("the line's length", length, 13);
        Check.due("enter b1", sheet.enter(1, 0), 9);
        Check.due("value of b1", sheet.value(1, 0), 84.0);
        Check.due("copy b1 to c1", sheet.copy(1, 0, 2, 0), 0);
        Check.due("value of c1", sheet.value(2, 0), 168.0);
        Check.due("c1 reaches a2", sheet.reaches(2, 0, 0, 1), true);
        Check.due("insert", sheet.insert(0), 0);
        Check.due("a character of b2", (char) sheet.text(1, 1, 6), '2');
        Check.due("delete", sheet.delete(1), 3);
        Check.due("value of a2", sheet.value(0, 1), 22.0);
        Check.end();
    }
}
