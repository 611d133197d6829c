/** The example of README.md has the answers that stand there. */
public final class ExampleTest extends Checks {
    public static void main(String[] args) {
        part = "README.md";
        BestParses x = new BestParses(2);
        due("octets(6, ..)", x.octets(6, 0x626162616261L), 6);
        due("parse(3)", x.parse(3), 3);
        dueSteps(x, "0 1 0 0", "1 1 0 0", "2 4 2 1");
        due("sum()", x.sum(), 1856);
        due("least()", x.least(), true);
        due("told(5)", x.told(5), 'b');
        due("rounds(4)", x.rounds(4), 1734);
        due("cut(3)", x.cut(3), 1);
        due("split(200)", x.split(200), 584);
        due("taken(0)", x.taken(0), BestParses.NONE);
        finish();
    }
}
