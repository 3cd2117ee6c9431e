import java.io.IOException;
import java.nio.file.Files;
import java.nio.file.Path;
import java.util.ArrayList;
import java.util.List;

/**
 * What README.md shows. Its lines of Java stand here, too: the test looks whether they are the same, and whether what
 * they say is what README.md tells behind them. It is run from the project's directory.
 */
public final class ReadmeTest {
    private static final List<String> SAID = new ArrayList<>();

    static int put(Rankwise desk, String text) {
        for (char c : text.toCharArray()) {
            desk.type(c);
        }
        return desk.read();
    }

    static String printed(Rankwise desk, int length) {
        StringBuilder text = new StringBuilder();
        for (int place = 0; place < length; place++) {
            text.append((char) desk.out(place));
        }
        return text.toString();
    }

    static String answer(Rankwise desk) {
        return printed(desk, desk.answer(0, 10)) + "/" + printed(desk, desk.answer(1, 10));
    }

    static void say(Object what) {
        SAID.add(what.toString());
    }

    private static void shown() {
        // ---- texts and trees
        Rankwise desk = new Rankwise();
        int tree = put(desk, "((2+3))*4");
        say(tree);
        say(printed(desk, desk.print(tree)));
        say(printed(desk, desk.postfix(tree)));
        say((char) desk.node(tree, 0, 1));
        say(printed(desk, desk.print(desk.part(tree, 1))));
        int square = put(desk, "x^2");
        say(printed(desk, desk.print(desk.graft(square, 'x', tree))));
        desk.type('1');
        desk.type(')');
        say(desk.fault());
        say(desk.drop());
        // ---- reckoning
        say(desk.evaluate(put(desk, "1/3+1/6")));
        say(answer(desk));
        say(desk.evaluate(put(desk, "1/(2-2)")) == Rankwise.BY_ZERO);
        say(answer(desk));
        say(desk.let('a', tree));
        say(desk.reckon(put(desk, "a*0xf")));
        say(printed(desk, desk.answer(0, 16)));
        // ---- functions, sums and operators
        say(desk.define('g', 2));
        say(desk.addCase('g', put(desk, "y=0"), put(desk, "x")));
        say(desk.addCase('g', put(desk, "y>0"), put(desk, "g(y,x%y)")));
        say(desk.evaluate(put(desk, "g(12,18)")));
        say(answer(desk));
        say(desk.tell('@', Rankwise.BETWEEN, 6, Rankwise.LEFT, Rankwise.FUNCTION + 'g' - 'a'));
        say(desk.evaluate(put(desk, "12@18+s(k,1,10,k^2)")));
        say(answer(desk));
        // ---- simpler trees, polynomials, derivatives, equations
        desk = new Rankwise();
        int simpler = desk.simplify(put(desk, "2*x+3*x+0"));
        say(printed(desk, desk.print(simpler)));
        say(desk.trace(0, 0));
        say(desk.trace(0, 1));
        int cube = put(desk, "(x+1)^3");
        say(desk.gather(cube, 'x'));
        say(desk.coefficient(2));
        say(answer(desk));
        say(printed(desk, desk.print(desk.derive(cube, 'x'))));
        say(desk.let('x', put(desk, "2")));
        say(desk.slope(cube, 'x'));
        say(answer(desk));
        say(desk.solve(put(desk, "3*x+1=x-4"), 'x') == Rankwise.ONE_SOLUTION);
        say(answer(desk));
        // ---- undoing and asking
        say(desk.undo() == Rankwise.SHELF);
        say(desk.undo() == Rankwise.MEMORY);
        say(desk.evaluate(cube) == Rankwise.NO_VALUE);
        say(desk.audit(0, cube));
    }

    public static void main(String[] args) throws IOException {
        List<String> told = new ArrayList<>();
        int wrong = 0;
        List<String> own = Files.readAllLines(Path.of("src/test/java/ReadmeTest.java"));
        int next = 0;
        for (String line : linesOfJava(Files.readAllLines(Path.of("README.md")))) {
            int comment = line.indexOf("//");
            String code = comment < 0 ? line.trim() : line.substring(0, comment).trim();
            if (comment >= 0) {
                told.add(line.substring(comment + 2).trim());
            }
            int found = next;
            while (found < own.size() && !own.get(found).trim().equals(code)) {
                found++;
            }
            if (found == own.size()) {
                wrong++;
                System.out.println("README.md shows a line that is not tried here in its turn: " + code);
            } else {
                next = found + 1;
            }
        }
        shown();
        if (!SAID.equals(told)) {
            wrong++;
            System.out.println("said was " + SAID + ", README.md tells " + told);
        }
        System.out.println("ReadmeTest: " + told.size() + " answers, " + wrong + " wrong");
        if (wrong > 0 || told.isEmpty()) {
            System.exit(1);
        }
    }

    /** The lines between ```java and ``` that are not empty. */
    private static List<String> linesOfJava(List<String> page) {
        List<String> lines = new ArrayList<>();
        boolean inside = false;
        for (String line : page) {
            if (line.startsWith("```")) {
                inside = line.equals("```java");
            } else if (inside && !line.isBlank()) {
                lines.add(line);
            }
        }
        return lines;
    }
}
