import java.util.function.Consumer;
import java.util.function.Function;

/**
 * What the tests of edges share. They go through the document sentence by sentence: sentence() says which one the
 * checks behind it are about.
 */
final class Bench {
    static final String STATE = "IllegalStateException";
    static final String ARGUMENT = "IllegalArgumentException";
    static final String INDEX = "IndexOutOfBoundsException";
    static final String SIGNS = "+-*/%^!&|<>=~@#?";

    private static final int MOST_TREES = 30;
    private static final int MOST_NODES = 80;

    private static int sentences;
    private static int checks;
    private static int wrong;
    private static String words = "";

    private Bench() {
    }

    /** Begins the checks of a sentence of the document. */
    static void sentence(String text) {
        sentences++;
        words = text;
    }

    static void due(String what, Object got, Object want) {
        checks++;
        if (!got.equals(want)) {
            wrong++;
            System.out.println("\"" + words + "\": " + what + " answered " + got + ", due is " + want);
        }
    }

    /** Tells what was checked; the program ends with 1 if something was wrong. */
    static void end(String test) {
        System.out.println(test + ": " + checks + " checks of " + sentences + " sentences, " + wrong + " wrong");
        if (wrong > 0 || checks == 0) {
            System.exit(1);
        }
    }

    static Rankwise desk(Consumer<Rankwise> ready) {
        Rankwise desk = new Rankwise();
        ready.accept(desk);
        return desk;
    }

    /** A call that is refused with an exception, and leaves a desk as one on which it was not made. */
    static void refused(String what, String exception, Consumer<Rankwise> ready, Function<Rankwise, Object> call) {
        String got = outcome(desk(ready), call);
        due(what, got, "throws." + exception);
        Consumer<Rankwise> both = desk -> {
            ready.accept(desk);
            outcome(desk, call);
        };
        due("what there is behind " + what, sight(both), sight(ready));
    }

    static String outcome(Rankwise desk, Function<Rankwise, Object> call) {
        try {
            return String.valueOf(call.apply(desk));
        } catch (RuntimeException exception) {
            return "throws." + exception.getClass().getSimpleName();
        }
    }

    static void type(Rankwise desk, String text) {
        for (char c : text.toCharArray()) {
            desk.type(c);
        }
    }

    /** Reads a text, and tells its tree's number. */
    static int put(Rankwise desk, String text) {
        type(desk, text);
        return desk.read();
    }

    /** What fault() tells of a text. */
    static int fault(Rankwise desk, String text) {
        type(desk, text);
        int fault = desk.fault();
        desk.drop();
        return fault;
    }

    /** Each text and the place that fault() tells of it. */
    static void faults(Rankwise desk, Object... textsAndPlaces) {
        for (int k = 0; k < textsAndPlaces.length; k += 2) {
            due("fault of [" + textsAndPlaces[k] + "]", fault(desk, (String) textsAndPlaces[k]), textsAndPlaces[k + 1]);
        }
    }

    /** Each text and how it is read, and again from what is printed of it. */
    static void shapes(Rankwise desk, String... textsAndShapes) {
        for (int k = 0; k < textsAndShapes.length; k += 2) {
            String text = textsAndShapes[k];
            int tree = put(desk, text);
            due("reading [" + text + "]", shape(desk, tree), textsAndShapes[k + 1]);
            due("audit of [" + text + "]", desk.audit(0, tree), true);
            String printed = show(desk, tree);
            int other = put(desk, printed);
            due("reading [" + printed + "]", shape(desk, other), textsAndShapes[k + 1]);
            desk.undo();
            desk.undo();
        }
    }

    /** A tree with brackets round each operator. */
    static String shape(Rankwise desk, int tree) {
        return shape(desk, tree, 0);
    }

    private static String shape(Rankwise desk, int tree, int node) {
        int value = desk.node(tree, node, 1);
        int operands = desk.node(tree, node, 3);
        String[] parts = new String[operands];
        int next = node + 1;
        for (int k = 0; k < operands; k++) {
            parts[k] = shape(desk, tree, next);
            next += desk.node(tree, next, 5);
        }
        switch (desk.node(tree, node, 0)) {
            case Rankwise.NUMBER: return "" + value;
            case Rankwise.NAME: return "" + (char) value;
            case Rankwise.CALL: return (char) value + "(" + String.join(",", parts) + ")";
            default: break;
        }
        switch (desk.node(tree, node, 2)) {
            case Rankwise.BEFORE: return "(" + (char) value + parts[0] + ")";
            case Rankwise.BEHIND: return "(" + parts[0] + (char) value + ")";
            default: return "(" + parts[0] + (char) value + parts[1] + ")";
        }
    }

    static String printed(Rankwise desk, int length) {
        StringBuilder text = new StringBuilder();
        for (int k = 0; k < length; k++) {
            text.append((char) desk.out(k));
        }
        return text.toString();
    }

    static String show(Rankwise desk, int tree) {
        return printed(desk, desk.print(tree));
    }

    static String answer(Rankwise desk) {
        String top = printed(desk, desk.answer(0, 10));
        String bottom = printed(desk, desk.answer(1, 10));
        return bottom.equals("1") ? top : top + "/" + bottom;
    }

    /** The value of a text, or its fault; its tree is taken from the shelf again. */
    static String value(Rankwise desk, String text) {
        int tree = put(desk, text);
        int fault = desk.evaluate(tree);
        desk.undo();
        return fault == 0 ? answer(desk) : "fault " + fault;
    }

    /** Each text and its value, or its fault. */
    static void values(Rankwise desk, String... textsAndValues) {
        for (int k = 0; k < textsAndValues.length; k += 2) {
            due("value of [" + textsAndValues[k] + "]", value(desk, textsAndValues[k]), textsAndValues[k + 1]);
        }
    }

    static void let(Rankwise desk, char name, String text) {
        int tree = put(desk, text);
        if (desk.let(name, tree) != 0) {
            throw new IllegalStateException("let " + name + " " + text);
        }
    }

    /** Adds a case; a condition without characters is none. */
    static int addCase(Rankwise desk, char name, String condition, String value) {
        int when = condition.isEmpty() ? Rankwise.NONE : put(desk, condition);
        return desk.addCase(name, when, put(desk, value));
    }

    static void fill(Rankwise desk) {
        while (desk.trees() < MOST_TREES) {
            put(desk, "x");
        }
    }

    /**
     * All that can be seen of a desk, as one text. It is looked at in two ways, from what there is and backwards by
     * undo(), so there are two desks. (They take more calls than the 512 of which the document tells.)
     */
    static String sight(Consumer<Rankwise> ready) {
        StringBuilder seen = new StringBuilder();
        Rankwise desk = desk(ready);
        for (int place = 0; !outcomeOfOut(desk, place).startsWith("throws"); place++) {
            seen.append((char) desk.out(place));
        }
        seen.append("\nanswer ").append(answer(desk));
        seen.append("\ntyped ").append(desk.fault()).append(' ').append(desk.drop());
        for (int step = 0; desk.trace(step, 0) != Rankwise.NONE; step++) {
            seen.append("\nstep ").append(desk.trace(step, 0)).append(' ').append(desk.trace(step, 1));
        }
        for (int power = 0; power <= 8; power++) {
            seen.append("\ncoefficient ").append(desk.coefficient(power)).append(' ').append(answer(desk));
        }
        addKept(desk, seen);
        for (int tree = 0; tree < desk.trees(); tree++) {
            seen.append("\nvalue ").append(desk.evaluate(tree)).append(' ').append(answer(desk));
        }
        for (char name = 'a'; name <= 'z'; name++) {
            seen.append(name == 'i' || name == 's' ? "" : "\ncases " + desk.define(name, 1));
        }
        desk = desk(ready);
        for (int kind = desk.undo(); kind != Rankwise.NONE; kind = desk.undo()) {
            seen.append("\nundone ").append(kind);
            addKept(desk, seen);
        }
        return seen.toString();
    }

    private static String outcomeOfOut(Rankwise desk, int place) {
        return outcome(desk, one -> one.out(place));
    }

    /** What undo() can bring back. */
    private static void addKept(Rankwise desk, StringBuilder seen) {
        for (int tree = 0; tree < desk.trees(); tree++) {
            seen.append("\ntree ").append(shape(desk, tree));
        }
        seen.append("\ntable ").append(table(desk));
        for (char name = 'a'; name <= 'z'; name++) {
            seen.append(desk.recall(name) ? "\n" + name + " is " + answer(desk) : "");
        }
    }

    /** All operators: sign, fix, rank, side and meaning of each. */
    static String table(Rankwise desk) {
        StringBuilder told = new StringBuilder();
        for (char sign : SIGNS.toCharArray()) {
            for (int fix = 0; fix < 3; fix++) {
                if (desk.told(sign, fix, 0) != Rankwise.NONE) {
                    told.append(sign).append(fix).append(desk.told(sign, fix, 0)).append(desk.told(sign, fix, 1))
                        .append(' ').append(desk.told(sign, fix, 2)).append("; ");
                }
            }
        }
        return told.toString();
    }

    static int nodes(Rankwise desk, int tree) {
        return desk.node(tree, 0, 5);
    }

    /** Puts a tree with so many nodes on the shelf, at most 80: NEGATEs of x + x + .. . */
    static int grow(Rankwise desk, int nodes) {
        if (nodes > MOST_NODES) {
            throw new IllegalArgumentException("a tree has at most 80 nodes");
        }
        if (nodes <= 30) {
            return put(desk, "-".repeat(nodes - 1) + "x");
        }
        int tree = put(desk, "-".repeat(29) + "x");
        while (nodes(desk, tree) < nodes) {
            int more = Math.min(29, nodes - nodes(desk, tree));
            int piece = put(desk, "-".repeat(more) + "x");
            tree = desk.graft(tree, 'x', piece);
        }
        return tree;
    }
}
