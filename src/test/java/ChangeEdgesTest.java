import java.util.function.Consumer;

/** The edges of undo() and audit(), and which of several exceptions is thrown, sentence by sentence. */
public final class ChangeEdgesTest {
    private static final int MOST = Integer.MAX_VALUE;
    private static final int LEAST = Integer.MIN_VALUE;

    public static void main(String[] args) {
        nothing();
        kinds();
        noChanges();
        shelves();
        tables();
        values();
        functions();
        functionCases();
        latestTwenty();
        undoneAndNew();
        whatStays();
        audits();
        auditsOfOdd();
        firstException();
        Bench.end("ChangeEdgesTest");
    }

    private static void nothing() {
        Bench.sentence("NONE, if there is nothing to be undone.");
        Rankwise desk = new Rankwise();
        Bench.due("undo", desk.undo(), Rankwise.NONE);
        Bench.put(desk, "1");
        Bench.due("undo", desk.undo(), Rankwise.SHELF);
        Bench.due("undo", desk.undo(), Rankwise.NONE);
        Bench.due("undo", desk.undo(), Rankwise.NONE);
        Bench.due("trees", desk.trees(), 0);
    }

    private static void kinds() {
        Bench.sentence("Returns SHELF, TABLE, MEMORY or FUNCTIONS");
        Rankwise desk = new Rankwise();
        Bench.put(desk, "x*1");
        desk.part(0, 0);
        desk.graft(0, 'x', 0);
        desk.step(0);
        desk.simplify(0);
        desk.derive(0, 'y');
        desk.tell('@', Rankwise.BEFORE, 1, Rankwise.LEFT, Rankwise.NOT);
        desk.tell('@', Rankwise.BEFORE, 1, Rankwise.LEFT, Rankwise.NOT);
        Bench.let(desk, 'y', "5");
        desk.let('y', desk.trees() - 1);
        desk.unlet('y');
        desk.define('f', 1);
        desk.define('f', 1);
        desk.addCase('f', 0, 0);
        int[] due = {3, 3, 3, 2, 2, 2, 0, 1, 1, 0, 0, 0, 0, 0, 0, -1};
        for (int k = 0; k < due.length; k++) {
            Bench.due("undo " + k, desk.undo(), due[k]);
        }
        Bench.due("what there is then", Bench.table(desk), Bench.table(new Rankwise()));
    }

    private static void noChanges() {
        Bench.sentence("Undoes the latest change (calls that change none of the four leave nothing to be undone)");
        Rankwise desk = new Rankwise();
        Bench.put(desk, "1/0");
        Bench.due("let with a fault", desk.let('x', 0), Rankwise.BY_ZERO);
        Bench.due("unlet of a name without a value", desk.unlet('x'), false);
        Bench.due("step without a rule", desk.step(0), Rankwise.NONE);
        Bench.due("simplify without a rule", desk.simplify(0), 0);
        desk.evaluate(0);
        desk.reckon(0);
        desk.print(0);
        desk.postfix(0);
        desk.answer(0, 10);
        desk.recall('x');
        desk.gather(0, 'x');
        desk.coefficient(0);
        desk.slope(0, 'x');
        desk.solve(0, 'x');
        desk.type('1');
        desk.drop();
        for (int part = 0; part < 4; part++) {
            desk.audit(part, 0);
        }
        Bench.due("the tree", desk.undo(), Rankwise.SHELF);
        Bench.due("nothing more", desk.undo(), Rankwise.NONE);
    }

    private static void shelves() {
        Bench.sentence("that a tree was put on the shelf (it is gone from it)");
        Rankwise desk = new Rankwise();
        Bench.put(desk, "1");
        Bench.put(desk, "x+2");
        Bench.due("undo", desk.undo(), Rankwise.SHELF);
        Bench.due("trees", desk.trees(), 1);
        Bench.due("print", Bench.outcome(desk, one -> one.print(1)), "throws." + Bench.INDEX);
        Bench.due("the number is used again", Bench.put(desk, "y"), 1);
        Bench.due("by another tree", Bench.shape(desk, 1), "y");
        Bench.due("the first tree", Bench.shape(desk, 0), "1");
    }

    private static void tables() {
        Bench.sentence("an operator was told");
        Rankwise desk = new Rankwise();
        desk.tell('+', Rankwise.BETWEEN, 6, Rankwise.RIGHT, Rankwise.MULTIPLY);
        desk.tell('@', Rankwise.BEHIND, 9, Rankwise.LEFT, Rankwise.NOT);
        desk.tell('@', Rankwise.BEHIND, 2, Rankwise.LEFT, Rankwise.NEGATE);
        desk.undo();
        Bench.due("@", desk.told('@', 1, 0) * 100 + desk.told('@', 1, 2), 900 + Rankwise.NOT);
        desk.undo();
        Bench.due("@", desk.told('@', 1, 0), Rankwise.NONE);
        Bench.due("@ can be BETWEEN again", desk.tell('@', Rankwise.BETWEEN, 6, Rankwise.RIGHT, Rankwise.ADD), 0);
        desk.undo();
        Bench.due("+", desk.told('+', 2, 1), Rankwise.RIGHT);
        desk.undo();
        Bench.due("the table", Bench.table(desk), Bench.table(new Rankwise()));
    }

    private static void values() {
        Bench.sentence("a name was given a value or lost it");
        Rankwise desk = new Rankwise();
        Bench.put(desk, "1/2");
        Bench.put(desk, "2");
        desk.let('x', 0);
        desk.let('x', 1);
        desk.unlet('x');
        desk.let('x', 0);
        desk.let('y', 1);
        String[] due = {"1/2", "fault 4", "2", "1/2", "fault 4"};
        for (String value : due) {
            Bench.due("undo", desk.undo(), Rankwise.MEMORY);
            Bench.due("x", Bench.value(desk, "x"), value);
            Bench.due("y", Bench.value(desk, "y"), "fault 4");
        }
        Bench.due("undo", desk.undo(), Rankwise.SHELF);
    }

    private static void functions() {
        Bench.sentence("a function was made or got a case");
        Rankwise desk = new Rankwise();
        Bench.put(desk, "x");
        Bench.put(desk, "x+y");
        desk.define('f', 1);
        desk.addCase('f', 0, 1);
        desk.addCase('f', Rankwise.NONE, 0);
        desk.define('f', 2);
        desk.addCase('f', Rankwise.NONE, 1);
        desk.define('f', 3);
        String[] texts = {"f(0)", "f(7)", "f(1,2)", "f(1,2,3)"};
        String[][] due = {{"fault 5", "fault 5", "3", "fault 5"}, {"fault 5", "fault 5", "fault 6", "fault 5"}, {"0",
            "fault 7", "fault 5", "fault 5"},
            {"fault 6", "fault 4", "fault 5", "fault 5"}, {"fault 6", "fault 6", "fault 5", "fault 5"}, {"fault 5",
            "fault 5", "fault 5", "fault 5"}};
        for (int k = 0; k < due.length; k++) {
            Bench.due("undo " + k, desk.undo(), Rankwise.FUNCTIONS);
            for (int text = 0; text < texts.length; text++) {
                Bench.due(texts[text] + " then", Bench.value(desk, texts[text]), due[k][text]);
            }
        }
        Bench.due("define then", desk.define('f', 1), Rankwise.NONE);
    }

    private static void functionCases() {
        Bench.sentence("a function .. got a case (all four of them come back behind one that was made in its place)");
        Rankwise desk = new Rankwise();
        desk.define('f', 1);
        for (int k = 1; k <= 4; k++) {
            Bench.addCase(desk, 'f', "x=" + k, k + "0");
        }
        desk.define('f', 2);
        Bench.due("undo", desk.undo(), Rankwise.FUNCTIONS);
        Bench.values(desk, "f(1)", "10", "f(2)", "20", "f(3)", "30", "f(4)", "40", "f(5)", "fault 6");
        Bench.due("a fifth case", Bench.outcome(desk, one -> one.addCase('f', 0, 0)), "throws." + Bench.STATE);
        Bench.due("undo", desk.undo(), Rankwise.FUNCTIONS);
        Bench.values(desk, "f(3)", "30", "f(4)", "fault 6");
        Bench.due("a fourth case again", desk.addCase('f', 0, 0), 4);
    }

    private static void latestTwenty() {
        Bench.sentence("Undoes the latest change that is not undone, at most the latest 20");
        for (int changes = 19; changes <= 45; changes++) {
            Rankwise desk = new Rankwise();
            for (int k = 0; k < changes; k++) {
                desk.tell('@', Rankwise.BEFORE, 1 + k % 9, Rankwise.LEFT, Rankwise.NOT);
            }
            int undone = Math.min(changes, 20);
            for (int k = 0; k < undone; k++) {
                Bench.due("undo " + k + " of " + changes, desk.undo(), Rankwise.TABLE);
                int left = changes - k - 1;
                Bench.due("as it was then", desk.told('@', Rankwise.BEFORE, 0),
                    left == 0 ? Rankwise.NONE : 1 + (left - 1) % 9);
            }
            Bench.due("one more undo of " + changes, desk.undo(), Rankwise.NONE);
            int left = changes - undone;
            Bench.due("what is left", desk.told('@', Rankwise.BEFORE, 0),
                left == 0 ? Rankwise.NONE : 1 + (left - 1) % 9);
        }
        Rankwise mixed = new Rankwise();
        Bench.put(mixed, "x");
        mixed.define('f', 1);
        Bench.let(mixed, 'x', "5");
        for (int k = 0; k < 18; k++) {
            mixed.addCase('f', 0, 0);
            mixed.define('f', 1 + k % 3);
        }
        for (int k = 0; k < 20; k++) {
            Bench.due("undo " + k, mixed.undo(), Rankwise.FUNCTIONS);
        }
        Bench.due("one more", mixed.undo(), Rankwise.NONE);
        Bench.due("the trees stay", mixed.trees(), 2);
        Bench.due("the value stays", Bench.value(mixed, "x"), "5");
        Bench.due("the function stays", Bench.value(mixed, "f(1,2)"), "fault 6");
    }

    private static void undoneAndNew() {
        Bench.sentence("Undoes the latest change that is not undone");
        Rankwise desk = new Rankwise();
        Bench.put(desk, "1");
        Bench.put(desk, "2");
        Bench.due("undo", desk.undo(), Rankwise.SHELF);
        desk.define('f', 1);
        Bench.due("the new one", desk.undo(), Rankwise.FUNCTIONS);
        Bench.due("the one ahead of what was undone", desk.undo(), Rankwise.SHELF);
        Bench.due("trees", desk.trees(), 0);
        Bench.due("nothing", desk.undo(), Rankwise.NONE);
        for (int k = 0; k < 100; k++) {
            Bench.put(desk, "x");
            Bench.due("undo of one", desk.undo(), Rankwise.SHELF);
        }
        Bench.due("nothing", desk.undo(), Rankwise.NONE);
        for (int round = 0; round < 10; round++) {
            for (int k = 0; k < 20; k++) {
                Bench.put(desk, "x");
            }
            for (int k = 0; k < 20; k++) {
                Bench.due("undo of twenty", desk.undo(), Rankwise.SHELF);
            }
            Bench.due("nothing", desk.undo(), Rankwise.NONE);
        }
    }

    private static void whatStays() {
        Bench.sentence("The answer, the polynomial, the steps, what is typed and what is printed stay.");
        Consumer<Rankwise> ready = desk -> {
            Bench.put(desk, "x*1+3/2");
            desk.gather(0, 'x');
            desk.simplify(0);
            Bench.let(desk, 'x', "7");
            desk.evaluate(0);
            desk.define('f', 1);
            desk.tell('@', Rankwise.BEFORE, 1, Rankwise.LEFT, Rankwise.NOT);
            Bench.type(desk, "1+");
            desk.print(0);
        };
        for (int undone = 0; undone <= 7; undone++) {
            Rankwise desk = Bench.desk(ready);
            for (int k = 0; k < undone; k++) {
                desk.undo();
            }
            Bench.due("what is printed", Bench.printed(desk, 7), "x*1+3/2");
            Bench.due("what is behind it", Bench.outcome(desk, one -> one.out(7)), "throws." + Bench.INDEX);
            Bench.due("the answer", Bench.answer(desk), "17/2");
            Bench.due("the step", desk.trace(0, 0), 3);
            Bench.due("no other step", desk.trace(1, 0), Rankwise.NONE);
            desk.coefficient(0);
            Bench.due("the polynomial", Bench.answer(desk), "3/2");
            Bench.due("what is typed", desk.drop(), 2);
        }
    }

    private static void audits() {
        Bench.sentence("Asks the aim of a part for a tree; nothing changes by that.");
        Consumer<Rankwise> ready = desk -> {
            String[] texts = {"x^2*(y+0)-(z-z)/2", "(a-(b-c))-(-d)^2!", "i(x,2,3)+s(k,1,2,k)", "1/0", "f(x)",
                "--x+2*x+3*x", "7", "(1<2)<(3<4)"};
            for (String text : texts) {
                Bench.put(desk, text);
            }
            Bench.let(desk, 'x', "3/7");
            Bench.let(desk, 'y', "5");
            desk.define('f', 1);
            desk.addCase('f', Rankwise.NONE, 0);
            desk.gather(5, 'x');
            desk.simplify(5);
            desk.evaluate(6);
            Bench.type(desk, "1+");
            desk.print(1);
        };
        String before = Bench.sight(ready);
        for (int part = 0; part < 4; part++) {
            for (int tree = 0; tree < 8; tree++) {
                int one = part;
                int other = tree;
                Bench.due("audit " + part + " " + tree, Bench.desk(ready).audit(part, tree), true);
                Bench.due("what there is behind it", Bench.sight(desk -> {
                    ready.accept(desk);
                    desk.audit(one, other);
                }), before);
            }
        }
        Bench.sentence("Throws IllegalArgumentException if the part is not 0 to 3; IndexOutOfBoundsException if there is no such tree");
        for (int part : new int[] {4, -1, MOST, LEAST}) {
            Bench.refused("audit " + part, Bench.ARGUMENT, ready, desk -> desk.audit(part, 0));
            Bench.refused("audit without a tree " + part, Bench.ARGUMENT, ready, desk -> desk.audit(part, 99));
        }
        for (int tree : new int[] {30, -1, MOST, LEAST, 12}) {
            for (int part = 0; part < 4; part++) {
                int one = part;
                Bench.refused("audit " + part + " " + tree, Bench.INDEX, ready, desk -> desk.audit(one, tree));
            }
        }
    }

    private static void auditsOfOdd() {
        Bench.sentence("What always holds, whatever calls came before");
        Rankwise desk = new Rankwise();
        Bench.let(desk, 'x', "0");
        Bench.let(desk, 'y', "-1/2");
        Bench.let(desk, 'z', "2^64");
        desk.tell('@', Rankwise.BEFORE, 1, Rankwise.LEFT, Rankwise.NEGATE);
        desk.tell('#', Rankwise.BEHIND, 4, Rankwise.LEFT, Rankwise.NEGATE);
        desk.tell('?', Rankwise.BETWEEN, 8, Rankwise.NEITHER, Rankwise.MULTIPLY);
        String[] texts = {"x/x", "0/0", "x^0", "(x*y)^0", "(x?y)?z", "x?(y?z)", "(@x)+y", "x-(@y)-z", "x#-y#", "@x#",
            "(@x)#", "(x?@y)?z", "y^3/x", "(x+y)^64", "z^3*z",
            "s(x+0,1,2,x)", "i(x,1/0,1)", "2*z^3+3*z^3", "x-x+1/0", "@@x", "x##", "(x^2)^3/(y-y)", "(y+1/2)^1", "z/z/z",
            "(z^3)^0"};
        for (String text : texts) {
            int tree = Bench.put(desk, text);
            for (int part = 0; part < 4; part++) {
                Bench.due("audit " + part + " of " + text, desk.audit(part, tree), true);
            }
            desk.undo();
        }
    }

    private static void firstException() {
        Bench.sentence("Where several exceptions apply to a call, the one that it lists first is thrown");
        Consumer<Rankwise> full = desk -> {
            Bench.put(desk, "i(x,2^x,s(1))");
            Bench.fill(desk);
            Bench.type(desk, "1+".repeat(30));
        };
        Bench.refused("node", Bench.INDEX, full, desk -> desk.node(0, 99, 99));
        Bench.refused("part", Bench.INDEX, full, desk -> desk.part(0, 99));
        Bench.refused("graft", Bench.INDEX, full, desk -> desk.graft(0, 'X', 30));
        Bench.refused("graft", Bench.ARGUMENT, full, desk -> desk.graft(0, 'X', 0));
        Bench.refused("tell", Bench.ARGUMENT, full, desk -> desk.tell('!', Rankwise.BETWEEN, 3, Rankwise.LEFT,
            Rankwise.NOT));
        Bench.refused("postfix", Bench.INDEX, full, desk -> desk.postfix(30));
        Bench.refused("reckon", Bench.INDEX, full, desk -> desk.reckon(30));
        Bench.refused("let", Bench.ARGUMENT, full, desk -> desk.let('X', 30));
        Bench.refused("addCase", Bench.ARGUMENT, full, desk -> desk.addCase('X', 30, 30));
        Bench.refused("addCase", Bench.INDEX, full, desk -> desk.addCase('f', 30, 0));
        Bench.refused("step", Bench.INDEX, full, desk -> desk.step(30));
        Bench.refused("simplify", Bench.INDEX, full, desk -> desk.simplify(30));
        Bench.refused("gather", Bench.INDEX, full, desk -> desk.gather(30, 'X'));
        Bench.refused("derive", Bench.INDEX, full, desk -> desk.derive(30, 'X'));
        Bench.refused("derive", Bench.ARGUMENT, full, desk -> desk.derive(0, 'X'));
        Bench.refused("slope", Bench.INDEX, full, desk -> desk.slope(30, 'X'));
        Bench.refused("slope", Bench.ARGUMENT, full, desk -> desk.slope(0, 'X'));
        Bench.refused("solve", Bench.INDEX, full, desk -> desk.solve(30, 'X'));
        Bench.refused("audit", Bench.ARGUMENT, full, desk -> desk.audit(4, 30));

        Bench.sentence("a call that throws changes nothing");
        Bench.refused("type", Bench.STATE, full, desk -> desk.type('1'));
        Bench.refused("read", Bench.STATE, full, desk -> desk.read());
        Bench.refused("postfix", Bench.STATE, full, desk -> desk.postfix(0));
        Bench.refused("reckon", Bench.STATE, full, desk -> desk.reckon(0));
        Bench.refused("slope", Bench.STATE, full, desk -> desk.slope(0, 'x'));
        Bench.refused("derive", Bench.STATE, full, desk -> desk.derive(0, 'x'));
    }
}
