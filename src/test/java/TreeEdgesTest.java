import java.util.function.Consumer;

/** The edges of the shelf, of operators that are told, and of printing, sentence by sentence. */
public final class TreeEdgesTest {
    private static final int MOST = Integer.MAX_VALUE;
    private static final int LEAST = Integer.MIN_VALUE;

    public static void main(String[] args) {
        constants();
        newObject();
        brackets();
        fullShelf();
        eightyNodes();
        nodes();
        same();
        parts();
        grafts();
        keptSigns();
        toldRanges();
        toldSigns();
        fixes();
        oneSide();
        ranksBefore();
        told();
        printed();
        fewestBrackets();
        postfix();
        noPostfix();
        out();
        Bench.end("TreeEdgesTest");
    }

    private static void constants() {
        Bench.sentence("The constants");
        int[] got = {Rankwise.NONE, Rankwise.BEFORE, Rankwise.BEHIND, Rankwise.BETWEEN, Rankwise.LEFT, Rankwise.RIGHT,
            Rankwise.NEITHER, Rankwise.ADD, Rankwise.SUBTRACT, Rankwise.MULTIPLY, Rankwise.DIVIDE, Rankwise.REMAINDER,
            Rankwise.POWER, Rankwise.LESS, Rankwise.EQUAL, Rankwise.GREATER, Rankwise.AND, Rankwise.OR, Rankwise.NEGATE,
            Rankwise.NOT, Rankwise.FACTORIAL, Rankwise.FUNCTION, Rankwise.NUMBER, Rankwise.NAME, Rankwise.CALL,
            Rankwise.OPERATOR, Rankwise.BY_ZERO, Rankwise.NOT_WHOLE, Rankwise.TOO_GREAT, Rankwise.NO_VALUE,
            Rankwise.NO_FUNCTION, Rankwise.NO_CASE, Rankwise.TWO_CASES, Rankwise.TOO_DEEP, Rankwise.TOO_LONG,
            Rankwise.NO_RANGE, Rankwise.NO_SOLUTION, Rankwise.ONE_SOLUTION, Rankwise.ALL_SOLVE, Rankwise.SHELF,
            Rankwise.TABLE, Rankwise.MEMORY, Rankwise.FUNCTIONS};
        int[] want = {-1, 0, 1, 2, 0, 1, 2, 0, 1, 2, 3, 4, 5, 6, 7, 8, 9, 10, 11, 12, 13, 100, 0, 1, 2, 3,
            1, 2, 3, 4, 5, 6, 7, 8, 9, 10, 0, 1, 2, 0, 1, 2, 3};
        Bench.due("how many", got.length, want.length);
        for (int k = 0; k < want.length; k++) {
            Bench.due("constant " + k, got[k], want[k]);
        }
    }

    private static void newObject() {
        Bench.sentence("Nothing is typed, no trees, names, functions; the operators are those told at first. The answer is 0, nothing is printed.");
        Rankwise desk = new Rankwise();
        Bench.due("out", Bench.outcome(desk, one -> one.out(0)), "throws." + Bench.INDEX);
        Bench.due("drop", desk.drop(), 0);
        Bench.due("trees", desk.trees(), 0);
        Bench.due("undo", desk.undo(), Rankwise.NONE);
        Bench.due("a step", desk.trace(0, 0), Rankwise.NONE);
        Bench.due("length of the numerator", desk.answer(0, 2), 1);
        Bench.due("the answer", Bench.answer(desk), "0");
        Bench.due("the operators", Bench.table(desk),
            "+240 0; -060 11; -240 1; *250 2; /250 3; %250 4; ^271 5; !180 13; &220 9; "
            + "|210 10; <232 6; >232 8; =232 7; ~060 12; ");
        for (char name = 'a'; name <= 'z'; name++) {
            char letter = name;
            Bench.due("value of " + name, desk.recall(name), false);
            Bench.due("name without a value " + name, desk.unlet(name), false);
            Bench.due("function " + name, Bench.value(desk, name + "(1)"), "fault 5");
            if (name != 'i' && name != 's') {
                Bench.due("cases of " + name, Bench.outcome(new Rankwise(), one -> one.define(letter, 1)), "-1");
            }
        }
        for (int power = 0; power <= 8; power++) {
            Bench.due("coefficient " + power, desk.coefficient(power), false);
        }
    }

    private static void brackets() {
        Bench.sentence("brackets that are no call's leave nothing in it");
        Rankwise desk = new Rankwise();
        Bench.put(desk, "((((1))+((x))))");
        Bench.put(desk, "1+x");
        Bench.due("nodes", Bench.nodes(desk, 0), 3);
        Bench.due("isSame", desk.isSame(0, 1), true);
    }

    private static void fullShelf() {
        Bench.sentence("Trees are put on a shelf, numbered from 0, at most 30");
        Consumer<Rankwise> almost = desk -> {
            Bench.put(desk, "x*1+0");
            Bench.fill(desk);
            desk.undo();
        };
        Consumer<Rankwise> full = desk -> {
            almost.accept(desk);
            Bench.put(desk, "y-0");
            Bench.type(desk, "1");
        };
        Consumer<Rankwise> typed = desk -> {
            almost.accept(desk);
            Bench.type(desk, "1");
        };
        Bench.due("the 30th, read", Bench.outcome(Bench.desk(typed), one -> one.read()), "29");
        Bench.due("the 30th, a part", Bench.outcome(Bench.desk(almost), one -> one.part(0, 0)), "29");
        Bench.due("the 30th, grafted", Bench.outcome(Bench.desk(almost), one -> one.graft(0, 'x', 0)), "29");
        Bench.due("the 30th, a step", Bench.outcome(Bench.desk(almost), one -> one.step(0)), "29");
        Bench.due("the 30th, made simpler", Bench.outcome(Bench.desk(almost), one -> one.simplify(0)), "29");
        Bench.due("the 30th, a derivative", Bench.outcome(Bench.desk(almost), one -> one.derive(0, 'x')), "29");
        Bench.due("30 trees", Bench.desk(full).trees(), 30);
        Bench.refused("the 31st, read", Bench.STATE, full, one -> one.read());
        Bench.refused("the 31st, a part", Bench.STATE, full, one -> one.part(0, 0));
        Bench.refused("the 31st, grafted", Bench.STATE, full, one -> one.graft(0, 'x', 0));
        Bench.refused("the 31st, grafted without the name", Bench.STATE, full, one -> one.graft(0, 'y', 0));
        Bench.refused("the 31st, a step", Bench.STATE, full, one -> one.step(0));
        Bench.refused("the 31st, a step where no rule fits", Bench.STATE, full, one -> one.step(1));
        Bench.refused("the 31st, made simpler", Bench.STATE, full, one -> one.simplify(0));
        Bench.refused("the 31st, made simpler where no rule fits", Bench.STATE, full, one -> one.simplify(1));
        Bench.refused("the 31st, a derivative", Bench.STATE, full, one -> one.derive(0, 'x'));
        Rankwise desk = Bench.desk(full);
        Bench.due("node of the last tree", desk.node(29, 0, 1), (int) '-');
        Bench.due("node of the one behind", Bench.outcome(desk, one -> one.node(30, 0, 1)), "throws." + Bench.INDEX);
    }

    private static void eightyNodes() {
        Bench.sentence("a tree has at most 80 nodes, numbered from 0");
        Consumer<Rankwise> eighty = desk -> {
            Bench.grow(desk, 80);
            Bench.put(desk, "-x");
        };
        Rankwise desk = Bench.desk(eighty);
        int tree = desk.trees() - 2;
        int more = desk.trees() - 1;
        Bench.due("nodes", Bench.nodes(desk, tree), 80);
        Bench.due("the last node", desk.node(tree, 79, 1), (int) 'x');
        Bench.due("where the last node is an operand", desk.node(tree, 79, 4), 78);
        Bench.due("the node behind it", Bench.outcome(desk, one -> one.node(tree, 80, 0)), "throws." + Bench.INDEX);
        Bench.due("print", Bench.show(desk, tree), "-".repeat(79) + "x");
        Bench.due("postfix", Bench.printed(desk, desk.postfix(tree)), "x" + " -'".repeat(79));
        Bench.due("part", Bench.nodes(desk, desk.part(tree, 0)), 80);
        Bench.due("the same", desk.isSame(tree, desk.trees() - 1), true);
        Bench.due("evaluate", desk.evaluate(tree), Rankwise.NO_VALUE);
        for (int part = 0; part < 4; part++) {
            Bench.due("audit " + part, desk.audit(part, tree), true);
        }
        Bench.due("derivative", Bench.nodes(desk, desk.derive(tree, 'x')), 80);
        Bench.due("simplified", Bench.nodes(desk, desk.simplify(tree)), 2);
        Bench.due("its last step", desk.trace(38, 0), 6);
        Bench.due("behind its last step", desk.trace(39, 0), Rankwise.NONE);
        Bench.refused("81 nodes", Bench.STATE, eighty, one -> one.graft(tree, 'x', more));
        Bench.refused("81 nodes, the other way", Bench.STATE, eighty, one -> one.graft(more, 'x', tree));
        Rankwise wide = new Rankwise();
        Bench.put(wide, "f(x,x,x,x)+f(x,x,x,x)");
        Bench.put(wide, "g(1,2,3,4)*0!");
        int grown = wide.graft(0, 'x', 1);
        Bench.due("a wide tree", Bench.nodes(wide, grown), 67);
        Bench.put(wide, "-(x+f(1,2,3,4)+f(1,2,3,4))");
        Bench.due("a wide tree of 80 nodes", Bench.nodes(wide, wide.graft(3, 'x', grown)), 80);
        Bench.due("its audit", wide.audit(0, wide.trees() - 1), true);
        Bench.put(wide, "--(x+f(1,2,3,4)+f(1,2,3,4))");
        Bench.due("a wide tree of 81", Bench.outcome(wide, one -> one.graft(5, 'x', grown)), "throws." + Bench.STATE);
    }

    private static void nodes() {
        Bench.sentence("0 its kind; 1 the number .. 5 how many nodes it has with all that are beneath it");
        Rankwise desk = new Rankwise();
        Bench.put(desk, "f(-2,x!)=999999999");
        int[][] rows = {{3, '=', 2, 2, -1, 7}, {2, 'f', -1, 2, 0, 5}, {3, '-', 0, 1, 1, 2}, {0, 2, -1, 0, 2, 1},
            {3, '!', 1, 1, 1, 2}, {1, 'x', -1, 0, 4, 1}, {0, 999999999, -1, 0, 0, 1}};
        for (int node = 0; node < rows.length; node++) {
            for (int what = 0; what < 6; what++) {
                Bench.due("node " + node + ", " + what, desk.node(0, node, what), rows[node][what]);
            }
        }
        Bench.put(desk, "0");
        Bench.put(desk, "f(1,2,3,4)");
        Bench.due("number 0", desk.node(1, 0, 1), 0);
        Bench.due("four arguments", desk.node(2, 0, 3), 4);
        Bench.due("the last argument's place", desk.node(2, 4, 4), 0);

        Bench.sentence("Throws IndexOutOfBoundsException if there is no such tree or node; IllegalArgumentException if what is not 0 to 5");
        Consumer<Rankwise> one = ready -> Bench.put(ready, "1+x");
        int[][] none = {{1, 0, 0}, {-1, 0, 0}, {MOST, 0, 0}, {LEAST, 0, 0}, {0, 3, 0}, {0, -1, 0}, {0, MOST, 0}, {0,
            LEAST, 0},
            {1, 0, 6}, {0, 3, 6}, {0, -1, -1}, {30, 0, 0}, {0, 80, 0}};
        for (int[] n : none) {
            Bench.refused("node " + n[0] + " " + n[1] + " " + n[2], Bench.INDEX, one, ready -> ready.node(n[0], n[1],
                n[2]));
        }
        for (int what : new int[] {6, -1, MOST, LEAST}) {
            Bench.refused("node 0 0 " + what, Bench.ARGUMENT, one, ready -> ready.node(0, 0, what));
        }
    }

    private static void same() {
        Bench.sentence("Two trees are the same if they have the same nodes.");
        String[] pairs = {"1", "0x1", "y", "1", "01", "y", "x", "y", "n", "x", "f(x)", "n", "f(x)", "g(x)", "n",
            "f(1,2)", "f(1)", "n",
            "f(g(1),2)", "f(g(1,2))", "n", "-x", "~x", "n", "-x", "x!", "n", "a+b", "b+a", "n", "a+b+c", "a+(b+c)", "n",
            "a+b*c", "(a+(b*c))", "y",
            "1", "x", "n", "x", "(x)", "y", "1+2", "1+3", "n", "7", "6", "n", "a-b", "a+b", "n", "f(a,b)", "f(b,a)",
            "n", "--x", "-x", "n"};
        for (int k = 0; k < pairs.length; k += 3) {
            Rankwise desk = new Rankwise();
            Bench.put(desk, pairs[k]);
            Bench.put(desk, pairs[k + 1]);
            Bench.due(pairs[k] + " and " + pairs[k + 1], desk.isSame(0, 1), pairs[k + 2].equals("y"));
            Bench.due(pairs[k + 1] + " and " + pairs[k], desk.isSame(1, 0), pairs[k + 2].equals("y"));
            Bench.due(pairs[k] + " and itself", desk.isSame(0, 0), true);
        }
        Rankwise desk = new Rankwise();
        desk.tell('#', Rankwise.BEFORE, 6, Rankwise.LEFT, Rankwise.NEGATE);
        Bench.put(desk, "#x");
        desk.tell('#', Rankwise.BEHIND, 6, Rankwise.LEFT, Rankwise.NEGATE);
        Bench.put(desk, "x#");
        Bench.put(desk, "-x");
        Bench.due("another fix", desk.isSame(0, 1), false);
        Bench.due("another sign with the same meaning", desk.isSame(0, 2), false);
        Consumer<Rankwise> two = ready -> {
            Bench.put(ready, "1");
            Bench.put(ready, "2");
        };
        int[][] none = {{0, 2}, {2, 0}, {-1, 0}, {0, -1}, {MOST, 0}, {0, LEAST}, {2, 2}};
        for (int[] n : none) {
            Bench.refused("isSame " + n[0] + " " + n[1], Bench.INDEX, two, ready -> ready.isSame(n[0], n[1]));
        }
    }

    private static void parts() {
        Bench.sentence("Puts a tree on the shelf that is a node of a tree with all beneath it.");
        Rankwise desk = new Rankwise();
        Bench.put(desk, "f(1,a*b)-c!");
        String[] parts = {"(f(1,(a*b))-(c!))", "f(1,(a*b))", "1", "(a*b)", "a", "b", "(c!)", "c"};
        for (int node = 0; node < parts.length; node++) {
            Bench.due("part " + node, desk.part(0, node), node + 1);
            Bench.due("it", Bench.shape(desk, node + 1), parts[node]);
            Bench.due("its first node is none's", desk.node(node + 1, 0, 4), Rankwise.NONE);
        }
        Consumer<Rankwise> one = ready -> Bench.put(ready, "a+b");
        int[][] none = {{1, 0}, {-1, 0}, {0, 3}, {0, -1}, {0, MOST}, {LEAST, 0}};
        for (int[] n : none) {
            Bench.refused("part " + n[0] + " " + n[1], Bench.INDEX, one, ready -> ready.part(n[0], n[1]));
        }
        Bench.refused("part on a full shelf without the node", Bench.INDEX, Bench::fill, ready -> ready.part(0, 1));
    }

    private static void grafts() {
        Bench.sentence("another tree stands in place of each NAME node of a name");
        String[] rows = {"x", "x", "1+y", "(1+y)", "x+x*y", "x", "z", "(z+(z*y))", "y", "x", "z", "y", "x(x)", "x", "2",
            "x(2)",
            "x+1", "x", "x+x", "((x+x)+1)", "-x!", "x", "a-b", "(-((a-b)!))", "f(x,y,x)", "x", "y", "f(y,y,y)", "7",
            "x", "1", "7",
            "a+z", "a", "z", "(z+z)", "a+z", "z", "a", "(a+a)"};
        for (int k = 0; k < rows.length; k += 4) {
            Rankwise desk = new Rankwise();
            Bench.put(desk, rows[k]);
            Bench.put(desk, rows[k + 2]);
            char name = rows[k + 1].charAt(0);
            Bench.due("graft", desk.graft(0, name, 1), 2);
            Bench.due(rows[k] + " with " + name + " being " + rows[k + 2], Bench.shape(desk, 2), rows[k + 3]);
            Bench.due("what it was", Bench.shape(desk, 1).isEmpty(), false);
        }

        Bench.sentence("but for the first arguments of calls of s (with however many arguments)");
        String[] sums = {"s(x)", "s(x)", "s(x,x)", "s(x,1)", "s(x,x,x)", "s(x,1,1)", "s(x,x,x,x)", "s(x,1,1,1)",
            "f(x,s(x,2),x)", "f(1,s(x,2),1)",
            "i(x,x,x)", "i(1,1,1)", "s", "s", "s+x", "(s+1)", "s(y,x,x,s(x,x,y,x))", "s(y,1,1,s(x,1,y,1))", "s(s(x),x)",
            "s(s(x),1)"};
        for (int k = 0; k < sums.length; k += 2) {
            Rankwise desk = new Rankwise();
            Bench.put(desk, sums[k]);
            Bench.put(desk, "1");
            Bench.due("graft into " + sums[k], Bench.shape(desk, desk.graft(0, 'x', 1)), sums[k + 1]);
        }
        Rankwise named = new Rankwise();
        Bench.put(named, "s(s,1,2,s)");
        Bench.put(named, "7");
        Bench.due("a name that is s", Bench.shape(named, named.graft(0, 's', 1)), "s(s,1,2,7)");

        Bench.sentence("Throws .. if there is no such tree .. if the name is out of its range .. if the shelf is full, or it would have more than 80 nodes");
        Consumer<Rankwise> one = ready -> Bench.put(ready, "x");
        Bench.refused("graft into none", Bench.INDEX, one, ready -> ready.graft(1, 'x', 0));
        Bench.refused("graft of none", Bench.INDEX, one, ready -> ready.graft(0, 'x', 1));
        Bench.refused("graft into -1", Bench.INDEX, one, ready -> ready.graft(-1, 'x', 0));
        Bench.refused("graft of -1", Bench.INDEX, one, ready -> ready.graft(0, 'x', -1));
        Bench.refused("graft of none for no name", Bench.INDEX, one, ready -> ready.graft(0, 'X', 1));
        for (char name : new char[] {'`', '{', 'X', ' ', 0, 65535, 'x' + 256}) {
            Bench.refused("graft for " + (int) name, Bench.ARGUMENT, one, ready -> ready.graft(0, name, 0));
            Bench.refused("graft for " + (int) name + " on a full shelf", Bench.ARGUMENT, Bench::fill,
                ready -> ready.graft(0, name, 0));
        }
        Bench.refused("graft of none on a full shelf", Bench.INDEX, Bench::fill, ready -> ready.graft(0, 'x', 30));
    }

    private static void keptSigns() {
        Bench.sentence("A tree keeps signs and fixes of its operators, so what is told of an operator later holds for it, too.");
        Rankwise desk = new Rankwise();
        Bench.put(desk, "(6+2)*3");
        Bench.due("print", Bench.show(desk, 0), "(6+2)*3");
        desk.tell('+', Rankwise.BETWEEN, 6, Rankwise.LEFT, Rankwise.SUBTRACT);
        Bench.due("print with another rank", Bench.show(desk, 0), "6+2*3");
        desk.evaluate(0);
        Bench.due("value with another meaning", Bench.answer(desk), "12");
        desk.tell('+', Rankwise.BETWEEN, 8, Rankwise.RIGHT, Rankwise.LESS);
        desk.evaluate(0);
        Bench.due("value with one more", Bench.answer(desk), "0");
        desk.undo();
        desk.undo();
        desk.evaluate(0);
        Bench.due("value as told at first", Bench.answer(desk), "24");
        Bench.due("print as told at first", Bench.show(desk, 0), "(6+2)*3");
    }

    private static void toldRanges() {
        Bench.sentence("It is told with a rank, 1 to 9, a meaning, and, if it is BETWEEN, a side");
        int[][] wrongs = {{'@', 3, 1, 0, 0}, {'@', -1, 1, 0, 0}, {'@', MOST, 1, 0, 0}, {'@', LEAST, 1, 0, 0},
            {'@', 0, 0, 0, 11}, {'@', 1, 0, 0, 11}, {'@', 2, 0, 0, 0}, {'@', 0, 10, 0, 11}, {'@', 1, 10, 0, 11}, {'@',
            2, 10, 0, 0},
            {'@', 0, -1, 0, 11}, {'@', 2, MOST, 0, 0}, {'@', 2, LEAST, 0, 0}, {'@', 2, 6, 3, 0}, {'@', 2, 6, -1, 0},
            {'@', 2, 6, MOST, 0}, {'@', 0, 6, 1, 11}, {'@', 0, 6, 2, 11}, {'@', 1, 6, 1, 11}, {'@', 1, 6, 2, 11}, {'@',
            0, 6, -1, 11},
            {'@', 0, 6, 0, 10}, {'@', 0, 6, 0, 14}, {'@', 1, 6, 0, 10}, {'@', 1, 6, 0, 14}, {'@', 2, 6, 0, 11}, {'@', 2,
            6, 0, -1},
            {'@', 0, 6, 0, 0}, {'@', 2, 6, 0, 14}, {'@', 2, 6, 0, 13}, {'@', 2, 6, 0, 99}, {'@', 0, 6, 0, 99}, {'@', 2,
            6, 0, 126},
            {'@', 1, 6, 0, 126}, {'@', 0, 6, 0, 108}, {'@', 1, 6, 0, 118}, {'@', 2, 6, 0, 108}, {'@', 2, 6, 0, 118},
            {'@', 2, 6, 0, MOST}, {'@', 2, 6, 0, LEAST}, {'a', 2, 6, 0, 0}, {' ', 0, 6, 0, 11}, {'(', 0, 6, 0, 11},
            {',', 0, 6, 0, 11}};
        for (int[] w : wrongs) {
            String what = "tell " + (char) w[0] + " " + w[1] + " " + w[2] + " " + w[3] + " " + w[4];
            Bench.refused(what, Bench.ARGUMENT, one -> { }, one -> one.tell((char) w[0], w[1], w[2], w[3], w[4]));
        }
        Bench.refused("a sign that is BEHIND, with a wrong rank", Bench.ARGUMENT, one -> { }, one -> one.tell('!', 2,
            10, 0, 0));
        Bench.refused("another side of a rank, with a wrong meaning", Bench.ARGUMENT, one -> { }, one -> one.tell('@',
            2, 7, 0, 11));
        for (int fix = 0; fix < 3; fix++) {
            for (int meaning = -1; meaning <= 130; meaning++) {
                boolean function = meaning >= 100 && meaning <= 125 && meaning != 108 && meaning != 118;
                boolean fits = function || (fix == 2 ? meaning >= 0 && meaning <= 10 : meaning >= 11 && meaning <= 13);
                int told = meaning;
                int where = fix;
                Rankwise desk = new Rankwise();
                Bench.due("tell " + fix + " meaning " + meaning, Bench.outcome(desk, one -> one.tell('@', where, 6, 0,
                    told)),
                    fits ? "0" : "throws." + Bench.ARGUMENT);
                Bench.due("told then", desk.told('@', fix, 2), fits ? meaning : -1);
            }
            for (int rank = 1; rank <= 9; rank++) {
                int side = fix == 2 ? new int[] {0, 0, 0, 2, 0, 0, 0, 1, 0, 0}[rank] : 0;
                Rankwise desk = new Rankwise();
                Bench.due("tell", desk.tell('@', fix, rank, side, fix == 2 ? 0 : 11), 0);
                Bench.due("its rank", desk.told('@', fix, 0), rank);
                Bench.due("its side", desk.told('@', fix, 1), side);
                Bench.due("its rank before", desk.tell('@', fix, 6, 0, fix == 2 ? 0 : 11), rank);
            }
        }
    }

    private static void toldSigns() {
        Bench.sentence("A sign is one of the 16 characters + - * / % ^ ! & | < > = ~ @ # ?");
        Rankwise desk = new Rankwise();
        for (int c = 0; c < 65536; c++) {
            if (c % 100 == 0) {
                desk = new Rankwise();
            }
            char sign = (char) c;
            boolean one = Bench.SIGNS.indexOf(sign) >= 0;
            int before = sign == '-' || sign == '~' ? 6 : -1;
            Bench.due("told " + c, desk.told(sign, Rankwise.BEFORE, 0), before);
            Bench.due("tell " + c, Bench.outcome(desk, ready -> ready.tell(sign, Rankwise.BEFORE, 9, Rankwise.LEFT,
                Rankwise.NOT)),
                one ? "" + Math.max(before, 0) : "throws." + Bench.ARGUMENT);
            Bench.due("told then " + c, desk.told(sign, Rankwise.BEFORE, 0), one ? 9 : -1);
        }
    }

    private static void fixes() {
        Bench.sentence("No sign is told both BEHIND and BETWEEN");
        for (char sign : Bench.SIGNS.toCharArray()) {
            Rankwise fresh = new Rankwise();
            boolean between = fresh.told(sign, Rankwise.BETWEEN, 0) != Rankwise.NONE;
            boolean behind = fresh.told(sign, Rankwise.BEHIND, 0) != Rankwise.NONE;
            if (between) {
                Bench.refused(sign + " BEHIND", Bench.STATE, one -> { }, one -> one.tell(sign, Rankwise.BEHIND, 6, 0,
                    Rankwise.NOT));
            } else {
                Bench.due(sign + " BEHIND", fresh.tell(sign, Rankwise.BEHIND, 6, 0, Rankwise.NOT), behind ? 8 : 0);
                Bench.refused(sign + " BETWEEN, too", Bench.STATE, one -> one.tell(sign, Rankwise.BEHIND, 6, 0,
                    Rankwise.NOT),
                    one -> one.tell(sign, Rankwise.BETWEEN, 6, 0, Rankwise.ADD));
                fresh.undo();
                if (!behind) {
                    Bench.due(sign + " BETWEEN", fresh.tell(sign, Rankwise.BETWEEN, 6, 0, Rankwise.ADD), 0);
                    Bench.due(sign + " BEHIND, too", Bench.outcome(fresh, one -> one.tell(sign, Rankwise.BEHIND, 6, 0,
                        Rankwise.NOT)),
                        "throws." + Bench.STATE);
                }
            }
            Bench.due(sign + " BEFORE", new Rankwise().tell(sign, Rankwise.BEFORE, 6, 0, Rankwise.NOT),
                sign == '-' || sign == '~' ? 6 : 0);
        }
    }

    private static void oneSide() {
        Bench.sentence("all that are BETWEEN with one rank have one side");
        int[] sides = {-1, 0, 0, 2, 0, 0, -1, 1, -1, -1};
        for (int rank = 1; rank <= 9; rank++) {
            for (int side = 0; side < 3; side++) {
                int at = rank;
                int to = side;
                boolean fits = sides[rank] < 0 || sides[rank] == side;
                if (fits) {
                    Bench.due("rank " + rank + " side " + side, new Rankwise().tell('@', 2, rank, side, 0), 0);
                } else {
                    Bench.refused("rank " + rank + " side " + side, Bench.STATE, one -> { }, one -> one.tell('@', 2, at,
                        to, 0));
                }
            }
        }
        Rankwise desk = new Rankwise();
        Bench.due("^ alone with its rank, another side", desk.tell('^', 2, 7, Rankwise.LEFT, Rankwise.POWER), 7);
        Bench.due("one more with that side", desk.tell('@', 2, 7, Rankwise.LEFT, Rankwise.ADD), 0);
        Bench.due("no longer alone", Bench.outcome(desk, one -> one.tell('^', 2, 7, Rankwise.RIGHT, Rankwise.POWER)),
            "throws." + Bench.STATE);
        Bench.due("with another rank", desk.tell('@', 2, 9, Rankwise.LEFT, Rankwise.ADD), 7);
        Bench.due("alone again", desk.tell('^', 2, 7, Rankwise.RIGHT, Rankwise.POWER), 7);
        Bench.due("the others' rank, with their side", desk.tell('^', 2, 3, Rankwise.NEITHER, Rankwise.POWER), 7);
        Bench.due("BEFORE has no side", desk.tell('^', 0, 3, Rankwise.LEFT, Rankwise.NOT), 0);
        Bench.due("BEHIND has none", desk.tell('#', 1, 3, Rankwise.LEFT, Rankwise.NOT), 0);
        Bench.due("what is gone by undo is none", desk.undo() + desk.undo() + desk.undo(), 3 * Rankwise.TABLE);
        Bench.due("its side then", desk.told('^', 2, 1), Rankwise.RIGHT);
        Rankwise others = new Rankwise();
        others.tell('#', Rankwise.BEHIND, 6, Rankwise.LEFT, Rankwise.NOT);
        others.tell('?', Rankwise.BEFORE, 6, Rankwise.LEFT, Rankwise.NOT);
        others.tell('~', Rankwise.BEHIND, 6, Rankwise.LEFT, Rankwise.NOT);
        others.tell('~', Rankwise.BEFORE, 9, Rankwise.LEFT, Rankwise.NOT);
        Bench.due("a rank that one BEHIND has", others.tell('@', 2, 6, Rankwise.RIGHT, Rankwise.ADD), 0);
        Bench.due("a rank that one BEFORE has", others.tell('?', 2, 9, Rankwise.NEITHER, Rankwise.ADD), 0);
        Rankwise last = new Rankwise();
        Bench.due("the least sign", last.tell('!', 0, 9, 0, 11), 0);
        last.tell('~', 2, 9, Rankwise.RIGHT, Rankwise.ADD);
        Bench.refused("against the greatest sign", Bench.STATE, one -> one.tell('~', 2, 9, Rankwise.RIGHT,
            Rankwise.ADD),
            one -> one.tell('#', 2, 9, Rankwise.LEFT, Rankwise.ADD));
        Bench.refused("against the least sign that can be BETWEEN", Bench.STATE, one -> one.tell('#', 2, 9,
            Rankwise.RIGHT, Rankwise.ADD),
            one -> one.tell('~', 2, 9, Rankwise.LEFT, Rankwise.ADD));
    }

    private static void ranksBefore() {
        Bench.sentence("Returns its rank before; 0, if it was none.");
        Rankwise desk = new Rankwise();
        Bench.due("none", desk.tell('@', 2, 1, 0, 0), 0);
        Bench.due("1", desk.tell('@', 2, 9, 0, 0), 1);
        Bench.due("9", desk.tell('@', 2, 6, 0, 0), 9);
        Bench.due("the same", desk.tell('@', 2, 6, 0, 0), 6);
        Bench.due("another fix", desk.tell('@', 0, 6, 0, 11), 0);
        Bench.due("- BEFORE", desk.tell('-', 0, 1, 0, 11), 6);
        Bench.due("- BETWEEN", desk.told('-', 2, 0), 4);
        desk.undo();
        desk.undo();
        Bench.due("as none again", desk.tell('@', 0, 6, 0, 11), 0);
    }

    private static void told() {
        Bench.sentence("Returns as told; NONE, if there is no such operator.");
        Rankwise desk = new Rankwise();
        desk.tell('@', Rankwise.BEHIND, 9, Rankwise.LEFT, 125);
        Bench.due("rank", desk.told('@', 1, 0), 9);
        Bench.due("side", desk.told('@', 1, 1), 0);
        Bench.due("meaning", desk.told('@', 1, 2), 125);
        for (int what = 0; what < 3; what++) {
            for (char none : new char[] {'#', 'a', ' ', 0, 65535, '+' + 256}) {
                Bench.due("told of none", desk.told(none, 2, what), Rankwise.NONE);
            }
            Bench.due("told of another fix", desk.told('@', 0, what), Rankwise.NONE);
            Bench.due("told of another fix", desk.told('^', 0, what), Rankwise.NONE);
            Bench.due("told of another fix", desk.told('!', 2, what), Rankwise.NONE);
        }

        for (char sign : Bench.SIGNS.toCharArray()) {
            for (int fix = 0; fix < 3; fix++) {
                Rankwise one = new Rankwise();
                int where = fix;
                String got = Bench.outcome(one, ready -> ready.tell(sign, where, 6, Rankwise.LEFT,
                    Rankwise.FUNCTION + 3));
                if (!got.startsWith("throws")) {
                    Bench.due("rank of " + sign + fix, one.told(sign, fix, 0), 6);
                    Bench.due("side of " + sign + fix, one.told(sign, fix, 1), 0);
                    Bench.due("meaning of " + sign + fix, one.told(sign, fix, 2), 103);
                }
            }
        }

        Bench.sentence("Throws IllegalArgumentException if the fix is none of those, or what is not 0 to 2");
        int[][] wrongs = {{3, 0}, {-1, 0}, {MOST, 0}, {LEAST, 0}, {2, 3}, {2, -1}, {2, MOST}, {0, LEAST}, {3, 3}};
        for (int[] w : wrongs) {
            Bench.refused("told + " + w[0] + " " + w[1], Bench.ARGUMENT, one -> { }, one -> one.told('+', w[0], w[1]));
            Bench.refused("told a " + w[0] + " " + w[1], Bench.ARGUMENT, one -> { }, one -> one.told('a', w[0], w[1]));
        }
    }

    private static void shown(Rankwise desk, String... textsAndPrints) {
        for (int k = 0; k < textsAndPrints.length; k += 2) {
            int tree = Bench.put(desk, textsAndPrints[k]);
            Bench.due("length of " + textsAndPrints[k], desk.print(tree), textsAndPrints[k + 1].length());
            Bench.due("print of " + textsAndPrints[k], Bench.show(desk, tree), textsAndPrints[k + 1]);
            Bench.due("audit of " + textsAndPrints[k], desk.audit(0, tree), true);
            desk.undo();
        }
    }

    private static void printed() {
        Bench.sentence("A tree is printed without blanks, numbers with base 10");
        Rankwise desk = new Rankwise();
        shown(desk, " 1 + x ", "1+x", "0xff", "255", "0", "0", "000", "0", "0b1010+0o10", "10+8", "999999999",
            "999999999",
            "f( x , 0x10 )", "f(x,16)", "100000000", "100000000", "1000000", "1000000", "0xfffffff", "268435455", "10",
            "10", "9", "9");
    }

    private static void fewestBrackets() {
        Bench.sentence("each operand of an operator that is itself an operator gets brackets; then each pair of these, by rising places of its opening one, is left out, if the text without it has the same tree");
        Rankwise desk = new Rankwise();
        shown(desk, "(a+b)+c", "a+b+c", "a+(b+c)", "a+(b+c)", "(a^b)^c", "(a^b)^c", "a^(b^c)", "a^b^c", "(a<b)<c",
            "(a<b)<c",
            "a<(b<c)", "a<(b<c)", "(a<b)&c", "a<b&c", "-(-a)", "--a", "(-a)!", "(-a)!", "-(a!)", "-a!", "(-a)*b",
            "-a*b", "-(a*b)", "-(a*b)",
            "a*(-b)", "a*-b", "a^(-b)", "a^-b", "(-a)^b", "(-a)^b", "-(a^b)", "-a^b", "(a!)!", "a!!", "(a^b)!",
            "(a^b)!", "a^(b!)", "a^b!",
            "f((a+b))", "f(a+b)", "f(a)!", "f(a)!", "(f(a))^2", "f(a)^2", "(a+b)*(c+d)", "(a+b)*(c+d)", "(a*b)+(c*d)",
            "a*b+c*d",
            "((a-b)-c)-(d-e)", "a-b-c-(d-e)", "a^((-b)^c)", "a^(-b)^c", "a^(-(b^c))", "a^-b^c");
        desk.tell('@', Rankwise.BEFORE, 2, Rankwise.LEFT, Rankwise.NOT);
        shown(desk, "(a+(@b))+c", "a+(@b)+c", "a+(@(b+c))", "a+@b+c", "(@b)+c", "(@b)+c", "@(b+c)", "@b+c", "a+(@b)",
            "a+@b",
            "(a+(@b))&c", "a+@b&c", "(a*(@b))+c", "a*(@b)+c", "a<(@(b<c))", "a<@b<c", "(a<(@b))<c", "(a<@b)<c",
            "(@a)&b", "@a&b",
            "@(a&b)", "@(a&b)", "(-(@a))+b", "-(@a)+b", "(a*(-(@b)))+c", "a*-(@b)+c", "f(a+(@b),c)", "f(a+@b,c)");
        desk.tell('#', Rankwise.BEHIND, 5, Rankwise.LEFT, Rankwise.NOT);
        shown(desk, "(a*b)#", "a*b#", "a*(b#)", "a*(b#)", "(a+b)#", "(a+b)#", "a+(b#)", "a+b#", "(-a)#", "-a#", "-(a#)",
            "-(a#)",
            "(a#)!", "a#!", "(a!)#", "a!#", "(a#)^b", "a#^b", "a^(b#)", "a^(b#)", "(@a)#", "(@a)#", "@(a#)", "@a#");
        desk.tell('#', Rankwise.BEHIND, 2, Rankwise.LEFT, Rankwise.NOT);
        shown(desk, "(a<b)#<c", "a<b#<c", "(a<(b#))<c", "(a<(b#))<c", "a<(b#)", "a<(b#)");

        Bench.sentence("in place of what was printed before .. Throws IndexOutOfBoundsException if there is no such tree");
        Rankwise again = new Rankwise();
        Bench.put(again, "x+10");
        Bench.put(again, "7");
        Bench.due("print", again.print(0), 4);
        Bench.due("print of a shorter one", again.print(1), 1);
        Bench.due("nothing is left behind it", Bench.outcome(again, one -> one.out(1)), "throws." + Bench.INDEX);
        Consumer<Rankwise> one = ready -> {
            Bench.put(ready, "x+1");
            ready.print(0);
        };
        for (int tree : new int[] {1, -1, 30, MOST, LEAST}) {
            Bench.refused("print " + tree, Bench.INDEX, one, ready -> ready.print(tree));
            Bench.refused("postfix " + tree, Bench.INDEX, one, ready -> ready.postfix(tree));
        }
    }

    private static void postfix() {
        Bench.sentence("each operand's words, from the left, then the word of the operator; all words parted by one blank");
        Rankwise desk = new Rankwise();
        desk.tell('-', Rankwise.BEFORE, 6, Rankwise.LEFT, Rankwise.NEGATE);
        desk.tell('!', Rankwise.BEFORE, 6, Rankwise.LEFT, Rankwise.NEGATE);
        String[] rows = {"1", "1", "x", "x", "0x10", "16", "-x", "x -'", "a-b", "a b -", "a--b", "a b -' -", "x!",
            "x !", "!x", "x !'", "!x!", "x ! !'",
            "f(1)", "1 f1", "f(1,2,3,4)", "1 2 3 4 f4", "(a+b)*(c-d)", "a b + c d - *", "f(g(x),2)", "x g1 2 f2", "i+s",
            "i s +", "999999999", "999999999"};
        for (int k = 0; k < rows.length; k += 2) {
            int tree = Bench.put(desk, rows[k]);
            int length = desk.postfix(tree);
            Bench.due("length", length, rows[k + 1].length());
            Bench.due("postfix of " + rows[k], Bench.printed(desk, length), rows[k + 1]);
            desk.undo();
        }
    }

    private static void noPostfix() {
        Bench.sentence("There is none of a tree with a call of i or s. Throws IllegalStateException if it has a call of i or s");
        String[] texts = {"i(1,2,3)", "s(k,1,2,k)", "i(1)", "s(1)", "i(1,2,3,4)", "s(1,2)", "1+f(-i(1,2,3))",
            "f(1,s(k,1,2,k))"};
        for (String text : texts) {
            Consumer<Rankwise> ready = desk -> {
                Bench.put(desk, text);
                desk.print(0);
            };
            Bench.refused("postfix of " + text, Bench.STATE, ready, desk -> desk.postfix(0));
            Bench.refused("reckon of " + text, Bench.STATE, ready, desk -> desk.reckon(0));
        }
    }

    private static void out() {
        Bench.sentence("Tells a character of what was printed. .. Throws IndexOutOfBoundsException if there is no such place");
        Consumer<Rankwise> printed = desk -> {
            Bench.put(desk, "x+10");
            desk.print(0);
        };
        Rankwise desk = Bench.desk(printed);
        Bench.due("the first one", desk.out(0), (int) 'x');
        Bench.due("the last one", desk.out(3), (int) '0');
        for (int place : new int[] {4, -1, MOST, LEAST, 1000}) {
            Bench.refused("out " + place, Bench.INDEX, printed, one -> one.out(place));
        }
        Bench.refused("out of nothing", Bench.INDEX, one -> { }, one -> one.out(0));
        desk.postfix(0);
        Bench.due("of postfix", desk.out(5), (int) '+');
        desk.answer(0, 10);
        Bench.due("of the answer", desk.out(0), (int) '0');
        Bench.due("behind the answer", Bench.outcome(desk, one -> one.out(1)), "throws." + Bench.INDEX);
    }
}
