/** One method for each promise of the document: ordinary inputs, the edges that it names, and wrong inputs. */
public final class PromisesTest {
    private static int checks;
    private static int wrong;
    private static int promise;

    private interface Call {
        Object make();
    }

    public static void main(String[] args) {
        Runnable[] promises = {
            PromisesTest::newObject, PromisesTest::type, PromisesTest::drop, PromisesTest::fault, PromisesTest::read,
            PromisesTest::trees, PromisesTest::node, PromisesTest::isSame, PromisesTest::part, PromisesTest::graft,
            PromisesTest::tell, PromisesTest::told, PromisesTest::print, PromisesTest::postfix, PromisesTest::out,
            PromisesTest::evaluate, PromisesTest::reckon, PromisesTest::answer, PromisesTest::let, PromisesTest::unlet,
            PromisesTest::recall, PromisesTest::define, PromisesTest::addCase, PromisesTest::step,
            PromisesTest::simplify, PromisesTest::trace, PromisesTest::gather, PromisesTest::coefficient,
            PromisesTest::derive, PromisesTest::slope, PromisesTest::solve, PromisesTest::undo, PromisesTest::audit,
        };
        for (Runnable one : promises) {
            promise++;
            one.run();
        }
        System.out.println(checks + " checks of " + promises.length + " promises, " + wrong + " wrong");
        if (wrong > 0) {
            System.exit(1);
        }
    }

    private static void due(String what, Object got, Object want) {
        checks++;
        if (!got.equals(want)) {
            wrong++;
            System.out.println("promise " + promise + ": " + what + " answered " + got + ", due is " + want);
        }
    }

    private static void thrown(String what, String exception, Call call) {
        String got;
        try {
            got = "nothing, but answered " + call.make();
        } catch (RuntimeException e) {
            got = e.getClass().getSimpleName();
        }
        due(what + " throws", got, exception);
    }

    /** What a text is printed as, once read. */
    private static void reprinted(Rankwise desk, String text, String want) {
        int tree = Bench.put(desk, text);
        due("print of " + text, Bench.show(desk, tree), want);
        due("audit of the print of " + text, desk.audit(0, tree), true);
        desk.undo();
    }

    private static void newObject() {
        Rankwise desk = new Rankwise();
        due("drop()", desk.drop(), 0);
        due("trees()", desk.trees(), 0);
        due("undo()", desk.undo(), -1);
        thrown("out(0)", Bench.INDEX, () -> desk.out(0));
        due("trace(0, 0)", desk.trace(0, 0), -1);
        due("answer", Bench.answer(desk), "0");
        due("coefficient(0)", desk.coefficient(0), false);
        for (char name = 'a'; name <= 'z'; name++) {
            due("recall " + name, desk.recall(name), false);
        }
        String told = "";
        for (char sign : Bench.SIGNS.toCharArray()) {
            for (int fix = 0; fix < 3; fix++) {
                if (desk.told(sign, fix, 0) != -1) {
                    told += sign + "" + fix + desk.told(sign, fix, 0) + desk.told(sign, fix, 1) + desk.told(sign, fix, 2) + " ";
                }
            }
        }
        due("the table", told, "+2400 -06011 -2401 *2502 /2503 %2504 ^2715 !18013 &2209 |21010 <2326 >2328 =2327 ~06012 ");
        due("define f", desk.define('f', 1), -1);
    }

    private static void type() {
        Rankwise desk = new Rankwise();
        for (int k = 1; k <= 60; k++) {
            due("type", desk.type((char) (k * 1000)), k);
        }
        thrown("type of a 61st", Bench.STATE, () -> desk.type('1'));
        due("drop()", desk.drop(), 60);
        due("type", desk.type('1'), 1);
    }

    private static void drop() {
        Rankwise desk = new Rankwise();
        Bench.type(desk, "1+");
        due("drop()", desk.drop(), 2);
        due("drop()", desk.drop(), 0);
        Bench.type(desk, "2");
        due("the tree", Bench.show(desk, desk.read()), "2");
    }

    private static void fault() {
        Rankwise desk = new Rankwise();
        String[] texts = {"1", " 1 ", "x", "(1)", "f(1,2,3,4)", "f ( x )", "~-1!", "1!!", "1-~2", "123456789", "0", "00",
            "0xabcdef0", "0o7654321", "0b1010101", "1<(2<3)", "(1<2)<3", "1^-2!^3", "i(1)", "s(1,2)", "0x1fg"};
        for (int k = 0; k < texts.length - 1; k++) {
            due("fault of " + texts[k], Bench.fault(desk, texts[k]), -1);
        }
        due("fault of 0x1fg", Bench.fault(desk, "0x1fg"), 4);
        String[] halves = {"", " ", "1+", "(", "(1", "f(", "f(1", "f(1,", "f(1,2,3,4", "0x", "1+0b", "-", "((1)"};
        for (String half : halves) {
            due("fault of " + half, Bench.fault(desk, half), half.length());
        }
        String[] wrongs = {"1234567890", "9", "0x12345678", "9", "0b12", "3", "0o8", "2", "0xg", "2", "0x 1", "2", "5 0x", "2",
            "10x1", "2", "1 2", "2", "ab", "1", "1(", "1", "()", "1", "f()", "2", "f(1,2,3,4,", "9", "(1,", "2", ",", "0",
            ")", "0", "1)", "1", "+1", "0", "1+*2", "2", "!1", "0", "1~2", "1", "1<2=3", "3", "1<2+3>4", "5", "1\t", "1",
            "A", "0", "1@", "1", "@1", "0", "(f)(1)", "3", "f((1,2", "4", "1<2\u0101", "3", "\u012b1", "0"};
        for (int k = 0; k < wrongs.length; k += 2) {
            due("fault of " + wrongs[k], Bench.fault(desk, wrongs[k]), Integer.parseInt(wrongs[k + 1]));
        }
        due("tell", desk.tell('@', 0, 2, 0, 12), 0);
        due("fault of a<@1<2", Bench.fault(desk, "a<@1<2"), -1);
        due("fault of a<@1<2<3", Bench.fault(desk, "a<@1<2<3"), 6);
        due("tell", desk.tell('#', 1, 2, 0, 13), 0);
        due("fault of 1<2#<3", Bench.fault(desk, "1<2#<3"), -1);
        due("fault stays", Bench.fault(desk, "#1"), 0);
    }

    private static void read() {
        Rankwise desk = new Rankwise();
        thrown("read of nothing", Bench.STATE, desk::read);
        Bench.type(desk, "1+");
        thrown("read of a half", Bench.STATE, desk::read);
        due("it stays typed", desk.drop(), 2);
        for (int k = 0; k < 30; k++) {
            due("read", Bench.put(desk, "x+" + k), k);
            due("nothing is typed", desk.drop(), 0);
        }
        Bench.type(desk, "1");
        thrown("read on a full shelf", Bench.STATE, desk::read);
        due("it stays typed", desk.drop(), 1);
        Rankwise other = new Rankwise();
        due("numbers", Bench.show(other, Bench.put(other, "0x1F".toLowerCase() + "+0o17+0b11+007+999999999")), "31+15+3+7+999999999");
        due("ranks", Bench.show(other, Bench.put(other, "(1+(2*3))-(4^(5^6))")), "1+2*3-4^5^6");
        due("sides", Bench.show(other, Bench.put(other, "(1-(2-3))-((4^5)^6)")), "1-(2-3)-(4^5)^6");
        due("negation", other.node(Bench.put(other, "-2^2"), 0, 1), (int) '-');
        due("negation", other.node(Bench.put(other, "-2*2"), 0, 1), (int) '*');
        due("power", Bench.show(other, Bench.put(other, "a^-b*c")), "a^-b*c");
        due("power", other.node(5, 0, 1), (int) '*');
    }

    private static void trees() {
        Rankwise desk = new Rankwise();
        due("trees()", desk.trees(), 0);
        Bench.put(desk, "1");
        Bench.put(desk, "x+1");
        due("trees()", desk.trees(), 2);
        desk.part(1, 1);
        due("trees()", desk.trees(), 3);
        desk.undo();
        due("trees()", desk.trees(), 2);
    }

    private static void node() {
        Rankwise desk = new Rankwise();
        Bench.put(desk, "-f(x,1+2)!*70");
        int[][] rows = {{3, '*', 2, 2, -1, 9}, {3, '-', 0, 1, 0, 7}, {3, '!', 1, 1, 1, 6}, {2, 'f', -1, 2, 2, 5},
            {1, 'x', -1, 0, 3, 1}, {3, '+', 2, 2, 3, 3}, {0, 1, -1, 0, 5, 1}, {0, 2, -1, 0, 5, 1}, {0, 70, -1, 0, 0, 1}};
        for (int node = 0; node < rows.length; node++) {
            for (int what = 0; what < 6; what++) {
                due("node(0, " + node + ", " + what + ")", desk.node(0, node, what), rows[node][what]);
            }
        }
        thrown("node(0, 9, 0)", Bench.INDEX, () -> desk.node(0, 9, 0));
        thrown("node(0, -1, 0)", Bench.INDEX, () -> desk.node(0, -1, 0));
        thrown("node(1, 0, 0)", Bench.INDEX, () -> desk.node(1, 0, 0));
        thrown("node(-1, 0, 9)", Bench.INDEX, () -> desk.node(-1, 0, 9));
        thrown("node(0, 9, 9)", Bench.INDEX, () -> desk.node(0, 9, 9));
        thrown("node(0, 0, 6)", Bench.ARGUMENT, () -> desk.node(0, 0, 6));
        thrown("node(0, 0, -1)", Bench.ARGUMENT, () -> desk.node(0, 0, -1));
    }

    private static void isSame() {
        Rankwise desk = new Rankwise();
        String[] texts = {"1+2*x", "(1+(2*(x)))", "1+2*y", "1+2-x", "f(1,2)", "f(1)", "f", "1", "0b1", "-(1)", "1+2*x*1"};
        for (String text : texts) {
            Bench.put(desk, text);
        }
        for (int a = 0; a < texts.length; a++) {
            for (int b = 0; b < texts.length; b++) {
                boolean same = a == b || Math.max(a, b) == 1 || (Math.min(a, b) == 7 && Math.max(a, b) == 8);
                due("isSame(" + a + ", " + b + ")", desk.isSame(a, b), same);
            }
        }
        thrown("isSame(0, 11)", Bench.INDEX, () -> desk.isSame(0, 11));
        thrown("isSame(-1, 0)", Bench.INDEX, () -> desk.isSame(-1, 0));
        desk.tell('-', 1 + 1, 4, 0, 1);
        desk.tell('@', 0, 6, 0, 11);
        due("another sign", desk.isSame(Bench.put(desk, "@(1)"), 9), false);
    }

    private static void part() {
        Rankwise desk = new Rankwise();
        Bench.put(desk, "a*f(b+1,c)");
        due("part(0, 3)", desk.part(0, 3), 1);
        due("it", Bench.show(desk, 1), "b+1");
        due("part(0, 0)", desk.part(0, 0), 2);
        due("it", desk.isSame(0, 2), true);
        due("part(0, 2)", Bench.show(desk, desk.part(0, 2)), "f(b+1,c)");
        due("its nodes", desk.node(3, 0, 5), 5);
        due("its first node", desk.node(3, 0, 4), -1);
        thrown("part(0, 7)", Bench.INDEX, () -> desk.part(0, 7));
        thrown("part(0, -1)", Bench.INDEX, () -> desk.part(0, -1));
        thrown("part(4, 0)", Bench.INDEX, () -> desk.part(4, 0));
        while (desk.trees() < 30) {
            desk.part(0, 6);
        }
        thrown("part on a full shelf", Bench.STATE, () -> desk.part(0, 0));
        thrown("part on a full shelf without a node", Bench.INDEX, () -> desk.part(0, 7));
    }

    private static void graft() {
        Rankwise desk = new Rankwise();
        Bench.put(desk, "x+y*x");
        Bench.put(desk, "1-x");
        due("graft", Bench.show(desk, desk.graft(0, 'x', 1)), "1-x+y*(1-x)");
        due("graft without the name", desk.isSame(desk.graft(0, 'a', 1), 0), true);
        Bench.put(desk, "s(x,x,2,x)+s(x)+s(x+1,x)");
        due("graft into sums", Bench.show(desk, desk.graft(4, 'x', 1)), "s(x,1-x,2,1-x)+s(x)+s(1-x+1,1-x)");
        thrown("graft(0, x, 6)", Bench.INDEX, () -> desk.graft(0, 'x', 6));
        thrown("graft(-1, x, 0)", Bench.INDEX, () -> desk.graft(-1, 'x', 0));
        thrown("graft(9, A, 0)", Bench.INDEX, () -> desk.graft(9, 'A', 0));
        thrown("graft(0, A, 0)", Bench.ARGUMENT, () -> desk.graft(0, 'A', 0));
        thrown("graft(0, {, 0)", Bench.ARGUMENT, () -> desk.graft(0, '{', 0));
        thrown("graft(0, `, 0)", Bench.ARGUMENT, () -> desk.graft(0, '`', 0));
        int nines = Bench.put(desk, "x+x+x+x+x+x+x+x+x");
        int eights = Bench.put(desk, "x*x*x*x");
        due("79 nodes", desk.node(desk.graft(nines, 'x', eights), 0, 5), 71);
        int tens = Bench.put(desk, "x+x+x+x+x+x+x+x+x+x");
        due("79 nodes", desk.node(desk.graft(tens, 'x', eights), 0, 5), 79);
        int one = Bench.put(desk, "-(x+x+x+x+x+x+x+x+x+x)");
        due("80 nodes", desk.node(desk.graft(one, 'x', eights), 0, 5), 80);
        int two = Bench.put(desk, "--(x+x+x+x+x+x+x+x+x+x)");
        int trees = desk.trees();
        thrown("81 nodes", Bench.STATE, () -> desk.graft(two, 'x', eights));
        due("trees()", desk.trees(), trees);
        while (desk.trees() < 30) {
            desk.part(0, 1);
        }
        thrown("graft on a full shelf", Bench.STATE, () -> desk.graft(0, 'x', 1));
    }

    private static void tell() {
        Rankwise desk = new Rankwise();
        due("tell anew", desk.tell('+', 2, 5, 0, 0), 4);
        due("told", desk.told('+', 2, 0), 5);
        due("another one", desk.tell('@', 2, 8, 2, 7), 0);
        due("its side anew", desk.tell('@', 2, 8, 1, 7), 8);
        due("BEFORE", desk.tell('?', 0, 9, 0, 100 + 5), 0);
        due("BEHIND, too", desk.tell('?', 1, 1, 0, 125), 0);
        thrown("BETWEEN, too", Bench.STATE, () -> desk.tell('?', 2, 8, 1, 0));
        thrown("+ BEHIND", Bench.STATE, () -> desk.tell('+', 1, 8, 0, 11));
        due("+ BEFORE", desk.tell('+', 0, 6, 0, 11), 0);
        thrown("another side of a rank", Bench.STATE, () -> desk.tell('#', 2, 5, 1, 0));
        thrown("another side of a rank", Bench.STATE, () -> desk.tell('*', 2, 3, 0, 0));
        due("the same side", desk.tell('#', 2, 3, 2, 0), 0);
        int[][] wrongs = {{'a', 2, 5, 0, 0}, {' ', 0, 1, 0, 11}, {'+' + 256, 2, 5, 0, 0}, {'+', 3, 5, 0, 0}, {'+', -1, 5, 0, 11},
            {'+', 2, 0, 0, 0}, {'+', 2, 10, 0, 0}, {'+', 2, 5, 3, 0}, {'+', 2, 5, -1, 0}, {'-', 0, 5, 1, 11}, {'-', 0, 5, 2, 11},
            {'+', 2, 5, 0, 11}, {'+', 2, 5, 0, -1}, {'-', 0, 5, 0, 10}, {'-', 0, 5, 0, 14}, {'+', 2, 5, 0, 108},
            {'+', 2, 5, 0, 118}, {'+', 2, 5, 0, 99}, {'+', 2, 5, 0, 126}, {'!', 1, 5, 0, 0}, {'!', 1, 5, 1, 13}, {'!', 2, 0, 0, 0}};
        for (int[] w : wrongs) {
            thrown("tell " + (char) w[0] + w[1], Bench.ARGUMENT, () -> desk.tell((char) w[0], w[1], w[2], w[3], w[4]));
        }
        for (int meaning = 0; meaning <= 10; meaning++) {
            due("a meaning", desk.tell('+', 2, 5, 0, meaning), 5);
        }
        for (int meaning = 11; meaning <= 13; meaning++) {
            due("a meaning", desk.tell('-', 0, 6, 0, meaning), 6);
            due("a meaning", desk.tell('!', 1, 8, 0, meaning), 8);
        }
        Rankwise fresh = new Rankwise();
        Bench.put(fresh, "a+b*c");
        fresh.tell('+', 2, 6, 1, 2);
        due("trees keep their signs", Bench.show(fresh, 0), "a+(b*c)");
        due("what is read", Bench.show(fresh, Bench.put(fresh, "(a+b)*c")), "a+b*c");
    }

    private static void told() {
        Rankwise desk = new Rankwise();
        due("told - BEFORE", desk.told('-', 0, 0), 6);
        due("told - BEFORE", desk.told('-', 0, 1), 0);
        due("told - BEFORE", desk.told('-', 0, 2), 11);
        due("told ^ BETWEEN", desk.told('^', 2, 1), 1);
        due("told < BETWEEN", desk.told('<', 2, 1), 2);
        due("told - BEHIND", desk.told('-', 1, 0), -1);
        due("told @", desk.told('@', 2, 2), -1);
        due("told a", desk.told('a', 0, 0), -1);
        due("told of a great character", desk.told((char) 65535, 2, 1), -1);
        due("told of one like + but for 256", desk.told((char) ('+' + 256), 2, 0), -1);
        thrown("told + 3", Bench.ARGUMENT, () -> desk.told('+', 3, 0));
        thrown("told + -1", Bench.ARGUMENT, () -> desk.told('+', -1, 0));
        thrown("told a 0 3", Bench.ARGUMENT, () -> desk.told('a', 0, 3));
        thrown("told + 2 -1", Bench.ARGUMENT, () -> desk.told('+', 2, -1));
        desk.tell('@', 1, 9, 0, 103);
        due("told @ BEHIND", desk.told('@', 1, 0), 9);
        due("told @ BEHIND", desk.told('@', 1, 2), 103);
        desk.undo();
        due("told @ BEHIND", desk.told('@', 1, 0), -1);
    }

    private static void print() {
        Rankwise desk = new Rankwise();
        reprinted(desk, "((0x10))", "16");
        reprinted(desk, "f((a),((b+c)))", "f(a,b+c)");
        reprinted(desk, "(a+b)+c", "a+b+c");
        reprinted(desk, "a+(b+c)", "a+(b+c)");
        reprinted(desk, "(a^b)^c", "(a^b)^c");
        reprinted(desk, "a^(b^c)", "a^b^c");
        reprinted(desk, "(a<b)<c", "(a<b)<c");
        reprinted(desk, "a<(b<c)", "a<(b<c)");
        reprinted(desk, "-(a*b)", "-(a*b)");
        reprinted(desk, "(-a)*b", "-a*b");
        reprinted(desk, "-(a^b)", "-a^b");
        reprinted(desk, "(-a)^b", "(-a)^b");
        reprinted(desk, "a*(-b)", "a*-b");
        reprinted(desk, "a^(-b)", "a^-b");
        reprinted(desk, "-(-(a))", "--a");
        reprinted(desk, "(-a)!", "(-a)!");
        reprinted(desk, "-(a!)", "-a!");
        reprinted(desk, "(a|b)&(c|d)", "(a|b)&(c|d)");
        reprinted(desk, "((a+b)*(c-d))/(e*f)", "(a+b)*(c-d)/(e*f)");
        desk.tell('@', 0, 2, 0, 12);
        reprinted(desk, "a*(@b)+c", "a*(@b)+c");
        reprinted(desk, "a*(@(b+c))", "a*@b+c");
        reprinted(desk, "c+(a*(@b))", "c+a*@b");
        reprinted(desk, "(c+(@b))&d", "c+@b&d");
        reprinted(desk, "(@a)!", "(@a)!");
        desk.tell('#', 1, 2, 0, 13);
        reprinted(desk, "(a<b)#<c", "a<b#<c");
        reprinted(desk, "-(a#)", "-(a#)");
        reprinted(desk, "(-a)#", "-a#");
        reprinted(desk, "a+(b#)", "a+(b#)");
        reprinted(desk, "(@a)#", "@a#");
        reprinted(desk, "@(a#)", "@(a#)");
        int tree = Bench.put(desk, "x+1");
        due("print", desk.print(tree), 3);
        thrown("print", Bench.INDEX, () -> desk.print(tree + 1));
        thrown("print", Bench.INDEX, () -> desk.print(-1));
        due("what was printed stays", Bench.printed(desk, 3), "x+1");
        deepPrints();
        mostBrackets();
    }

    /** Trees of 80 nodes, as deep as they can be, and long ones. */
    private static void deepPrints() {
        String[] shapes = {"-(x!)", "(-x)!", "-x", "f(x)", "x!", "1+x", "x+1", "(x)^2", "2^(x)", "f(999999999,x,999999999,999999999)"};
        for (String shape : shapes) {
            Rankwise desk = new Rankwise();
            desk.tell('!', 1, 3, 0, 13);
            int grown = Bench.put(desk, shape);
            for (int turn = 0; turn < 3; turn++) {
                grown = desk.graft(grown, 'x', grown);
            }
            int nodes = desk.node(0, 0, 5);
            int step = desk.trees() - 1;
            for (int more = desk.node(grown, 0, 5); more + desk.node(step, 0, 5) <= 80; more = desk.node(grown, 0, 5)) {
                grown = desk.graft(step, 'x', grown);
            }
            for (int more = desk.node(grown, 0, 5); more + nodes <= 80; more = desk.node(grown, 0, 5)) {
                grown = desk.graft(0, 'x', grown);
            }
            int length = desk.print(grown);
            for (int part = 0; part < 4; part++) {
                due("audit " + part + " of a deep " + shape, desk.audit(part, grown), true);
            }
            due("the text stays", desk.out(length - 1) > 0, true);
            if (length <= 60) {
                due("a deep " + shape, desk.isSame(Bench.put(desk, Bench.printed(desk, length)), grown), true);
            }
        }
    }

    /** Brackets within brackets: as many levels of a text as 80 nodes can need. */
    private static void mostBrackets() {
        Rankwise desk = new Rankwise();
        String before = "+*/%&";
        String behind = "!@#~?";
        for (int k = 0; k < 5; k++) {
            desk.tell(before.charAt(k), 0, 9 - 2 * k, 0, 11);
            desk.tell(behind.charAt(k), 1, 9 - 2 * k, 0, 13);
        }
        String text = "+((*((/((%((&(x?))~))#))@))!)";
        int cycle = Bench.put(desk, text);
        due("all brackets", Bench.show(desk, cycle), text);
        int grown = desk.graft(cycle, 'x', cycle);
        grown = desk.graft(grown, 'x', grown);
        grown = desk.graft(desk.graft(cycle, 'x', grown), 'x', desk.graft(cycle, 'x', desk.part(cycle, 1)));
        due("80 nodes at most", desk.node(desk.part(grown, 0), 0, 5), 70);
        grown = desk.graft(desk.part(cycle, 1), 'x', grown);
        due("79 nodes", desk.node(grown, 0, 5), 79);
        due("audit", desk.audit(0, grown), true);
    }

    private static void postfix() {
        Rankwise desk = new Rankwise();
        String[] texts = {"12", "12", "a+b*c", "a b c * +", "-a!", "a ! -'", "(a-b)-~c", "a b - c ~' -", "f(1,g(x),2+3)",
            "1 x g1 2 3 + f3", "h(1,2,3,4)", "1 2 3 4 h4", "i", "i", "s+f(s)", "s s f1 +"};
        for (int k = 0; k < texts.length; k += 2) {
            int tree = Bench.put(desk, texts[k]);
            int length = desk.postfix(tree);
            due("length", length, texts[k + 1].length());
            due("postfix of " + texts[k], Bench.printed(desk, length), texts[k + 1]);
            thrown("out behind it", Bench.INDEX, () -> desk.out(length));
        }
        int choice = Bench.put(desk, "1+i(1,2,3)");
        thrown("postfix of i", Bench.STATE, () -> desk.postfix(choice));
        int sum = Bench.put(desk, "f(s(1))");
        thrown("postfix of s", Bench.STATE, () -> desk.postfix(sum));
        thrown("postfix(-1)", Bench.INDEX, () -> desk.postfix(-1));
        thrown("postfix(99)", Bench.INDEX, () -> desk.postfix(99));
        due("what was printed stays", Bench.printed(desk, 8), "s s f1 +");
    }

    private static void out() {
        Rankwise desk = new Rankwise();
        thrown("out(0)", Bench.INDEX, () -> desk.out(0));
        desk.print(Bench.put(desk, "x+10"));
        due("out(0)", desk.out(0), (int) 'x');
        due("out(3)", desk.out(3), (int) '0');
        thrown("out(4)", Bench.INDEX, () -> desk.out(4));
        thrown("out(-1)", Bench.INDEX, () -> desk.out(-1));
        desk.answer(0, 10);
        due("out(0)", desk.out(0), (int) '0');
        thrown("out(1)", Bench.INDEX, () -> desk.out(1));
    }

    private static void evaluate() {
        Rankwise desk = new Rankwise();
        String[] values = {"1/2+1/3", "5/6", "1/3-1/2", "-1/6", "2/4*6", "3", "1/(0-2)", "-1/2", "7%3", "1", "-7%3", "2",
            "7%-3", "1", "-6%-3", "0", "2^10", "1024", "2^-2", "1/4", "2^-64*2^64", "1", "(-2/3)^-3", "-27/8", "0^0", "1", "0^5", "0", "1^64", "1",
            "1/2<2/3", "1", "2/3<1/2", "0", "1/2=2/4", "1", "1>1", "0", "3>-4", "1", "2&3", "1", "0&3", "0", "0|-1", "1",
            "0|0", "0", "-(1/2)", "-1/2", "~0", "1", "~(1/2)", "0", "0!", "1", "5!", "120",
            "30!", "265252859812191058636308480000000", "999999999+1", "1000000000"};
        for (int k = 0; k < values.length; k += 2) {
            due(values[k], Bench.value(desk, values[k]), values[k + 1]);
        }
        operatorFaults(desk);
        lengths(desk);
        lazyCalls(desk);
        functionCalls();
        thrown("evaluate(-1)", Bench.INDEX, () -> desk.evaluate(-1));
        thrown("evaluate(29)", Bench.INDEX, () -> desk.evaluate(29));
    }

    private static void operatorFaults(Rankwise desk) {
        String[] faults = {"1/0", "1", "1%0", "1", "0^-1", "1", "0^-65", "1", "1/2%0", "2", "1%(1/2)", "2", "2^(1/2)", "2",
            "(1/2)!", "2", "(-1)!", "2", "31!", "3", "(0-31)!", "2", "2^65", "3", "2^-65", "3", "0^65", "3", "1^2^64", "3",
            "2^64*2^64*2^64*2^8", "3", "1/(2^64*2^64*2^64*2^8)", "3", "x", "4", "x/0", "4", "1/0+x", "1", "f(1/0)", "1", "f(1)", "5"};
        for (int k = 0; k < faults.length; k += 2) {
            due(faults[k], Bench.value(desk, faults[k]), "fault " + faults[k + 1]);
        }
        due("200 bits", Bench.value(desk, "2^64*2^64*2^64*2^7=0"), "0");
        due("200 bits", Bench.value(desk, "2^64*2^64*2^64*(2^8-1)>0"), "1");
        due("200 bits below", Bench.value(desk, "1/(2^64*2^64*2^64*(2^8-1))>0"), "1");
        due("201 bits on the way", Bench.value(desk, "2^64*2^64*2^64*2^7/3*3/2^64/2^64/2^64"), "128");
        Bench.value(desk, "7");
        Bench.value(desk, "1/0");
        due("with a fault the answer stays", Bench.answer(desk), "7");
    }

    private static void lengths(Rankwise desk) {
        due("200 nodes", Bench.value(desk, "s(k,1,13,k+k+k+k+k+k+k+k)+1"), "729");
        due("201 nodes", Bench.value(desk, "s(k,1,13,k+k+k+k+k+k+k+k)+-1"), "fault 9");
        due("201 nodes, the last one without value", Bench.value(desk, "s(k,1,13,k+k+k+k+k+k+k+k)+1+x"), "fault 9");
        due("200 nodes, the last one without value", Bench.value(desk, "s(k,1,13,k+k+k+k+k+k+k+k)+x"), "fault 4");
        due("201 nodes and i", Bench.value(desk, "s(k,1,13,k+k+k+k+k+k+k+k)+1+i(1)"), "fault 9");
        due("201 nodes and s", Bench.value(desk, "s(k,1,13,k+k+k+k+k+k+k+k)+1+s(1)"), "fault 9");
        due("200 nodes and s", Bench.value(desk, "s(k,1,13,k+k+k+k+k+k+k+k)+s(1)"), "fault 5");
    }

    private static void lazyCalls(Rankwise desk) {
        String[] values = {"i(1,2,x)", "2", "i(0,x,3)", "3", "i(x,1,2)", "fault 4", "i(1,2)", "fault 5", "i(1/0)", "fault 5",
            "i(1,2,3,4)", "fault 5", "s(k,1,4,k*k)", "30", "s(k,-1,1,k)", "0", "s(k,3,2,x)", "0", "s(k,1,30,1)", "30",
            "s(k,1,4,k/4)", "5/2", "s(k,1,4,k/4)=5/2", "1",
            "s(k,1,31,1)", "fault 3", "s(k,1/2,31,1)", "fault 2", "s(k,1,3/2,1)", "fault 2", "s(k,1,31/2,1)", "fault 2",
            "s(1,1,2,1)", "fault 10", "s(k+1,1,2,1)", "fault 10", "s(1,x,2,1)", "fault 10", "s(k,x,2,1)", "fault 4",
            "s(k,1,2)", "fault 5", "s(1,2,3)", "fault 5", "s(k,1,3,s(k,k,3,k))", "14", "s(k,1,2,k)+k", "fault 4",
            "s(k,1,2,s(j,1,k,j*k))", "7", "s(k,2^64,2^64+1,k-2^64)", "1", "s(k,1,2,2^64*2^64*2^64*2^7)", "fault 3",
            "s(k,k,2,1)", "fault 4", "s(k,1,2,1/(k-2))", "fault 1", "s(s,1,2,s)", "3", "s(i,1,2,i(i-1,i,5))", "7"};
        for (int k = 0; k < values.length; k += 2) {
            due(values[k], Bench.value(desk, values[k]), values[k + 1]);
        }
    }

    private static void functionCalls() {
        Rankwise desk = new Rankwise();
        desk.define('f', 1);
        due("no case", Bench.value(desk, "f(1)"), "fault 6");
        due("two for one", Bench.value(desk, "f(1,2)"), "fault 5");
        due("none for one", Bench.value(desk, "f"), "fault 4");
        desk.addCase('f', Bench.put(desk, "x<1"), Bench.put(desk, "y"));
        desk.addCase('f', Bench.put(desk, "x>0"), Bench.put(desk, "f(x-1)"));
        due("other names", Bench.value(desk, "f(0)"), "fault 4");
        Bench.let(desk, 'y', "42");
        Bench.let(desk, 'x', "0-5");
        due("let names", Bench.value(desk, "f(0)+x"), "37");
        due("12 calls", Bench.value(desk, "f(11)"), "42");
        due("13 calls", Bench.value(desk, "f(12)"), "fault 8");
        desk.define('m', 1);
        desk.addCase('m', -1, Bench.put(desk, "i(x<1,y,m(x-1))"));
        due("arguments are not within", Bench.value(desk, "m(m(11)-31)"), "42");
        due("a sum around", Bench.value(desk, "s(y,1,2,f(0))"), "84");
        due("a sum around, and its name behind a call", Bench.value(desk, "s(k,1,3,f(0)*k-f(k-k)+k)"), "132");
        due("a sum around and an argument", Bench.value(desk, "s(x,1,2,f(x-x))"), "84");
        desk.addCase('f', Bench.put(desk, "x=1/2"), Bench.put(desk, "1"));
        due("two cases", Bench.value(desk, "f(1/2)"), "fault 7");
        desk.addCase('f', Bench.put(desk, "1/x"), Bench.put(desk, "1"));
        due("all conditions are reckoned", Bench.value(desk, "f(0)"), "fault 1");
        desk.define('g', 3);
        desk.addCase('g', -1, Bench.put(desk, "x-y-z"));
        due("three parameters", Bench.value(desk, "g(9,2,3)"), "4");
        due("a sum within", Bench.value(desk, "g(x,s(x,1,2,x),0)"), "-8");
        desk.define('n', 1);
        desk.addCase('n', -1, Bench.put(desk, "x*10-y"));
        due("one parameter alone", Bench.value(desk, "n(5)"), "8");
        desk.define('h', 2);
        desk.addCase('h', -1, Bench.put(desk, "s(x,1,2,x*y)+x"));
        due("a sum's name is a parameter", Bench.value(desk, "h(10,3)"), "19");
        desk.tell('@', 2, 5, 0, 100 + 'h' - 'a');
        desk.tell('#', 1, 9, 0, 100 + 'f' - 'a');
        desk.tell('?', 0, 9, 0, 100 + 'g' - 'a');
        due("an operator that is a function", Bench.value(desk, "10@3"), "19");
        due("one with another number", Bench.value(desk, "?1"), "fault 5");
        desk.define('f', 1);
        desk.addCase('f', -1, Bench.put(desk, "x*x"));
        due("one BEHIND", Bench.value(desk, "(2+3)#"), "25");
        desk.define('e', 1);
        desk.addCase('e', -1, Bench.put(desk, "e(x)"));
        due("without an end", Bench.value(desk, "e(1)"), "fault 8");
    }

    private static void reckon() {
        Rankwise desk = new Rankwise();
        int tree = Bench.put(desk, "(1+2)*3-4/8");
        due("reckon", desk.reckon(tree), 0);
        due("its value", Bench.answer(desk), "17/2");
        due("reckon", desk.reckon(Bench.put(desk, "x+1/0")), 4);
        due("reckon", desk.reckon(Bench.put(desk, "1/0+x")), 1);
        due("reckon", desk.reckon(Bench.put(desk, "2%(1/2)")), 2);
        due("reckon", desk.reckon(Bench.put(desk, "2^65")), 3);
        due("reckon", desk.reckon(Bench.put(desk, "g(1)")), 5);
        due("the answer stays", Bench.answer(desk), "17/2");
        desk.define('f', 1);
        desk.addCase('f', Bench.put(desk, "x<1"), Bench.put(desk, "s(k,1,4,k)"));
        desk.addCase('f', Bench.put(desk, "x>0"), Bench.put(desk, "x*f(x-1)"));
        due("reckon", desk.reckon(Bench.put(desk, "f(3)-f(2)*-1")), 0);
        due("its value", Bench.answer(desk), "80");
        due("reckon", desk.reckon(Bench.put(desk, "f(12)")), 8);
        due("reckon", desk.reckon(Bench.put(desk, "f(11)-f(10)-f(9)")), 9);
        int lazy = Bench.put(desk, "1+i(1,2,3)");
        int sum = Bench.put(desk, "s(1)");
        thrown("reckon of i", Bench.STATE, () -> desk.reckon(lazy));
        thrown("reckon of s", Bench.STATE, () -> desk.reckon(sum));
        thrown("reckon(-1)", Bench.INDEX, () -> desk.reckon(-1));
        thrown("reckon(28)", Bench.INDEX, () -> desk.reckon(28));
    }

    private static void answer() {
        Rankwise desk = new Rankwise();
        Bench.value(desk, "-255/16");
        String[] due = {"2", "-11111111", "16", "-ff", "36", "-73", "10", "-255"};
        for (int k = 0; k < due.length; k += 2) {
            int length = desk.answer(0, Integer.parseInt(due[k]));
            due("its length", length, due[k + 1].length());
            due("base " + due[k], Bench.printed(desk, length), due[k + 1]);
        }
        due("the denominator", Bench.printed(desk, desk.answer(1, 2)), "10000");
        Bench.value(desk, "35");
        due("z", Bench.printed(desk, desk.answer(0, 36)), "z");
        Bench.value(desk, "0");
        due("0", Bench.printed(desk, desk.answer(0, 2)), "0");
        Bench.value(desk, "0-2^64*2^64*2^64*2^7");
        due("200 bits", desk.answer(0, 2), 201);
        thrown("part -1", Bench.ARGUMENT, () -> desk.answer(-1, 10));
        thrown("part 2", Bench.ARGUMENT, () -> desk.answer(2, 10));
        thrown("radix 1", Bench.ARGUMENT, () -> desk.answer(0, 1));
        thrown("radix 37", Bench.ARGUMENT, () -> desk.answer(0, 37));
        due("what was printed stays", desk.out(200), (int) '0');
    }

    private static void let() {
        Rankwise desk = new Rankwise();
        int tree = Bench.put(desk, "x*2+1");
        due("let without a value", desk.let('x', tree), 4);
        due("it has none then", desk.recall('x'), false);
        Bench.value(desk, "5");
        due("let", desk.let('x', Bench.put(desk, "1/3")), 0);
        due("the answer stays", Bench.answer(desk), "5");
        due("let", desk.let('x', tree), 0);
        desk.recall('x');
        due("its value", Bench.answer(desk), "5/3");
        due("let with a fault", desk.let('x', Bench.put(desk, "1/0")), 1);
        desk.recall('x');
        due("its value stays", Bench.answer(desk), "5/3");
        due("let a", desk.let('a', tree), 0);
        due("let z", desk.let('z', tree), 0);
        due("let i", desk.let('i', tree), 0);
        due("i", Bench.value(desk, "i"), "13/3");
        thrown("let A", Bench.ARGUMENT, () -> desk.let('A', 0));
        thrown("let { without a tree", Bench.ARGUMENT, () -> desk.let('{', 9));
        thrown("let without a tree", Bench.INDEX, () -> desk.let('x', 9));
        thrown("let without a tree", Bench.INDEX, () -> desk.let('x', -1));
    }

    private static void unlet() {
        Rankwise desk = new Rankwise();
        due("unlet", desk.unlet('x'), false);
        Bench.let(desk, 'x', "1");
        due("unlet", desk.unlet('x'), true);
        due("unlet", desk.unlet('x'), false);
        due("x", Bench.value(desk, "x"), "fault 4");
        desk.undo();
        due("x", Bench.value(desk, "x"), "1");
        thrown("unlet X", Bench.ARGUMENT, () -> desk.unlet('X'));
        thrown("unlet of a great character", Bench.ARGUMENT, () -> desk.unlet((char) ('a' + 256)));
    }

    private static void recall() {
        Rankwise desk = new Rankwise();
        Bench.value(desk, "9");
        due("recall", desk.recall('x'), false);
        due("the answer stays", Bench.answer(desk), "9");
        Bench.let(desk, 'x', "-1/7");
        due("recall", desk.recall('x'), true);
        due("the answer", Bench.answer(desk), "-1/7");
        thrown("recall 1", Bench.ARGUMENT, () -> desk.recall('1'));
        thrown("recall `", Bench.ARGUMENT, () -> desk.recall('`'));
    }

    private static void define() {
        Rankwise desk = new Rankwise();
        Bench.put(desk, "1");
        due("define", desk.define('f', 1), -1);
        due("define", desk.define('f', 3), 0);
        desk.addCase('f', -1, 0);
        desk.addCase('f', -1, 0);
        due("define", desk.define('f', 2), 2);
        due("it has no cases", Bench.value(desk, "f(1,2)"), "fault 6");
        due("it has other parameters", Bench.value(desk, "f(1,2,3)"), "fault 5");
        due("define a", desk.define('a', 1), -1);
        due("define z", desk.define('z', 1), -1);
        thrown("define i", Bench.ARGUMENT, () -> desk.define('i', 1));
        thrown("define s", Bench.ARGUMENT, () -> desk.define('s', 1));
        thrown("define F", Bench.ARGUMENT, () -> desk.define('F', 1));
        thrown("define {", Bench.ARGUMENT, () -> desk.define('{', 1));
        thrown("0 parameters", Bench.ARGUMENT, () -> desk.define('f', 0));
        thrown("4 parameters", Bench.ARGUMENT, () -> desk.define('f', 4));
    }

    private static void addCase() {
        Rankwise desk = new Rankwise();
        Bench.put(desk, "1");
        int thirty = Bench.put(desk, "-(1+1+1+1+1+1+1+1+1+1+1+1+1+1)--1");
        int more = Bench.put(desk, "-(1+1+1+1+1+1+1+1+1+1+1+1+1+1)-1*1");
        due("30 nodes", desk.node(thirty, 0, 5), 31);
        thrown("no function", Bench.STATE, () -> desk.addCase('f', 0, 0));
        thrown("no function i", Bench.STATE, () -> desk.addCase('i', 0, 0));
        desk.define('f', 1);
        thrown("31 nodes", Bench.STATE, () -> desk.addCase('f', thirty, 0));
        thrown("32 nodes", Bench.STATE, () -> desk.addCase('f', 0, more));
        int just = Bench.put(desk, "-(1+1+1+1+1+1+1+1+1+1+1+1+1+1)-1");
        due("30 nodes", desk.node(just, 0, 5), 30);
        due("addCase", desk.addCase('f', just, just), 1);
        due("addCase", desk.addCase('f', -1, 0), 2);
        due("both hold", Bench.value(desk, "f(1)"), "fault 7");
        due("addCase", desk.addCase('f', 0, 0), 3);
        due("addCase", desk.addCase('f', 0, 0), 4);
        thrown("a fifth case", Bench.STATE, () -> desk.addCase('f', 0, 0));
        thrown("name F", Bench.ARGUMENT, () -> desk.addCase('F', 99, 0));
        thrown("no tree", Bench.INDEX, () -> desk.addCase('f', 99, 0));
        thrown("no tree", Bench.INDEX, () -> desk.addCase('f', -2, 0));
        thrown("no tree", Bench.INDEX, () -> desk.addCase('f', 0, -1));
        thrown("no tree", Bench.INDEX, () -> desk.addCase('g', 0, 99));
    }

    /** One step of a text: the rule, the node and what it becomes. */
    private static String stepOf(Rankwise desk, String text) {
        int tree = Bench.put(desk, text);
        int next = desk.step(tree);
        String told = next == -1 ? "none" : desk.trace(0, 0) + " " + desk.trace(0, 1) + " " + Bench.show(desk, next);
        due("one step at most", desk.trace(1, 0), -1);
        due("none has no rule", desk.trace(0, 0) == -1, next == -1);
        if (next != -1) {
            desk.undo();
        }
        desk.undo();
        return told;
    }

    private static void step() {
        Rankwise desk = new Rankwise();
        String[] steps = {"2+3", "1 0 5", "3-2", "1 0 1", "2-3", "none", "2*3", "1 0 6", "6/3", "1 0 2", "5/2", "none", "0/0", "5 0 1",
            "5/0", "none", "2^3", "1 0 8", "0^0", "1 0 1", "1^64", "1 0 1", "1^65", "none", "2^64", "none", "999999999+0", "1 0 999999999",
            "999999999+1", "none", "999999999*999999999", "none", "31622^2", "1 0 999950884", "31623^2", "none", "7%2", "none",
            "x+0", "2 0 x", "0+x", "2 0 x", "x-0", "2 0 x", "0-x", "none", "x*1", "3 0 x", "1*x", "3 0 x", "x/1", "3 0 x", "1/x", "none",
            "x^1", "3 0 x", "1^x", "none", "x*0", "4 0 0", "0*x", "4 0 0", "0/x", "none", "x-x", "5 0 0", "(a+b)/(a+b)", "5 0 1",
            "(a+b)-(b+a)", "none", "--x", "6 0 x", "-~x", "none", "2*x+3*x", "7 0 5*x", "2*x+3*y", "none", "x*2+x*3", "none", "x*y+2*y", "none", "2*y+x*y", "none",
            "999999998*x+1*x", "3 4 999999998*x+x", "999999998*x+2*x", "none", "999999997*x+2*x", "7 0 999999999*x", "2*(x-y)+5*(x-y)", "7 0 7*(x-y)",
            "(1+2)*(3+4)", "1 1 3*(3+4)", "f(x+0,y)", "2 1 f(x,y)", "s(k*1,1,2,k)", "3 1 s(k,1,2,k)", "x+y", "none", "x", "none",
            "a-(b+0)", "2 2 a-b", "x-x+0", "5 1 0+0", "1+2<3", "1 1 3<3", "--(1+1)", "1 2 --2", "(x+0)!", "2 1 x!"};
        for (int k = 0; k < steps.length; k += 2) {
            due("step of " + steps[k], stepOf(desk, steps[k]), steps[k + 1]);
        }
        desk.tell('@', 2, 4, 0, 2);
        desk.tell('#', 1, 9, 0, 11);
        due("meanings", stepOf(desk, "3@4"), "1 0 12");
        due("meanings", stepOf(desk, "-x#"), "6 0 x");
        due("the left MULTIPLY", stepOf(desk, "(2@x)+3*x"), "7 0 5@x");
        desk.tell('+', 2, 4, 0, 100);
        due("a function is no ADD", stepOf(desk, "1+2"), "none");
        int plain = Bench.put(desk, "x");
        thrown("step(-1)", Bench.INDEX, () -> desk.step(-1));
        thrown("step(30)", Bench.INDEX, () -> desk.step(30));
        due("none puts nothing", desk.step(plain), -1);
        due("trees()", desk.trees(), 1);
        int more = Bench.put(desk, "x-x");
        while (desk.trees() < 30) {
            desk.part(0, 0);
        }
        thrown("step on a full shelf", Bench.STATE, () -> desk.step(more));
        thrown("step without a rule on a full shelf", Bench.STATE, () -> desk.step(plain));
        thrown("step(99)", Bench.INDEX, () -> desk.step(99));
    }

    private static void simplify() {
        Rankwise desk = new Rankwise();
        String[] texts = {"2+3*4", "14", "x*0+y*1", "y", "(x-x)+(y/y)", "1", "2*x+3*x-5*x", "0", "a+(b-b)*c", "a", "----x", "x",
            "f(1+1,0*x)", "f(2,0)", "2*(1*x)+(3-0)*x", "5*x", "s(k,1+1,3,k+0)", "s(k,2,3,k)", "1-2", "1-2"};
        for (int k = 0; k < texts.length; k += 2) {
            int tree = Bench.put(desk, texts[k]);
            int to = desk.simplify(tree);
            due("simplify of " + texts[k], Bench.show(desk, to), texts[k + 1]);
            due("where it is", to, texts[k].equals(texts[k + 1]) ? tree : tree + 1);
            due("aim", desk.audit(2, tree), true);
            due("trees()", desk.trees(), to + 1);
        }
        due("no step then", desk.trace(0, 0), -1);
        thrown("simplify(-1)", Bench.INDEX, () -> desk.simplify(-1));
        thrown("simplify(30)", Bench.INDEX, () -> desk.simplify(30));
        while (desk.trees() < 30) {
            desk.part(0, 0);
        }
        thrown("simplify on a full shelf", Bench.STATE, () -> desk.simplify(0));
        thrown("simplify without a rule on a full shelf", Bench.STATE, () -> desk.simplify(1));
    }

    private static void trace() {
        Rankwise desk = new Rankwise();
        Bench.put(desk, "0+x*(3-2)-(y-y)");
        due("simplify", Bench.show(desk, desk.simplify(0)), "x");
        int[][] steps = {{1, 5}, {3, 3}, {2, 1}, {5, 2}, {2, 0}};
        for (int k = 0; k < steps.length; k++) {
            due("rule of step " + k, desk.trace(k, 0), steps[k][0]);
            due("node of step " + k, desk.trace(k, 1), steps[k][1]);
        }
        due("trace(5, 0)", desk.trace(5, 0), -1);
        due("trace(-1, 1)", desk.trace(-1, 1), -1);
        thrown("trace(0, 2)", Bench.ARGUMENT, () -> desk.trace(0, 2));
        thrown("trace(9, -1)", Bench.ARGUMENT, () -> desk.trace(9, -1));
        desk.audit(2, 0);
        thrown("step(9)", Bench.INDEX, () -> desk.step(9));
        due("what throws, and audit, leave them", desk.trace(4, 0), 2);
        desk.undo();
        due("undo leaves them", desk.trace(4, 0), 2);
        desk.step(0);
        due("step has one", desk.trace(0, 1), 5);
        due("step has one", desk.trace(1, 1), -1);
        desk.step(Bench.put(desk, "x"));
        due("step has none", desk.trace(0, 1), -1);
    }

    /** The coefficients of a text, from the highest one; none, if it is no polynomial. */
    private static String gathered(Rankwise desk, String text) {
        int tree = Bench.put(desk, text);
        int degree = desk.gather(tree, 'x');
        desk.undo();
        if (degree < 0) {
            return "none";
        }
        StringBuilder told = new StringBuilder();
        for (int power = degree; power >= 0; power--) {
            boolean some = desk.coefficient(power);
            String answer = Bench.answer(desk);
            due("whether it is 0", some, !answer.equals("0"));
            told.append(answer).append(power > 0 ? " " : "");
        }
        return told.toString();
    }

    private static void gather() {
        Rankwise desk = new Rankwise();
        Bench.let(desk, 'a', "2/3");
        Bench.let(desk, 'b', "2^64*2^64*2^64*2^7");
        Bench.let(desk, 'x', "5");
        String[] texts = {"7", "7", "x", "1 0", "a", "2/3", "y", "none", "x+1", "1 1", "1-x", "-1 1", "-x", "-1 0", "x*x-x*x", "0",
            "(x+1)*(x-1)", "1 0 -1", "(x+1)^3", "1 3 3 1", "(2*x)^0", "1", "0^0", "1", "x/2+a*x", "7/6 0", "x/(1+1)", "1/2 0",
            "x/(x-x+2)", "1/2 0", "x/0", "none", "x/(x-x)", "none", "1/x", "none", "2^x", "none", "x^(1+1)", "none", "x^8",
            "1 0 0 0 0 0 0 0 0", "x^9", "none", "x^4*x^5", "none", "x^8*x", "none", "0*x^8*x", "0", "(x^8*x)*0", "none", "(x^2)^5", "none", "(x^3)^3", "none",
            "(x^2)^4", "1 0 0 0 0 0 0 0 0", "x^8-x^8+3", "3", "1^9", "none", "2^8", "256", "f(x)", "none", "i(1,x,x)", "none", "x%2", "none",
            "x<2", "none", "~x", "none", "x!", "none", "x!*0", "none", "b*x", "803469022129495137770981046170581301261101496891396417650688 0", "b*2", "none",
            "b*x*2", "none", "b*2-b", "none", "b/2*2-b+x", "1 0", "(x/b)^2", "none", "(x/3+1/2)^2", "1/9 1/3 1/4"};
        for (int k = 0; k < texts.length; k += 2) {
            due("gather of " + texts[k], gathered(desk, texts[k]), texts[k + 1]);
        }
        gathered(desk, "x+4");
        gathered(desk, "1/x");
        desk.coefficient(0);
        due("the one before stays", Bench.answer(desk), "4");
        Bench.put(desk, "x*y");
        thrown("gather(-1)", Bench.INDEX, () -> desk.gather(-1, 'x'));
        thrown("gather(9, A)", Bench.INDEX, () -> desk.gather(9, 'A'));
        thrown("gather(0, A)", Bench.ARGUMENT, () -> desk.gather(0, 'A'));
        due("in y", desk.gather(desk.trees() - 1, 'y'), 1);
        desk.coefficient(1);
        due("its coefficient", Bench.answer(desk), "5");
    }

    private static void coefficient() {
        Rankwise desk = new Rankwise();
        due("at first", desk.coefficient(8), false);
        desk.gather(Bench.put(desk, "2*x^2-1/2"), 'x');
        due("coefficient(2)", desk.coefficient(2), true);
        due("it", Bench.answer(desk), "2");
        due("coefficient(1)", desk.coefficient(1), false);
        due("it", Bench.answer(desk), "0");
        due("coefficient(0)", desk.coefficient(0), true);
        due("it", Bench.answer(desk), "-1/2");
        due("coefficient(8)", desk.coefficient(8), false);
        due("it", Bench.answer(desk), "0");
        thrown("coefficient(9)", Bench.ARGUMENT, () -> desk.coefficient(9));
        thrown("coefficient(-1)", Bench.ARGUMENT, () -> desk.coefficient(-1));
        desk.gather(Bench.put(desk, "3"), 'x');
        due("coefficient(2)", desk.coefficient(2), false);
    }

    private static void derive() {
        Rankwise desk = new Rankwise();
        String[] texts = {"7", "0", "y", "0", "x", "1", "x+x", "1+1", "x-7", "1-0", "-x", "-1", "x*y", "1*y+x*0", "x/y", "(1*y-x*0)/y^2",
            "x^3", "3*x^2*1", "x^1", "1*x^0*1", "x^0", "0", "(x*x)^2", "2*(x*x)^1*(1*x+x*1)", "x^65", "65*x^64*1"};
        for (int k = 0; k < texts.length; k += 2) {
            int tree = Bench.put(desk, texts[k]);
            int to = desk.derive(tree, 'x');
            due("where it is", to, tree + 1);
            due("derivative of " + texts[k], Bench.show(desk, to), texts[k + 1]);
            due("aim", desk.audit(3, tree), true);
            desk.undo();
            desk.undo();
        }
        for (String text : new String[] {"f(x)", "i(1,2,3)", "x%2", "~x", "x!", "x<1", "2^x", "x^(1+1)", "f(1)^0", "(x%2)^0", "x^-1"}) {
            int tree = Bench.put(desk, text);
            thrown("derivative of " + text, Bench.STATE, () -> desk.derive(tree, 'x'));
            due("aim", desk.audit(3, tree), true);
            desk.undo();
        }
        derivedSigns();
        int big = Bench.put(desk, "(x*x*x*x*x)*(x*x*x*x*x*x)");
        due("trees()", desk.trees(), 1);
        thrown("more than 80 nodes", Bench.STATE, () -> desk.derive(big, 'x'));
        due("trees()", desk.trees(), 1);
        thrown("derive(9, A)", Bench.INDEX, () -> desk.derive(9, 'A'));
        thrown("derive(-1, x)", Bench.INDEX, () -> desk.derive(-1, 'x'));
        thrown("derive(0, A)", Bench.ARGUMENT, () -> desk.derive(0, 'A'));
        while (desk.trees() < 30) {
            desk.part(0, 5);
        }
        thrown("derive on a full shelf", Bench.STATE, () -> desk.derive(3, 'x'));
    }

    /** Which operators a derivative has. */
    private static void derivedSigns() {
        Rankwise desk = new Rankwise();
        desk.tell('#', 2, 5, 0, 2);
        desk.tell('?', 2, 4, 0, 0);
        desk.tell('@', 1, 9, 0, 11);
        due("the one that is differentiated", Bench.show(desk, desk.derive(Bench.put(desk, "x*y"), 'x')), "1*y+x*0");
        due("the one that is differentiated", Bench.show(desk, desk.derive(Bench.put(desk, "x#y"), 'x')), "1#y+x#0");
        due("the least sign", Bench.show(desk, desk.derive(Bench.put(desk, "x^2"), 'x')), "2#x^1#1");
        due("its fix", Bench.show(desk, desk.derive(Bench.put(desk, "x@"), 'x')), "1@");
        desk.tell('+', 2, 4, 0, 1);
        due("the least sign", Bench.show(desk, desk.derive(Bench.put(desk, "x*y"), 'x')), "1*y?x*0");
        due("the least sign", Bench.show(desk, desk.derive(Bench.put(desk, "x/y"), 'x')), "(1#y+x#0)/y^2");
        desk.tell('?', 2, 4, 0, 1);
        int none = Bench.put(desk, "x*y");
        thrown("no ADD", Bench.STATE, () -> desk.derive(none, 'x'));
        due("aim", desk.audit(3, none), true);
        desk.tell('^', 2, 7, 1, 4);
        int over = Bench.put(desk, "x/y");
        thrown("no POWER", Bench.STATE, () -> desk.derive(over, 'x'));
        due("slope all the same", desk.slope(over, 'x'), 4);
    }

    private static void slope() {
        Rankwise desk = new Rankwise();
        Bench.put(desk, "x^3-2*x");
        due("without a value", desk.slope(0, 'x'), 4);
        Bench.let(desk, 'x', "2/3");
        Bench.let(desk, 'y', "5");
        Bench.let(desk, 'b', "2^64*2^64");
        String[] texts = {"x^3-2*x", "-2/3", "x", "1", "y", "0", "9", "0", "-x", "-1", "x*x*y", "20/3", "y/x", "-45/4", "x^0", "0", "(x-x)^1", "0",
            "(x+y)^2", "34/3", "x/0", "fault 1", "z*x", "fault 4", "x^65", "fault 3", "(x/b)/b", "fault 3", "(b*x)^1*b", "fault 3",
            "(x-2/3)^0", "0", "z^0", "fault 4", "(x-2/3)^1", "1", "(x-2/3)*b*b", "fault 3", "(x-2/3)*b/2+1/0", "fault 1",
            "(x-2/3)*b*b+1/0", "fault 3"};
        for (int k = 0; k < texts.length; k += 2) {
            int tree = Bench.put(desk, texts[k]);
            int fault = desk.slope(tree, 'x');
            due("slope of " + texts[k], fault == 0 ? Bench.answer(desk) : "fault " + fault, texts[k + 1]);
            due("aim", desk.audit(3, tree), true);
            desk.undo();
        }
        due("the answer stays", Bench.answer(desk), "1");
        for (String text : new String[] {"f(x)", "x%2", "~x", "x!", "x=1", "2^x", "x^(1+1)", "x^-1", "(x!)^0"}) {
            int tree = Bench.put(desk, text);
            thrown("slope of " + text, Bench.STATE, () -> desk.slope(tree, 'x'));
            desk.undo();
        }
        thrown("slope(-1, x)", Bench.INDEX, () -> desk.slope(-1, 'x'));
        thrown("slope(9, A)", Bench.INDEX, () -> desk.slope(9, 'A'));
        thrown("slope(0, A)", Bench.ARGUMENT, () -> desk.slope(0, 'A'));
    }

    private static void solve() {
        Rankwise desk = new Rankwise();
        Bench.let(desk, 'a', "3");
        Bench.let(desk, 'b', "2^64*2^64*2^64*2^7");
        String[] texts = {"3*x+1=x/2-4", "1 -2", "x=x+1", "0", "x+x=2*x", "2", "a*x=1", "1 1/3", "c*x=1", "-1", "x*x=1", "-1",
            "x*x-x*x+x=7", "1 7", "x", "-1", "x<1", "-1", "1=1", "2", "1=2", "0", "b*x=1/2", "-1", "x=b", "1 803469022129495137770981046170581301261101496891396417650688",
            "x+b=-b", "-1", "b*x+b=-b*x", "1 -1/2", "1/x=2", "-1", "(x=1)+1", "-1", "0=x", "1 0"};
        for (int k = 0; k < texts.length; k += 2) {
            int tree = Bench.put(desk, texts[k]);
            int found = desk.solve(tree, 'x');
            due("solve " + texts[k], found == 1 ? "1 " + Bench.answer(desk) : "" + found, texts[k + 1]);
            desk.undo();
        }
        due("the answer stays", Bench.answer(desk), "0");
        desk.gather(Bench.put(desk, "x+8"), 'x');
        int tree = Bench.put(desk, "2*x=y");
        due("for y without x", desk.solve(tree, 'y'), -1);
        Bench.let(desk, 'x', "4");
        due("for y", desk.solve(tree, 'y'), 1);
        due("y", Bench.answer(desk), "8");
        desk.coefficient(0);
        due("the polynomial stays", Bench.answer(desk), "8");
        desk.tell('<', 2, 3, 2, 7);
        due("another sign", desk.solve(Bench.put(desk, "y<2"), 'y'), 1);
        thrown("solve(-1, x)", Bench.INDEX, () -> desk.solve(-1, 'x'));
        thrown("solve(29, A)", Bench.INDEX, () -> desk.solve(29, 'A'));
        thrown("solve(0, A)", Bench.ARGUMENT, () -> desk.solve(0, 'A'));
    }

    private static void undo() {
        Rankwise desk = new Rankwise();
        Bench.put(desk, "1");
        desk.let('x', 0);
        desk.let('x', Bench.put(desk, "x+1"));
        desk.unlet('x');
        desk.define('f', 1);
        desk.addCase('f', -1, 0);
        desk.define('f', 2);
        desk.tell('+', 2, 9, 0, 1);
        desk.evaluate(0);
        desk.gather(1, 'y');
        desk.step(Bench.put(desk, "x*1"));
        Bench.type(desk, "4+");
        int length = desk.print(1);
        due("a step", desk.undo(), 0);
        due("a tree", desk.undo(), 0);
        due("trees()", desk.trees(), 2);
        due("an operator", desk.undo(), 1);
        due("its rank", desk.told('+', 2, 0), 4);
        due("a function", desk.undo(), 3);
        due("what is printed stays", Bench.printed(desk, length), "x+1");
        due("the answer stays", Bench.answer(desk), "1");
        due("the steps stay", desk.trace(0, 0), 3);
        due("what is typed stays", desk.drop(), 2);
        due("its cases", desk.define('f', 2), 1);
        due("a function", desk.undo(), 3);
        due("one with its case", Bench.value(desk, "f(7)"), "1");
        due("a case", desk.undo(), 3);
        due("no case", Bench.value(desk, "f(7)"), "fault 6");
        due("a function", desk.undo(), 3);
        due("no function", Bench.value(desk, "f(7)"), "fault 5");
        due("a value", desk.undo(), 2);
        due("x", Bench.value(desk, "x"), "2");
        due("a value", desk.undo(), 2);
        due("x", Bench.value(desk, "x"), "1");
        due("a tree", desk.undo(), 0);
        due("a value", desk.undo(), 2);
        due("x", Bench.value(desk, "x"), "fault 4");
        due("a tree", desk.undo(), 0);
        due("nothing", desk.undo(), -1);
        due("nothing", desk.undo(), -1);
        due("trees()", desk.trees(), 0);
        undoTwenty();
    }

    /** At most the latest 20; and what changes nothing is none. */
    private static void undoTwenty() {
        Rankwise desk = new Rankwise();
        Bench.put(desk, "1");
        desk.define('f', 1);
        for (int k = 0; k < 23; k++) {
            desk.tell('@', 0, 1 + k % 9, 0, 11);
        }
        desk.unlet('x');
        desk.let('x', Bench.put(desk, "1/0"));
        desk.simplify(0);
        desk.step(0);
        due("the last tree", desk.undo(), 0);
        for (int k = 0; k < 19; k++) {
            due("an operator", desk.undo(), 1);
        }
        due("the 21st", desk.undo(), -1);
        due("as told the 4th time", desk.told('@', 0, 0), 4);
        due("trees()", desk.trees(), 1);
        Bench.put(desk, "2");
        due("a new one", desk.undo(), 0);
        due("none then", desk.undo(), -1);
    }

    private static void audit() {
        Rankwise desk = new Rankwise();
        Bench.put(desk, "x^2*(y+0)-(z-z)/2");
        Bench.put(desk, "i(x,2,3)+s(k,1,2,k)");
        Bench.value(desk, "77");
        desk.gather(Bench.put(desk, "x+5"), 'x');
        int length = desk.print(2);
        Bench.type(desk, "1+");
        for (int part = 0; part < 4; part++) {
            for (int tree = 0; tree < 3; tree++) {
                due("audit(" + part + ", " + tree + ")", desk.audit(part, tree), true);
            }
        }
        Bench.let(new Rankwise(), 'x', "1");
        due("what is printed stays", Bench.printed(desk, length), "x+5");
        due("the answer stays", Bench.answer(desk), "77");
        due("what is typed stays", desk.drop(), 2);
        due("no steps", desk.trace(0, 0), -1);
        due("trees()", desk.trees(), 3);
        due("the polynomial stays", desk.coefficient(1), true);
        thrown("audit(-1, 0)", Bench.ARGUMENT, () -> desk.audit(-1, 0));
        thrown("audit(4, 99)", Bench.ARGUMENT, () -> desk.audit(4, 99));
        thrown("audit(0, 3)", Bench.INDEX, () -> desk.audit(0, 3));
        thrown("audit(3, -1)", Bench.INDEX, () -> desk.audit(3, -1));
        Bench.let(desk, 'x', "3/7");
        Bench.let(desk, 'y', "5");
        Bench.let(desk, 'z', "1/9");
        for (int part = 0; part < 4; part++) {
            due("audit(" + part + ", 0) with values", desk.audit(part, 0), true);
        }
    }
}
