import java.math.BigInteger;
import java.util.function.Consumer;

/** The edges of making simpler, of polynomials, derivatives and equations, sentence by sentence. */
public final class AlgebraEdgesTest {
    private static final int MOST = Integer.MAX_VALUE;
    private static final int LEAST = Integer.MIN_VALUE;
    private static final String P200 = BigInteger.TWO.pow(200).subtract(BigInteger.ONE).toString();
    private static final String P199 = BigInteger.TWO.pow(199).toString();
    private static final char[] NO_NAMES = {'`', '{', 'X', '1', 0, 65535, 'x' + 256};

    public static void main(String[] args) {
        firstNode();
        ruleOne();
        rulesTwoAndThree();
        rulesFourAndFive();
        rulesSixAndSeven();
        meanings();
        steps();
        simplified();
        traces();
        polynomials();
        degrees();
        bits();
        gathers();
        coefficients();
        derivatives();
        wantedOperators();
        longestDerivative();
        derives();
        slopes();
        slopeBits();
        slopeFaults();
        solves();
        solutionBits();
        Bench.end("AlgebraEdgesTest");
    }

    /** Each text, the rule and the node of its first step, and what it becomes; "none" where no rule fits. */
    private static void stepped(Rankwise desk, String... textsAndSteps) {
        for (int k = 0; k < textsAndSteps.length; k += 2) {
            int tree = Bench.put(desk, textsAndSteps[k]);
            int to = desk.step(tree);
            String got = to == Rankwise.NONE ? "none" : desk.trace(0, 0) + " " + desk.trace(0,
                1) + " " + Bench.shape(desk, to);
            Bench.due("step of " + textsAndSteps[k], got, textsAndSteps[k + 1]);
            Bench.due("where it is", to, got.equals("none") ? Rankwise.NONE : tree + 1);
            Bench.due("steps", desk.trace(got.equals("none") ? 0 : 1, 0), Rankwise.NONE);
            Bench.due("audit of " + textsAndSteps[k], desk.audit(2, tree), true);
            while (desk.trees() > tree) {
                desk.undo();
            }
        }
    }

    private static void firstNode() {
        Bench.sentence("A step is done at the first node, going through the tree with operands ahead of their operators, from the left, at which one of these rules fits, by the first one that does.");
        stepped(new Rankwise(), "(1+2)*(3+4)", "1 1 (3*(3+4))", "x*(3+4)", "1 2 (x*7)", "(x+0)*1", "2 1 (x*1)",
            "(x*1)-(x*1)", "3 1 (x-(x*1))",
            "(x-x)+(1+1)", "5 1 (0+(1+1))", "--(1+1)", "1 2 (-(-2))", "---x", "6 1 (-x)", "f(x+0,1+1)",
            "2 1 f(x,(1+1))", "f(x,1+1)", "1 2 f(x,2)",
            "s(k+0,1,2,k)", "2 1 s(k,1,2,k)", "i(1,2,0*x)", "4 3 i(1,2,0)", "(1+1)!", "1 1 (2!)", "a+(b+(c+0))",
            "2 4 (a+(b+c))",
            "0+0", "1 0 0", "1*1", "1 0 1", "0*1", "1 0 0", "1-0", "1 0 1", "1-1", "1 0 0", "x*0*1", "4 1 (0*1)",
            "0*x-0*x", "4 1 (0-(0*x))",
            "1*x+1*x", "3 1 (x+(1*x))", "0*1", "1 0 0", "1^1", "1 0 1", "x^1^1", "1 2 (x^1)", "1*0", "1 0 0", "x/1-x/1",
            "3 1 (x-(x/1))");
    }

    private static void ruleOne() {
        Bench.sentence("1: an ADD, SUBTRACT, MULTIPLY, DIVIDE or POWER of two NUMBERs becomes a NUMBER, if it has a value that is whole, from 0 to 999999999.");
        stepped(new Rankwise(), "999999998+1", "1 0 999999999", "999999999+1", "none", "999999999+0", "1 0 999999999",
            "999999999+999999999", "none",
            "3-2", "1 0 1", "2-2", "1 0 0", "2-3", "none", "0-999999999", "none", "333333333*3", "1 0 999999999",
            "500000000*2", "none",
            "999999999*999999999", "none", "0*5", "1 0 0", "65536*65536", "none", "6/3", "1 0 2", "5/2", "none", "1/2",
            "none", "0/5", "1 0 0", "5/0", "none",
            "5/5", "1 0 1", "999999999/1", "1 0 999999999", "0/0", "5 0 1", "2^29", "1 0 536870912", "2^30", "none",
            "0^0", "1 0 1", "0^5", "1 0 0",
            "0^64", "1 0 0", "0^65", "none", "1^64", "1 0 1", "1^65", "none", "5^0", "1 0 1", "10^9", "none", "9^9",
            "1 0 387420489", "999999999^1",
            "1 0 999999999", "31622^2", "1 0 999950884", "31623^2", "none", "2^64", "none", "2^32", "none",
            "999999999^64", "none", "999999999^0", "1 0 1",
            "7%2", "none", "1<2", "none", "1=1", "none", "1&1", "none", "1|0", "none", "-1", "none", "~1", "none", "3!",
            "none", "2+x", "none", "x+2", "none",
            "x*2", "none", "2^x", "none", "x^2", "none", "1-x", "none");
    }

    private static void rulesTwoAndThree() {
        Bench.sentence("2: ADD of 0 on either side, and SUBTRACT of 0, become the other operand, or the left one.");
        stepped(new Rankwise(), "x+0", "2 0 x", "0+x", "2 0 x", "x-0", "2 0 x", "0-x", "none", "a*b+0", "2 0 (a*b)",
            "0+a*b", "2 0 (a*b)", "0+f(x,y)", "2 0 f(x,y)",
            "(a-b)-0", "2 0 (a-b)", "x+1", "none", "x-1", "none", "x%0", "none", "x|0", "none", "y+(0+a*b)",
            "2 2 (y+(a*b))", "0b0+x", "2 0 x");

        Bench.sentence("3: MULTIPLY by 1 on either side, DIVIDE by 1 and POWER by 1 become the other operand, or the left one.");
        stepped(new Rankwise(), "x*1", "3 0 x", "1*x", "3 0 x", "x/1", "3 0 x", "1/x", "none", "x^1", "3 0 x", "1^x",
            "none", "(a+b)*1", "3 0 (a+b)", "1*(a+b)", "3 0 (a+b)",
            "(a+b)/1", "3 0 (a+b)", "(a+b)^1", "3 0 (a+b)", "x*2", "none", "x^0", "none", "x/0", "none", "x%1", "none",
            "x&1", "none", "(1*x)*y", "3 1 (x*y)");
    }

    private static void rulesFourAndFive() {
        Bench.sentence("4: MULTIPLY by 0 on either side becomes the NUMBER 0.");
        stepped(new Rankwise(), "x*0", "4 0 0", "0*x", "4 0 0", "(a+b)*0", "4 0 0", "0*f(x,y)", "4 0 0", "0/x", "none",
            "x/0", "none", "0^x", "none", "y-0*x+z", "4 3 ((y-0)+z)");

        Bench.sentence("5: SUBTRACT of the same becomes the NUMBER 0, DIVIDE of the same the NUMBER 1.");
        stepped(new Rankwise(), "x-x", "5 0 0", "x/x", "5 0 1", "(a+b)-(a+b)", "5 0 0", "f(a,b)/f(a,b)", "5 0 1",
            "(a+b)-(b+a)", "none", "x-y", "none", "x/y", "none",
            "x+x", "none", "x*x", "none", "x%x", "none", "x=x", "none", "x^x", "none", "f(1)-f(1,2)", "none", "a!-a!",
            "5 0 0", "-a-~a", "none", "0/0", "5 0 1", "y+x/x", "5 2 (y+1)");
    }

    private static void rulesSixAndSeven() {
        Bench.sentence("6: NEGATE of NEGATE becomes the inner operand.");
        stepped(new Rankwise(), "--x", "6 0 x", "-x", "none", "-~x", "none", "~-x", "none", "~~x", "none", "--(a+b)",
            "6 0 (a+b)", "-(-x)!", "none", "y- -x", "none", "y---x", "6 2 (y-x)");

        Bench.sentence("7: ADD of two MULTIPLYs of a NUMBER (left) and the same (right) becomes the left MULTIPLY, its NUMBER being both together, if that is at most 999999999.");
        stepped(new Rankwise(), "2*x+3*x", "7 0 (5*x)", "2*x+2*x", "7 0 (4*x)", "999999997*x+2*x", "7 0 (999999999*x)",
            "999999998*x+2*x", "none", "999999999*x+999999999*x", "none",
            "2*x+3*y", "none", "x*2+3*x", "none", "2*x+x*3", "none", "x*2+x*2", "none", "2*x-3*x", "none", "2*x*(3*x)",
            "none", "2*(a-b)+3*(a-b)", "7 0 (5*(a-b))", "2*x+3", "none",
            "2*x+x", "none", "x+2*x", "none", "2*x+3/x", "none", "2/x+3*x", "none", "2+x+3*x", "none", "y*x+3*x",
            "none", "2*x+y*x", "none", "y-(2*x+3*x)", "7 2 (y-(5*x))",
            "2*x+3*x+4*x", "7 1 ((5*x)+(4*x))", "2*f(1)+2*f(1)", "7 0 (4*f(1))", "2*f(1)+2*f(2)", "none");
    }

    private static void meanings() {
        Bench.sentence("They look at meanings; \"the same\" are same trees.");
        Rankwise desk = new Rankwise();
        desk.tell('@', Rankwise.BETWEEN, 5, Rankwise.LEFT, Rankwise.MULTIPLY);
        desk.tell('#', Rankwise.BEHIND, 9, Rankwise.LEFT, Rankwise.NEGATE);
        stepped(desk, "3@4", "1 0 12", "x@1", "3 0 x", "0@x", "4 0 0", "2@x+3*x", "7 0 (5@x)", "2*x+3@x", "7 0 (5*x)",
            "-(x#)", "6 0 x", "(-x)#", "6 0 x", "x##", "6 0 x",
            "2@x-2*x", "none", "x#-(-x)", "none");
        desk.tell('+', Rankwise.BETWEEN, 4, Rankwise.LEFT, Rankwise.FUNCTION);
        desk.tell('-', Rankwise.BETWEEN, 4, Rankwise.LEFT, Rankwise.ADD);
        stepped(desk, "1+2", "none", "x+0", "none", "3-2", "1 0 5", "x-x", "none", "0-x", "2 0 x", "2*x-3*x",
            "7 0 (5*x)");
        desk.tell('-', Rankwise.BEFORE, 6, Rankwise.LEFT, Rankwise.NOT);
        stepped(desk, "--x", "none");
    }

    private static void steps() {
        Bench.sentence("Makes a tree simpler by one step, and puts that on the shelf. Returns its number; NONE, if no rule fits.");
        Rankwise desk = new Rankwise();
        Bench.put(desk, "1+1+1");
        Bench.due("step", desk.step(0), 1);
        Bench.due("it", Bench.shape(desk, 1), "(2+1)");
        Bench.due("what it was", Bench.shape(desk, 0), "((1+1)+1)");
        Bench.due("step", desk.step(1), 2);
        Bench.due("it", Bench.shape(desk, 2), "3");
        Bench.due("no step", desk.step(2), Rankwise.NONE);
        Bench.due("trees", desk.trees(), 3);
        Consumer<Rankwise> one = ready -> {
            Bench.put(ready, "x+0");
            ready.step(0);
        };
        for (int tree : new int[] {2, -1, 30, MOST, LEAST}) {
            Bench.refused("step " + tree, Bench.INDEX, one, ready -> ready.step(tree));
            Bench.refused("simplify " + tree, Bench.INDEX, one, ready -> ready.simplify(tree));
        }
        Bench.refused("step of none on a full shelf", Bench.INDEX, Bench::fill, ready -> ready.step(30));
        Bench.refused("simplify of none on a full shelf", Bench.INDEX, Bench::fill, ready -> ready.simplify(-1));
    }

    private static void simplified() {
        Bench.sentence("Makes a tree simpler, step by step until no rule fits .. Returns its number; the number of the tree itself, if no rule fits, and nothing is put there.");
        Rankwise desk = new Rankwise();
        String[] texts = {"x", "x", "1+1", "2", "1-2", "(1-2)", "2*3+4*5", "26", "0*x+y*1-0", "y", "2*x+3*x+4*x",
            "(9*x)", "x^1*1/1+0-0", "x", "----x", "x", "-----x", "(-x)",
            "x-x+(y-y)", "0", "(x+0-x)/5", "0", "f(1+1)", "f(2)", "i(1,0*x,2)", "i(1,0,2)", "x+y", "(x+y)", "x/x-1",
            "0", "0^(x-x)", "1"};
        for (int k = 0; k < texts.length; k += 2) {
            int tree = Bench.put(desk, texts[k]);
            String before = Bench.shape(desk, tree);
            int to = desk.simplify(tree);
            Bench.due("simplify of " + texts[k], Bench.shape(desk, to), texts[k + 1]);
            Bench.due("where it is", to, before.equals(texts[k + 1]) ? tree : tree + 1);
            Bench.due("trees", desk.trees(), to + 1);
            Bench.due("what it was", Bench.shape(desk, tree), before);
            Bench.due("audit", desk.audit(2, tree), true);
            while (desk.trees() > 0) {
                desk.undo();
            }
        }
        Rankwise longest = new Rankwise();
        Bench.put(longest, "0+x");
        int grown = Bench.put(longest, "0+(".repeat(9) + "0+x" + ")".repeat(9));
        for (int k = 0; k < 2; k++) {
            grown = longest.graft(grown, 'x', k == 0 ? grown : 1);
        }
        while (Bench.nodes(longest, grown) + 2 <= 80) {
            grown = longest.graft(0, 'x', grown);
        }
        Bench.due("nodes", Bench.nodes(longest, grown), 79);
        Bench.due("as many steps as 79 nodes need", Bench.shape(longest, longest.simplify(grown)), "x");
        Bench.due("the last one", longest.trace(38, 0), 2);
        Bench.due("its node", longest.trace(38, 1), 0);
        Bench.due("the first one", longest.trace(0, 1), 76);
        Bench.due("behind the last one", longest.trace(39, 1), Rankwise.NONE);
    }

    private static void traces() {
        Bench.sentence("Tells of the steps of the latest step() or simplify() that did not throw. .. by its number in the tree as it was ahead of the step .. NONE, if there was no such step.");
        Consumer<Rankwise> ready = desk -> {
            Bench.put(desk, "(x+0)*1-(2+3)*y");
            Bench.put(desk, "z");
            desk.simplify(0);
        };
        Rankwise desk = Bench.desk(ready);
        int[][] rows = {{2, 2}, {3, 1}, {1, 3}};
        for (int k = 0; k < rows.length; k++) {
            Bench.due("rule " + k, desk.trace(k, 0), rows[k][0]);
            Bench.due("node " + k, desk.trace(k, 1), rows[k][1]);
        }
        for (int place : new int[] {3, -1, MOST, LEAST, 80, 79}) {
            Bench.due("trace " + place, desk.trace(place, 0), Rankwise.NONE);
            Bench.due("trace " + place, desk.trace(place, 1), Rankwise.NONE);
        }
        Bench.outcome(desk, one -> one.simplify(9));
        Bench.outcome(desk, one -> one.step(-1));
        desk.audit(2, 0);
        desk.undo();
        desk.drop();
        Bench.due("one that throws, audit and undo leave them", desk.trace(2, 0), 1);
        Bench.due("step", desk.step(0), 2);
        Bench.due("its rule", desk.trace(0, 0), 2);
        Bench.due("there is no second one", desk.trace(1, 0), Rankwise.NONE);
        Bench.due("simplify without a rule", desk.simplify(1), 1);
        Bench.due("there is no first one", desk.trace(0, 0), Rankwise.NONE);
        desk.step(0);
        Bench.due("step without a rule", desk.step(1), Rankwise.NONE);
        Bench.due("there is no first one", desk.trace(0, 1), Rankwise.NONE);
        Rankwise full = Bench.desk(one -> {
            ready.accept(one);
            Bench.fill(one);
        });
        Bench.outcome(full, one -> one.step(0));
        Bench.outcome(full, one -> one.simplify(1));
        Bench.due("those that throw on a full shelf leave them", full.trace(2, 1), 3);

        Bench.sentence("Throws IllegalArgumentException if what is not 0 or 1");
        for (int what : new int[] {2, -1, MOST, LEAST}) {
            Bench.refused("trace 0 " + what, Bench.ARGUMENT, ready, one -> one.trace(0, what));
            Bench.refused("trace 9 " + what, Bench.ARGUMENT, ready, one -> one.trace(9, what));
        }
    }

    /** The coefficients of a text as a polynomial in x, from the highest one; none, if it is no polynomial. */
    private static String gathered(Rankwise desk, String text) {
        int tree = Bench.put(desk, text);
        int degree = desk.gather(tree, 'x');
        desk.undo();
        if (degree == Rankwise.NONE) {
            return "none";
        }
        StringBuilder told = new StringBuilder();
        for (int power = 8; power >= 0; power--) {
            boolean some = desk.coefficient(power);
            String answer = Bench.answer(desk);
            Bench.due("whether it is not 0", some, !answer.equals("0"));
            Bench.due("above the degree", power <= degree || !some, true);
            if (power <= degree) {
                told.append(answer).append(power > 0 ? " " : "");
            }
        }
        return told.toString();
    }

    private static void gathered(Rankwise desk, String... textsAndPolynomials) {
        for (int k = 0; k < textsAndPolynomials.length; k += 2) {
            Bench.due("gather of " + textsAndPolynomials[k], gathered(desk, textsAndPolynomials[k]),
                textsAndPolynomials[k + 1]);
        }
    }

    /** A desk on which a is 2 to the power 40, b 2 to the power 199, c 2 to the power 100, x 7. */
    private static Rankwise great() {
        Rankwise desk = new Rankwise();
        Bench.let(desk, 'a', "2^40");
        Bench.let(desk, 'b', "2^64*2^64*2^64*2^7");
        Bench.let(desk, 'c', "2^64*2^36");
        Bench.let(desk, 'h', "2/3");
        Bench.let(desk, 'x', "7");
        return desk;
    }

    private static void polynomials() {
        Bench.sentence("A tree is a polynomial in a name, if it is made of NUMBERs, NAMEs, and operators with the meanings ADD, SUBTRACT, NEGATE, MULTIPLY");
        Rankwise desk = great();
        gathered(desk, "7", "7", "0", "0", "x", "1 0", "-x", "-1 0", "x+x", "2 0", "x-1", "1 -1", "1-x", "-1 1", "x*x",
            "1 0 0", "(x+1)*(x-1)", "1 0 -1", "x-x", "0",
            "x*x-x*x+x", "1 0", "--x", "1 0", "-(x-x)", "0", "0*x", "0", "3*x+x*4-7", "7 -7");
        gathered(desk, "x%2", "none", "x<1", "none", "x=1", "none", "x>1", "none", "x&1", "none", "x|1", "none", "~x",
            "none", "x!", "none", "3!", "none", "~1", "none",
            "1<2", "none", "7%2", "none", "f(x)", "none", "i(1,x,x)", "none", "s(k,1,2,k)", "none", "f(1)", "none",
            "0*3!", "none", "x+f(1)", "none");
        desk.tell('@', Rankwise.BETWEEN, 5, Rankwise.LEFT, Rankwise.MULTIPLY);
        desk.tell('#', Rankwise.BEHIND, 9, Rankwise.LEFT, Rankwise.NEGATE);
        desk.tell('?', Rankwise.BETWEEN, 5, Rankwise.LEFT, Rankwise.FUNCTION);
        gathered(desk, "x@x", "1 0 0", "x#", "-1 0", "x?x", "none", "(x@2)#+1", "-2 1");

        Bench.sentence("DIVIDE by a polynomial that, gathered, is a number other than 0");
        gathered(desk, "x/2", "1/2 0", "x/0", "none", "x/(1-1)", "none", "x/(x-x)", "none", "x/(x-x+2)", "1/2 0", "1/x",
            "none", "x/x", "none", "x*x/x", "none", "0/x", "none",
            "x/h", "3/2 0", "x/(0*x+3)", "1/3 0", "(x*x-1)/-2", "-1/2 0 1/2", "0/5", "0", "x/(x^0)", "1 0", "1/0*0",
            "none");

        Bench.sentence("POWER by a NUMBER node of at most 8");
        gathered(desk, "x^0", "1", "x^1", "1 0", "x^8", "1 0 0 0 0 0 0 0 0", "x^9", "none", "1^8", "1", "1^9", "none",
            "0^8", "0", "0^0", "1", "(x-x)^0", "1", "(x-x)^8", "0",
            "2^8", "256", "2^x", "none", "x^(1+1)", "none", "x^-1", "none", "x^k", "none", "x^(2)", "1 0 0", "(x+1)^3",
            "1 3 3 1", "(x-x+2)^8", "256", "(x-x+1)^9", "none",
            "(2*x+h)^2", "4 8/3 4/9", "x^999999999", "none", "(x^2-1)^3", "1 0 -3 0 3 0 -1", "(x*x)^0", "1");

        Bench.sentence("each other name has the value that let() told, and is none without one");
        gathered(desk, "y", "none", "x*y", "none", "0*y", "none", "y^0", "none", "h*x", "2/3 0", "h", "2/3", "x+h",
            "1 2/3", "k-k", "none", "h-h", "0");
        Bench.let(desk, 'y', "5");
        gathered(desk, "x*y", "5 0", "y^2", "25");
        desk.unlet('y');
        gathered(desk, "x*y", "none");
        int tree = Bench.put(desk, "x*y+1");
        Bench.due("in y", desk.gather(tree, 'y'), 1);
        desk.coefficient(1);
        Bench.due("its coefficient", Bench.answer(desk), "7");
    }

    private static void degrees() {
        Bench.sentence("no node gives a degree above 8");
        Rankwise desk = new Rankwise();
        gathered(desk, "x^8", "1 0 0 0 0 0 0 0 0", "x^4*x^4", "1 0 0 0 0 0 0 0 0", "x^4*x^5", "none", "x^8*x", "none",
            "x^8*x-x^8*x", "none", "x^8*x*0", "none", "0*(x^8*x)", "none",
            "0*x^8*x", "0", "x*(0*x^8)", "0", "x^8*1", "1 0 0 0 0 0 0 0 0", "(x^2)^4", "1 0 0 0 0 0 0 0 0", "(x^2)^5",
            "none", "(x^4)^2", "1 0 0 0 0 0 0 0 0", "(x^3)^3", "none",
            "(x^8)^1", "1 0 0 0 0 0 0 0 0", "(x^8)^2", "none", "(x^8)^0", "1", "(x^8-x^8)^8", "0", "(x^8-x^8+x)*x^7",
            "1 0 0 0 0 0 0 0 0", "(x^8-x^8+x)*x^8", "none",
            "(x^8-x^8+x)^8", "1 0 0 0 0 0 0 0 0", "x*x*x*x*x*x*x*x", "1 0 0 0 0 0 0 0 0", "x*x*x*x*x*x*x*x*x", "none",
            "x^8+x^8", "2 0 0 0 0 0 0 0 0", "x^8/2", "1/2 0 0 0 0 0 0 0 0",
            "-x^8", "-1 0 0 0 0 0 0 0 0");

        Bench.sentence("The degree of 0 is 0.");
        int tree = Bench.put(desk, "x-x");
        Bench.due("degree of 0", desk.gather(tree, 'x'), 0);
        Bench.due("degree of x^3-x^3+x", desk.gather(Bench.put(desk, "x^3-x^3+x"), 'x'), 1);
        Bench.due("degree of 7", desk.gather(Bench.put(desk, "7"), 'x'), 0);
    }

    private static void bits() {
        Bench.sentence("or a coefficient with a numerator or denominator of more than 200 binary digits");
        Rankwise desk = great();
        gathered(desk, "b*x", P199 + " 0", "b*x+b*x", "none", "b*x+(b-1)*x", P200 + " 0", "-b*x-(b-1)*x",
            "-" + P200 + " 0", "-b*x-b*x", "none", "b*x+b*x-b*x", "none", "b+b", "none",
            "0*(b+b)", "none", "b*2-b", "none", "x/b", "1/" + P199 + " 0", "x/b/2", "none", "x/(b+(b-1))",
            "1/" + P200 + " 0", "x/b*(1/2)", "none", "(x+b)*2", "none", "(x+b-1)*2", "2 "
                + BigInteger.TWO.pow(200).subtract(BigInteger.TWO), "x*(b+b)", "none", "2*x*b", "none", "x/(1/b)",
                    P199 + " 0", "x/(1/b)/(1/2)", "none");
        BigInteger a = BigInteger.TWO.pow(40).subtract(BigInteger.ONE);
        gathered(desk, "(a*x)^5", "none", "((a-1)*x)^5", a.pow(5) + " 0 0 0 0 0", "a^5", "none", "(a-1)^5",
            a.pow(5).toString(), "(x/a)^5", "none", "(x/(a-1))^5", "1/" + a.pow(5) + " 0 0 0 0 0",
            "(x+a)^5", "none", "((c-1)*x+c-1)^2", "none", "((c/2-1)*x+c-1)^2",
            BigInteger.TWO.pow(99).subtract(BigInteger.ONE).pow(2) + " "
                + BigInteger.TWO.pow(99).subtract(BigInteger.ONE).multiply(BigInteger.TWO.pow(100).subtract(BigInteger.ONE)).shiftLeft(1) + " "
                + BigInteger.TWO.pow(100).subtract(BigInteger.ONE).pow(2), "(x*x+b*x+1)^2", "none", "(x+1/c)^2", "none",
                    "(x+2/c)^2", "1 1/" + BigInteger.TWO.pow(98) + " 1/" + BigInteger.TWO.pow(198));
    }

    private static void gathers() {
        Bench.sentence("It is the polynomial then, in place of the one before (at first 0). Returns its degree; NONE, if it is no polynomial, and the one before stays.");
        Rankwise desk = new Rankwise();
        Bench.due("at first", desk.coefficient(0), false);
        Bench.due("degree", desk.gather(Bench.put(desk, "x^2+4"), 'x'), 2);
        Bench.due("none", desk.gather(Bench.put(desk, "1/x"), 'x'), Rankwise.NONE);
        desk.coefficient(0);
        Bench.due("the one before", Bench.answer(desk), "4");
        desk.coefficient(2);
        Bench.due("the one before", Bench.answer(desk), "1");
        Bench.due("none behind a part", desk.gather(Bench.put(desk, "x+9+y"), 'x'), Rankwise.NONE);
        desk.coefficient(0);
        Bench.due("the one before", Bench.answer(desk), "4");
        Bench.due("degree", desk.gather(Bench.put(desk, "3"), 'x'), 0);
        Bench.due("in its place", desk.coefficient(2), false);
        for (char name = 'a'; name <= 'z'; name++) {
            Rankwise named = new Rankwise();
            Bench.due("degree in " + name, named.gather(Bench.put(named, name + "+1"), name), 1);
        }

        Bench.sentence("a tree has at most 80 nodes (all of them in one polynomial)");
        Rankwise wide = new Rankwise();
        int ten = Bench.put(wide, "x+(x+(x+(x+(x+(x+(x+(x+(x+(x+z)))))))))");
        int last = Bench.put(wide, "x+(x+(x+(x+(x+(x+(x+(x+x/4)))))))");
        int most = wide.graft(wide.graft(wide.graft(ten, 'z', ten), 'z', ten), 'z', last);
        Bench.due("nodes", Bench.nodes(wide, most), 79);
        Bench.due("degree", wide.gather(most, 'x'), 1);
        wide.coefficient(1);
        Bench.due("its coefficient", Bench.answer(wide), "153/4");
        gathered(wide, "1+(2+(3+(4+x/2)))", "1/2 10", "1+(2+(3+(4+-x)))", "-1 10", "1+(2+(3-(4-x*x)))", "1 0 2",
            "1+(2+(3+(x+1)^3))", "1 3 3 7",
            "1+(2+(3+(x^2-x^2+x/3)/2))", "1/6 6", "1+(2+(3+(4*(5-x))))", "-4 26");

        Bench.sentence("gather throws IndexOutOfBoundsException if there is no such tree, IllegalArgumentException if the name is out of its range");
        Consumer<Rankwise> ready = one -> {
            Bench.put(one, "x^2+4=0");
            one.gather(Bench.put(one, "x+8"), 'x');
        };
        for (int tree : new int[] {2, -1, 30, MOST, LEAST}) {
            Bench.refused("gather " + tree, Bench.INDEX, ready, one -> one.gather(tree, 'x'));
            Bench.refused("gather " + tree + " for no name", Bench.INDEX, ready, one -> one.gather(tree, 'X'));
            Bench.refused("derive " + tree, Bench.INDEX, ready, one -> one.derive(tree, 'x'));
            Bench.refused("derive " + tree + " for no name", Bench.INDEX, ready, one -> one.derive(tree, 'X'));
            Bench.refused("slope " + tree, Bench.INDEX, ready, one -> one.slope(tree, 'x'));
            Bench.refused("slope " + tree + " for no name", Bench.INDEX, ready, one -> one.slope(tree, 'X'));
            Bench.refused("solve " + tree, Bench.INDEX, ready, one -> one.solve(tree, 'x'));
            Bench.refused("solve " + tree + " for no name", Bench.INDEX, ready, one -> one.solve(tree, 'X'));
        }
        for (char name : NO_NAMES) {
            Bench.refused("gather for " + (int) name, Bench.ARGUMENT, ready, one -> one.gather(1, name));
            Bench.refused("derive for " + (int) name, Bench.ARGUMENT, ready, one -> one.derive(1, name));
            Bench.refused("derive of what has none for " + (int) name, Bench.ARGUMENT, ready, one -> one.derive(0,
                name));
            Bench.refused("slope for " + (int) name, Bench.ARGUMENT, ready, one -> one.slope(1, name));
            Bench.refused("slope of what has none for " + (int) name, Bench.ARGUMENT, ready, one -> one.slope(0, name));
            Bench.refused("solve for " + (int) name, Bench.ARGUMENT, ready, one -> one.solve(0, name));
        }
    }

    private static void coefficients() {
        Bench.sentence("0 to 8; above the degree the coefficient is 0. Returns whether it is not 0. Throws IllegalArgumentException if the power is out of its range");
        Consumer<Rankwise> ready = one -> {
            one.gather(Bench.put(one, "x^8*3-x/2"), 'x');
            Bench.value(one, "99");
        };
        Rankwise desk = Bench.desk(ready);
        String[] due = {"0", "-1/2", "0", "0", "0", "0", "0", "0", "3"};
        for (int power = 0; power <= 8; power++) {
            Bench.due("coefficient " + power, desk.coefficient(power), !due[power].equals("0"));
            Bench.due("the answer", Bench.answer(desk), due[power]);
        }
        desk.gather(Bench.put(desk, "x"), 'x');
        Bench.due("above the degree", desk.coefficient(8), false);
        Bench.due("the answer", Bench.answer(desk), "0");
        for (int power : new int[] {9, -1, MOST, LEAST}) {
            Bench.refused("coefficient " + power, Bench.ARGUMENT, ready, one -> one.coefficient(power));
        }
    }

    private static void derived(Rankwise desk, String... textsAndDerivatives) {
        for (int k = 0; k < textsAndDerivatives.length; k += 2) {
            String text = textsAndDerivatives[k];
            int tree = Bench.put(desk, text);
            String got = Bench.outcome(desk, one -> Bench.shape(one, one.derive(tree, 'x')));
            Bench.due("derivative of " + text, got, textsAndDerivatives[k + 1]);
            Bench.due("audit of " + text, desk.audit(3, tree), true);
            while (desk.trees() > tree) {
                desk.undo();
            }
        }
    }

    private static void derivatives() {
        Bench.sentence("The derivative in a name of a NUMBER or another NAME is the NUMBER 0, of the name the NUMBER 1 .. of a POWER n");
        String none = "throws." + Bench.STATE;
        Rankwise desk = new Rankwise();
        derived(desk, "7", "0", "y", "0", "x", "1", "x+y", "(1+0)", "x-x", "(1-1)", "-x", "(-1)", "-7", "(-0)", "x*y",
            "((1*y)+(x*0))", "x/y", "(((1*y)-(x*0))/(y^2))",
            "x^3", "((3*(x^2))*1)", "x^2", "((2*(x^1))*1)", "x^1", "((1*(x^0))*1)", "x^0", "0", "7^2", "((2*(7^1))*0)",
            "x^999999999", "((999999999*(x^999999998))*1)",
            "(x*x)^2", "((2*((x*x)^1))*((1*x)+(x*1)))", "(x*x)^0", "0", "-x^2", "(-((2*(x^1))*1))", "(x+1)/(x-1)",
            "((((1+0)*(x-1))-((x+1)*(1-0)))/((x-1)^2))", "(x/x)^0", "0");

        Bench.sentence("A tree with any other node, wherever it stands, has none.");
        derived(desk, "f(x)", none, "f(1)", none, "i(1,2,3)", none, "s(k,1,2,3)", none, "x%2", none, "x<1", none, "x=1",
            none, "x>1", none, "x&1", none, "x|1", none, "~x", none, "x!", none,
            "2^x", none, "x^y", none, "x^(1+1)", none, "x^-1", none, "x^f(1)", none, "7+3!", none, "y*f(1)", none,
            "(3!)^0", none, "(x%2)^0", none, "(2^x)^0", none, "x^2^2", none, "(x^2)^2",
            "((2*((x^2)^1))*((2*(x^1))*1))");
    }

    private static void wantedOperators() {
        String none = "throws." + Bench.STATE;
        Bench.sentence("The operator that is differentiated is used on where its meaning is wanted");
        Rankwise desk = new Rankwise();
        desk.tell('@', Rankwise.BETWEEN, 5, Rankwise.LEFT, Rankwise.MULTIPLY);
        desk.tell('?', Rankwise.BETWEEN, 4, Rankwise.LEFT, Rankwise.ADD);
        desk.tell('~', Rankwise.BEHIND, 9, Rankwise.LEFT, Rankwise.NEGATE);
        desk.tell('#', Rankwise.BETWEEN, 7, Rankwise.RIGHT, Rankwise.POWER);
        desk.tell('>', Rankwise.BETWEEN, 4, Rankwise.LEFT, Rankwise.SUBTRACT);
        desk.tell('=', Rankwise.BETWEEN, 5, Rankwise.LEFT, Rankwise.DIVIDE);
        derived(desk, "x@y", "((1@y)+(x@0))", "x*y", "((1*y)+(x*0))", "x?y", "(1?0)", "x>y", "(1>0)", "x~", "(1~)",
            "x#3", "((3*(x#2))*1)", "x^3", "((3*(x^2))*1)",
            "x=y", "(((1*y)-(x*0))=(y#2))", "x/y", "(((1*y)-(x*0))/(y#2))");

        Bench.sentence("for other meanings the operator BETWEEN with the least sign, by its character's number, that has the meaning");
        desk.tell('!', Rankwise.BEFORE, 5, Rankwise.LEFT, Rankwise.NEGATE);
        desk.tell('%', Rankwise.BETWEEN, 5, Rankwise.LEFT, Rankwise.MULTIPLY);
        desk.tell('&', Rankwise.BETWEEN, 4, Rankwise.LEFT, Rankwise.ADD);
        derived(desk, "x@y", "((1@y)&(x@0))", "x#3", "((3%(x#2))%1)", "x/y", "(((1%y)-(x%0))/(y#2))");
        desk.tell('*', Rankwise.BETWEEN, 4, Rankwise.LEFT, Rankwise.SUBTRACT);
        derived(desk, "x/y", "(((1%y)*(x%0))/(y#2))");
        Rankwise ends = new Rankwise();
        ends.tell('*', Rankwise.BETWEEN, 5, Rankwise.LEFT, Rankwise.ADD);
        ends.tell('~', Rankwise.BETWEEN, 5, Rankwise.LEFT, Rankwise.MULTIPLY);
        derived(ends, "x^2", "((2~(x^1))~1)", "x~y", "((1~y)*(x~0))");
        ends.tell('!', Rankwise.BEFORE, 5, Rankwise.LEFT, Rankwise.FUNCTION);
        ends.tell('|', Rankwise.BETWEEN, 5, Rankwise.LEFT, Rankwise.MULTIPLY);
        derived(ends, "x^2", "((2|(x^1))|1)");

        Rankwise low = new Rankwise();
        low.tell('*', Rankwise.BETWEEN, 1, Rankwise.LEFT, Rankwise.MULTIPLY);
        low.tell('+', Rankwise.BETWEEN, 9, Rankwise.LEFT, Rankwise.ADD);
        derived(low, "x^2", "((2*(x^1))*1)", "x*y", "((1*y)+(x*0))");

        Bench.sentence("without one there is no derivative");
        Rankwise few = new Rankwise();
        few.tell('*', Rankwise.BETWEEN, 5, Rankwise.LEFT, Rankwise.REMAINDER);
        derived(few, "x^2", none, "x/y", none, "x^0", "0", "(x/y)^0", "0", "x+y", "(1+0)");
        few.tell('#', Rankwise.BETWEEN, 5, Rankwise.LEFT, Rankwise.MULTIPLY);
        few.tell('+', Rankwise.BETWEEN, 4, Rankwise.LEFT, Rankwise.OR);
        derived(few, "x#y", none, "x^2", "((2#(x^1))#1)", "x/y", "(((1#y)-(x#0))/(y^2))", "(x#y)^0", "0");
        few.tell('-', Rankwise.BETWEEN, 4, Rankwise.LEFT, Rankwise.OR);
        derived(few, "x/y", none, "x^2", "((2#(x^1))#1)", "-x", "(-1)");
        few.undo();
        few.tell('^', Rankwise.BETWEEN, 7, Rankwise.RIGHT, Rankwise.OR);
        derived(few, "x/y", none, "(x-y)#1", none, "x-y", "(1-0)");
    }

    private static void longestDerivative() {
        Bench.sentence("it would have more than 80 nodes");
        String big = "((x*x)*(x*x))*((x*x)*(x*x))+x^2";
        for (int more = 9; more <= 11; more++) {
            int minus = more;
            Consumer<Rankwise> ready = desk -> {
                Bench.put(desk, big);
                Bench.put(desk, "-".repeat(minus) + "x");
                desk.graft(1, 'x', 0);
            };
            if (more == 9) {
                Rankwise desk = Bench.desk(ready);
                Bench.due("derivative", desk.derive(2, 'x'), 3);
                Bench.due("its nodes", Bench.nodes(desk, 3), 80);
                Bench.due("audit", desk.audit(3, 2), true);
                Bench.let(desk, 'x', "2/3");
                Bench.due("audit with a value", desk.audit(3, 2), true);
            } else {
                Bench.refused("derivative of " + (71 + more) + " nodes", Bench.STATE, ready, desk -> desk.derive(2,
                    'x'));
                Bench.due("audit", Bench.desk(ready).audit(3, 2), true);
            }
        }
    }

    private static void derives() {
        Bench.sentence("Puts the derivative of a tree on the shelf. Returns its number. Throws IllegalStateException if there is no derivative, .. or the shelf is full");
        Rankwise desk = new Rankwise();
        Bench.put(desk, "x*y");
        Bench.due("derive", desk.derive(0, 'x'), 1);
        Bench.due("derive", desk.derive(0, 'y'), 2);
        Bench.due("in y", Bench.shape(desk, 2), "((0*y)+(x*1))");
        Bench.due("derive", Bench.shape(desk, desk.derive(0, 'z')), "((0*y)+(x*0))");
        Consumer<Rankwise> ready = one -> {
            Bench.put(one, "2^x");
            Bench.put(one, "x*f(1)");
        };
        Bench.refused("no derivative", Bench.STATE, ready, one -> one.derive(0, 'x'));
        Bench.refused("no derivative", Bench.STATE, ready, one -> one.derive(1, 'y'));
        Bench.refused("full shelf", Bench.STATE, Bench::fill, one -> one.derive(0, 'x'));
        Bench.refused("full shelf, no name", Bench.ARGUMENT, Bench::fill, one -> one.derive(0, 'X'));
        Bench.refused("full shelf, no tree", Bench.INDEX, Bench::fill, one -> one.derive(30, 'X'));
    }

    private static void sloped(Rankwise desk, String... textsAndSlopes) {
        for (int k = 0; k < textsAndSlopes.length; k += 2) {
            String text = textsAndSlopes[k];
            int tree = Bench.put(desk, text);
            String got = Bench.outcome(desk, one -> {
                int fault = one.slope(tree, 'x');
                return fault == 0 ? Bench.answer(one) : "fault " + fault;
            });
            Bench.due("slope of " + text, got, textsAndSlopes[k + 1]);
            Bench.due("audit of " + text, desk.audit(3, tree), true);
            desk.undo();
        }
    }

    private static void slopes() {
        Bench.sentence("a NUMBER and another NAME have the part 0, the name its value and the part 1 .. of a POWER n: 0 if n is 0, else n times a to the power n less 1 times a'");
        Rankwise desk = new Rankwise();
        Bench.let(desk, 'x', "2/3");
        Bench.let(desk, 'y', "5");
        Bench.let(desk, 'o', "0");
        sloped(desk, "7", "0", "y", "0", "x", "1", "x+y", "1", "x-x", "0", "y-x", "-1", "-x", "-1", "x*y", "5", "x*x",
            "4/3", "x/y", "1/5", "y/x", "-45/4", "x^0", "0", "x^1", "1", "x^2", "4/3",
            "x^3", "4/3", "x^64", "" + new Fraction(64, 63).text(), "(x-x)^1", "0", "(x-2/3)^1", "1", "(x-2/3)^2", "0",
            "(x-2/3)^0", "0", "o^0", "0", "(x*o)^0", "0", "(x+y)^2", "34/3",
            "(x*y)/(x+y)", "225/289", "x/2/2", "1/4", "0*x", "0", "y^2", "0", "1/(x*x)", "-27/4");
        Bench.let(desk, 'x', "0");
        sloped(desk, "x", "1", "x^1", "1", "x^2", "0", "x^0", "0", "x*x", "0", "x/5", "1/5", "5/x", "fault 1",
            "(x+1)^5", "5", "1/(x+1)", "-1");
    }

    /** 64 times 2/3 to the power 63, as the desk prints it. */
    private static final class Fraction {
        private final BigInteger top;
        private final BigInteger bottom;

        Fraction(int factor, int power) {
            top = BigInteger.valueOf(factor).multiply(BigInteger.TWO.pow(power));
            bottom = BigInteger.valueOf(3).pow(power);
        }

        String text() {
            return top + "/" + bottom;
        }
    }

    private static void slopeBits() {
        Bench.sentence("There is TOO_GREAT, too, if a part has more than 200 binary digits.");
        Rankwise desk = great();
        Bench.let(desk, 'x', "0");
        sloped(desk, "x*b", P199, "x*b+x*b", "fault 3", "x*b+x*(b-1)", P200, "x*b-x*b", "0", "-(x*b)-x*b", "fault 3",
            "-(x*b)-x*(b-1)", "-" + P200, "x*b*2", "fault 3", "x*(b-1)*2",
            BigInteger.TWO.pow(200).subtract(BigInteger.TWO).toString(), "x*b/(1/2)", "fault 3", "x/b", "1/" + P199,
                "x/b/2", "fault 3", "x/b+x/(b-1)", "fault 3", "(1+b*x)^1", P199, "(1+b*x)^2", "fault 3",
            "(1+b/2*x)^2", P199, "(1+(b-1)*x)^2", BigInteger.TWO.pow(200).subtract(BigInteger.TWO).toString(),
            "(1+x/b)^1", "1/" + P199, "(1+b*x)^0", "0", "(x*b)^2", "0",
            "x*b*(x*b)", "0", "1/(1+b*x)", "-" + P199, "1/(1/2+b*x)", "fault 3", "(x*b+x*b)*0", "fault 3",
            "(x*b+x*b)^0", "fault 3", "-(x*b+x*(b-1))", "-" + P200);
    }

    private static void slopeFaults() {
        Bench.sentence("the values are reckoned as told");
        Rankwise desk = great();
        sloped(desk, "z", "fault 4", "x*z", "fault 4", "z^0", "fault 4", "x/0", "fault 1", "x/(x-x)", "fault 1", "x^65",
            "fault 3", "x^64", "" + BigInteger.valueOf(7).pow(63).multiply(BigInteger.valueOf(64)),
            "b+b", "fault 3", "(b+b)*x", "fault 3", "1/0+z", "fault 1", "z+1/0", "fault 4", "b*2+1/0", "fault 3",
            "0^65", "fault 3");
        desk.unlet('x');
        sloped(desk, "x", "fault 4", "7", "0", "a", "0", "x^0", "fault 4", "0*x", "fault 4");

        Rankwise often = new Rankwise();
        Bench.let(often, 'x', "1");
        int sixty = Bench.put(often, "x" + "*x".repeat(29));
        for (int turn = 0; turn < 10; turn++) {
            Bench.due("slope again", often.slope(sixty, 'x'), 0);
            Bench.due("the answer", Bench.answer(often), "30");
        }

        Bench.sentence("The part of e is the answer then; with a fault the answer stays. Returns its fault, 0 for none.");
        Bench.value(desk, "99");
        Bench.put(desk, "x*x");
        int tree = desk.trees() - 1;
        Bench.due("slope", desk.slope(tree, 'x'), Rankwise.NO_VALUE);
        Bench.due("the answer", Bench.answer(desk), "99");
        Bench.let(desk, 'x', "4");
        Bench.due("slope", desk.slope(tree, 'x'), 0);
        Bench.due("the answer", Bench.answer(desk), "8");
        Bench.due("slope in another", desk.slope(tree, 'a'), 0);
        Bench.due("the answer", Bench.answer(desk), "0");

        Bench.sentence("Throws IllegalStateException if the tree has a node of which no derivative is told (whether the operators that are wanted for it are there, or not)");
        for (String text : new String[] {"f(x)", "i(1,2,3)", "s(k,1,2,k)", "x%2", "x<1", "x=1", "x>1", "x&1", "x|1",
            "~x", "x!", "2^x", "x^(1+1)", "x^-1", "(x!)^0", "1/0+x!", "z+x!", "x^y"}) {
            Consumer<Rankwise> ready = one -> {
                Bench.let(one, 'x', "3");
                Bench.put(one, text);
            };
            Bench.refused("slope of " + text, Bench.STATE, ready, one -> one.slope(1, 'x'));
        }
        Rankwise few = new Rankwise();
        Bench.let(few, 'x', "3");
        few.tell('+', Rankwise.BETWEEN, 4, Rankwise.LEFT, Rankwise.OR);
        sloped(few, "x*x", "6", "x/2", "1/2", "x^2", "6");
        few.tell('*', Rankwise.BETWEEN, 5, Rankwise.LEFT, Rankwise.REMAINDER);
        few.tell('-', Rankwise.BETWEEN, 4, Rankwise.LEFT, Rankwise.OR);
        sloped(few, "x/2", "1/2", "x^2", "6", "x*x", "throws." + Bench.STATE);
        few.tell('^', Rankwise.BETWEEN, 7, Rankwise.RIGHT, Rankwise.FUNCTION);
        sloped(few, "x/2", "1/2", "x^2", "throws." + Bench.STATE);
        few.tell('?', Rankwise.BETWEEN, 9, Rankwise.RIGHT, Rankwise.MULTIPLY);
        sloped(few, "x?x", "6");
    }

    private static void solved(Rankwise desk, String... textsAndSolutions) {
        for (int k = 0; k < textsAndSolutions.length; k += 2) {
            int tree = Bench.put(desk, textsAndSolutions[k]);
            Bench.value(desk, "99");
            int found = desk.solve(tree, 'x');
            String want = textsAndSolutions[k + 1];
            String got = found == Rankwise.NO_SOLUTION ? "no" : found == Rankwise.ALL_SOLVE ? "all" : found == Rankwise.NONE ? "none" : Bench.answer(desk);
            Bench.due("solution of " + textsAndSolutions[k], got, want);
            Bench.due("one solution", found == Rankwise.ONE_SOLUTION,
                !(want.equals("no") || want.equals("all") || want.equals("none")));
            if (found != Rankwise.ONE_SOLUTION) {
                Bench.due("the answer stays", Bench.answer(desk), "99");
            }
            desk.undo();
        }
    }

    private static void solves() {
        Bench.sentence("a tree whose first node is an operator with the meaning EQUAL, both sides being polynomials in the name of a degree of at most 1");
        Rankwise desk = great();
        solved(desk, "x=3", "3", "3=x", "3", "x=0", "0", "2*x=1", "1/2", "x+1=2*x-3", "4", "3*x+1=x/2-4", "-2", "-x=7",
            "-7", "x/3=2", "6", "h*x=1", "3/2", "x=x", "all", "1=1", "all", "x-x=0", "all",
            "x=x+1", "no", "1=2", "no", "0*x=1", "no", "2*x+1=x+x", "no", "x*x-x*x+x=7", "7", "x^2-x^2=x", "0", "x^1=5",
            "5", "(x+1)^1=5", "4", "x^0=1", "all");
        solved(desk, "x", "none", "7", "none", "x<1", "none", "x-1", "none", "(x=1)+1", "none", "~(x=1)", "none",
            "x*x=1", "none", "1=x*x", "none", "x*x=x*x", "none", "x^2=0", "none", "1/x=1", "none",
            "x=1/x", "none", "x=1/0", "none", "y*x=1", "none", "x=y", "none", "x=3!", "none", "f(x)=1", "none",
            "x=(1=1)", "none", "(x=1)=(x=1)", "none", "f(x=1)", "none", "1=0*y", "none");
        desk.tell('#', Rankwise.BETWEEN, 3, Rankwise.NEITHER, Rankwise.EQUAL);
        desk.tell('<', Rankwise.BETWEEN, 3, Rankwise.NEITHER, Rankwise.EQUAL);
        desk.tell('=', Rankwise.BETWEEN, 3, Rankwise.NEITHER, Rankwise.LESS);
        solved(desk, "x#3", "3", "x<3", "3", "x=3", "none", "x#x", "all");

        Bench.sentence("Solves an equation for a name (others have the value that let() told)");
        Rankwise other = new Rankwise();
        int tree = Bench.put(other, "2*x=y");
        Bench.due("x without y", other.solve(tree, 'x'), Rankwise.NONE);
        Bench.let(other, 'y', "5");
        Bench.due("x", other.solve(tree, 'x'), Rankwise.ONE_SOLUTION);
        Bench.due("the answer", Bench.answer(other), "5/2");
        Bench.due("y without x", other.solve(tree, 'y'), Rankwise.NONE);
        Bench.due("z without x", other.solve(tree, 'z'), Rankwise.NONE);
        Bench.let(other, 'x', "4");
        Bench.due("y", other.solve(tree, 'y'), Rankwise.ONE_SOLUTION);
        Bench.due("the answer", Bench.answer(other), "8");
        Bench.due("z, in neither side", other.solve(tree, 'z'), Rankwise.NO_SOLUTION);
        Bench.due("the name has its value still", Bench.value(other, "x"), "4");
        other.gather(Bench.put(other, "x+3"), 'x');
        other.solve(tree, 'x');
        other.coefficient(0);
        Bench.due("the polynomial stays", Bench.answer(other), "3");
    }

    private static void solutionBits() {
        Bench.sentence("NONE, if .. the solution has a numerator or denominator of more than 200 binary digits.");
        Rankwise desk = great();
        solved(desk, "x=b", P199, "x=b-1+b", P200, "x-b=b-1", P200, "x-b=b", "none", "x+b=-b", "none", "x+b-1=-b",
            "-" + P200, "b*x=1", "1/" + P199, "b*x+1=-b*x", "none", "b*x+1=-(b-1)*x", "-1/" + P200,
            "b*x=2", "1/" + BigInteger.TWO.pow(198), "b*x=1/2", "none", "x/b=2", "none", "x/b=1", P199, "b*x-b=-b*x",
            "1/2", "b*x-b=b*x+b", "no", "b*x-b=b*x-b", "all", "x=b+b", "none", "x+b=b-1", "-1",
            "x/b=x/(b-1)+1", "none", "x/(b-1)=1/b", "" + BigInteger.TWO.pow(199).subtract(BigInteger.ONE) + "/" + P199);
    }
}
