import java.math.BigInteger;
import java.util.function.Consumer;

/** The edges of reckoning: values, faults, names, sums and functions by cases, sentence by sentence. */
public final class ReckoningEdgesTest {
    private static final int MOST = Integer.MAX_VALUE;
    private static final int LEAST = Integer.MIN_VALUE;
    /** The greatest whole number with 200 binary digits. */
    private static final BigInteger GREATEST = BigInteger.TWO.pow(200).subtract(BigInteger.ONE);
    private static final String P200 = GREATEST.toString();
    /** A text that counts 198 nodes. */
    private static final String COUNTS_198 = "s(k,1,13,k+k+k+k+k+k+k+k)";

    public static void main(String[] args) {
        lowestTerms();
        truths();
        order();
        tooLong();
        tooLongInFunctions();
        noValue();
        notWhole();
        byZero();
        powers();
        factorials();
        bits();
        firstOfFaults();
        remainders();
        noFunction();
        parameters();
        tooDeep();
        deepOrNone();
        cases();
        operatorFunctions();
        choices();
        sums();
        sumFaults();
        sumNames();
        evaluates();
        faultsAgain();
        deepest();
        reckons();
        answers();
        lets();
        defines();
        addCases();
        Bench.end("ReckoningEdgesTest");
    }

    /** A desk on which a is 2 to the power 40 and b is 2 to the power 199. */
    private static Rankwise great() {
        Rankwise desk = new Rankwise();
        Bench.let(desk, 'a', "2^40");
        Bench.let(desk, 'b', "2^64*2^64*2^64*2^7");
        return desk;
    }

    private static void lowestTerms() {
        Bench.sentence("A value is a fraction of whole numbers, in lowest terms, the denominator above 0");
        Bench.values(new Rankwise(), "2/4", "1/2", "2/-4", "-1/2", "-2/-4", "1/2", "0/5", "0", "0/-5", "0", "-0", "0",
            "6/3", "2",
            "1/3+1/6", "1/2", "1/2-1/2", "0", "2/3*3/2", "1", "(2/3)/(4/3)", "1/2", "(-2/3)^-3", "-27/8", "(-1)^-1",
            "-1",
            "(1/2)^-2", "4", "-(1/-3)", "1/3", "999999999/999999999", "1", "999999999+999999999", "1999999998");
        Bench.values(great(), "b/3*(3/b)", "1", "(b-1)/b-1+1/b", "0", "(b/a)*(a/b)", "1", "b/(b/2)", "2");
    }

    private static void truths() {
        Bench.sentence("truths are 1 and 0, and all that is not 0 is true");
        Bench.values(new Rankwise(), "1&1", "1", "2&3", "1", "-1&1/2", "1", "0&1", "0", "1&0", "0", "0&0", "0", "0|0",
            "0", "0|-1", "1",
            "1/9|0", "1", "5|7", "1", "~0", "1", "~1", "0", "~2", "0", "~-1", "0", "~(1/2)", "0", "i(-1/2,3,4)", "3",
            "i(0,3,4)", "4",
            "i(1-1,3,4)", "4");

        Bench.sentence("LESS, EQUAL, GREATER, AND, OR, NOT give 1 or 0.");
        Bench.values(new Rankwise(), "1<2", "1", "2<2", "0", "3<2", "0", "1=2", "0", "2=2", "1", "2>1", "1", "2>2", "0",
            "1>2", "0",
            "1/3<1/2", "1", "1/2<1/3", "0", "1/2=2/4", "1", "-1<0", "1", "-2<-1", "1", "-1>-2", "1", "0=-0", "1",
            "1/2>1/3", "1",
            "-1/2<1/3", "1", "(1<2)<3", "1");
        Bench.values(great(), "b<b-1", "0", "b-1<b", "1", "1/b<1/(b-1)", "1", "1/(b-1)<1/b", "0", "b=b", "1", "-b<b",
            "1",
            "b/(b-1)>(b-1)/b", "1");
    }

    private static void order() {
        Bench.sentence("reckons its operands or arguments from the left, always all .. The first fault that is met is the tree's");
        Rankwise desk = new Rankwise();
        Bench.values(desk, "x+1/0", "fault 4", "1/0+x", "fault 1", "0&x", "fault 4", "1|x", "fault 4", "0*x", "fault 4",
            "f(1/0)", "fault 1",
            "f(1,x,1/0)", "fault 4", "f(1,1/0,x)", "fault 1", "x/0", "fault 4", "(1/2)!+1/0", "fault 2", "1/0+(1/2)!",
            "fault 1",
            "x^65", "fault 4", "1%0^-1", "fault 1");
    }

    private static void tooLong() {
        Bench.sentence("TOO_LONG: more than 200 nodes would be counted.");
        Rankwise desk = new Rankwise();
        Bench.values(desk, COUNTS_198 + "+1", "729", "-" + COUNTS_198 + "+1", "fault 9", COUNTS_198 + "+1+1", "fault 9",
            "--" + COUNTS_198, "728", "---" + COUNTS_198, "fault 9");

        Bench.sentence("then it is counted, then it gives its value (the fault of a 201st node is TOO_LONG)");
        Bench.values(desk, COUNTS_198 + "+x", "fault 4", COUNTS_198 + "+1+x", "fault 9", "-" + COUNTS_198 + "/0",
            "fault 9",
            COUNTS_198 + "/0", "fault 1", COUNTS_198 + "+s(1)", "fault 5", COUNTS_198 + "+1+s(1)", "fault 9",
                COUNTS_198 + "+i(1)", "fault 5",
            COUNTS_198 + "+1+i(1)", "fault 9", "f(" + COUNTS_198 + ",1)", "fault 5", "f(" + COUNTS_198 + ",1,1)",
                "fault 9",
            COUNTS_198 + "+s(1,1,1,1)", "fault 10", COUNTS_198 + "+1+s(1,1,1,1)", "fault 9");

        Bench.sentence("A call of i or s is counted first. (and the NAME of a sum and what i does not reckon are not)");
        Bench.values(desk, "i(1," + COUNTS_198 + ",x*x*x)", "728", "-i(1," + COUNTS_198 + ",x)", "fault 9",
            "i(0,x*x*x," + COUNTS_198 + ")", "728",
            "-i(0,x," + COUNTS_198 + ")", "fault 9", "s(k,1,0,x)+" + "-" + "s(k,1,13,k+k+k+k+k+k+k)", "-637");
        Bench.values(desk, "s(k,1,28,k+k+k+k)", "1624", "-s(k,1,28,k+k+k+k)", "-1624", "--s(k,1,28,k+k+k+k)",
            "fault 9");
    }

    private static void tooLongInFunctions() {
        Bench.sentence("TOO_LONG (the conditions and values of functions are counted, too)");
        Rankwise desk = new Rankwise();
        desk.define('f', 1);
        Bench.addCase(desk, 'f', "x<50", "x");
        String ones = "+1".repeat(14);
        Bench.values(desk, "-s(k,1,28,f(k))" + ones, "-392", "--s(k,1,28,f(k))" + ones, "fault 9");
        Bench.addCase(desk, 'f', "x>49", "x");
        Bench.values(desk, "s(k,1,21,f(k))+1+1+1+1", "235", "-s(k,1,21,f(k))+1+1+1+1", "fault 9");
        desk.define('g', 1);
        Bench.addCase(desk, 'g', "", "x+x+x+x+x+x+x+x+x+x+x+x+x+x+x");
        int just = Bench.put(desk, "-(g(1)+g(1)+g(1)+g(1)+g(1)+g(1)+1+1+1+1)");
        int more = Bench.put(desk, "--(g(1)+g(1)+g(1)+g(1)+g(1)+g(1)+1+1+1+1)");
        Bench.due("evaluate 200 nodes", desk.evaluate(just), 0);
        Bench.due("reckon 200 nodes", desk.reckon(just), 0);
        Bench.due("evaluate 201 nodes", desk.evaluate(more), Rankwise.TOO_LONG);
        Bench.due("reckon 201 nodes", desk.reckon(more), Rankwise.TOO_LONG);
        Bench.due("let of 201 nodes", desk.let('a', more), Rankwise.TOO_LONG);
        Bench.due("the answer stays", Bench.answer(desk), "-94");
    }

    private static void noValue() {
        Bench.sentence("NO_VALUE: a name has no value.");
        Rankwise desk = new Rankwise();
        for (char name = 'a'; name <= 'z'; name++) {
            Bench.values(desk, "" + name, "fault 4");
            Bench.let(desk, name, "7");
            Bench.values(desk, "" + name, "7");
            desk.unlet(name);
            Bench.values(desk, "" + name, "fault 4");
        }
        Bench.let(desk, 'x', "0");
        Bench.values(desk, "x", "0", "y", "fault 4", "w", "fault 4");
    }

    private static void notWhole() {
        Bench.sentence("NOT_WHOLE: an operand of REMAINDER, the right one of POWER, or that of FACTORIAL is no whole number, or that of FACTORIAL is below 0");
        Bench.values(new Rankwise(), "1/2%2", "fault 2", "(1/2)%2", "fault 2", "2%(1/2)", "fault 2", "(1/2)%(1/2)",
            "fault 2", "4/2%2", "0",
            "2%(4/2)", "0", "2^(1/2)", "fault 2", "2^(4/2)", "4", "(1/2)^2", "1/4", "(1/2)!", "fault 2", "(-1/2)!",
            "fault 2",
            "(4/2)!", "2", "(-1)!", "fault 2", "(-30)!", "fault 2", "0!", "1", "2^-(1/2)", "fault 2");
    }

    private static void byZero() {
        Bench.sentence("BY_ZERO: DIVIDE or REMAINDER by 0, POWER of 0 by less than 0.");
        Bench.values(new Rankwise(), "1/0", "fault 1", "0/0", "fault 1", "1/(1-1)", "fault 1", "1%0", "fault 1", "0%0",
            "fault 1", "0/1", "0",
            "0%1", "0", "0^-1", "fault 1", "0^-64", "fault 1", "0^1", "0", "0^64", "0", "1/(1/9)", "9");

        Bench.sentence("0 to the POWER 0 is 1.");
        Bench.values(new Rankwise(), "0^0", "1", "(1-1)^(2-2)", "1", "5^0", "1", "(-1/2)^0", "1");
    }

    private static void powers() {
        Bench.sentence("TOO_GREAT: POWER by more than 64 or less than -64");
        Bench.values(new Rankwise(), "1^64", "1", "1^65", "fault 3", "1^-64", "1", "1^-65", "fault 3", "0^65",
            "fault 3", "(-1)^63", "-1",
            "(-1)^64", "1", "(-1)^65", "fault 3", "2^64", "18446744073709551616", "2^-64", "1/18446744073709551616",
            "2^65", "fault 3",
            "2^-65", "fault 3", "1^999999999", "fault 3", "1^-999999999", "fault 3", "1^(2^62)", "fault 3", "1^-(2^62)",
            "fault 3",
            "1^(2^32)", "fault 3", "1^(2^60)", "fault 3", "1^(2^30+1)", "fault 3", "(1/2)^64*2^64", "1");
        Bench.values(great(), "1^b", "fault 3", "1^-b", "fault 3", "0^b", "fault 3");
    }

    private static void factorials() {
        Bench.sentence("TOO_GREAT: FACTORIAL of more than 30");
        Bench.values(new Rankwise(), "0!", "1", "1!", "1", "2!", "2", "5!", "120", "29!",
            "8841761993739701954543616000000", "30!",
            "265252859812191058636308480000000", "31!", "fault 3", "999999999!", "fault 3", "(2^32)!", "fault 3",
            "(2^60)!", "fault 3",
            "3!!", "720", "5!!", "fault 3");
    }

    private static void bits() {
        Bench.sentence("a numerator or denominator with more than 200 binary digits, without its sign, that an operator or a sum gives");
        Rankwise desk = great();
        Bench.values(desk, "b-1+b", P200, "b+b", "fault 3", "b+(b-1)", P200, "0-b-b", "fault 3", "1-b-b", "-" + P200,
            "b-(0-b)", "fault 3",
            "b-1-(0-b)", P200, "b*2", "fault 3", "(b-1)*2+1", P200, "2*-b", "fault 3", "-2*(b-1)-1", "-" + P200,
            "b/(1/2)", "fault 3",
            "(b-1)/(1/2)+1", P200, "(b-1+b)/1", P200, "-(b-1+b)", "-" + P200, "--(b-1+b)", P200);
        Bench.values(desk, "1/(b-1+b)", "1/" + P200, "1/b/2", "fault 3", "1/b*(1/2)", "fault 3", "-1/b/2", "fault 3",
            "1/(b-1)+1/b", "fault 3",
            "1/(b-1)-1/b", "fault 3", "1/b+1/b-2/b", "0", "-1/(b-1+b)", "-1/" + P200, "3/b*5",
            "15/" + GREATEST.add(BigInteger.ONE).shiftRight(1),
            "3/b/3*2-1/(b/2)", "0", "(b-1+b)/(b-1+b)", "1", "b/(b-1+b)-b/(b-1+b)", "0");
        BigInteger a = BigInteger.TWO.pow(40).subtract(BigInteger.ONE);
        Bench.values(desk, "a^5", "fault 3", "(a-1)^5", a.pow(5).toString(), "a^-5", "fault 3", "(a-1)^-5",
            "1/" + a.pow(5), "(-a)^5", "fault 3",
            "(1-a)^5", "-" + a.pow(5), "(1/a)^5", "fault 3", "(1/a)^-5", "fault 3", "(1/(a-1))^5", "1/" + a.pow(5),
            "8^64", "" + BigInteger.TWO.pow(192),
            "9^63", BigInteger.valueOf(9).pow(63).toString(), "9^64", "fault 3", "(3/9)^64*3^64", "1");
        Bench.values(desk, "(b-1+b)%b", "" + BigInteger.TWO.pow(199).subtract(BigInteger.ONE), "-1%(b-1+b)",
            "" + GREATEST.subtract(BigInteger.ONE),
            "(b-1+b)=(b-1+b)", "1", "(b-1+b)&1", "1", "~(b-1+b)", "0");

        Bench.sentence("(TOO_GREAT, too, each time something is added)");
        Bench.values(desk, "s(k,1,2,b)", "fault 3", "s(k,1,2,b-k+1)", P200, "s(k,1,2,k-b-1)", "-" + P200,
            "s(k,1,2,0-b)", "fault 3",
            "s(k,1,3,i(k<3,b,0-b))", "fault 3", "s(k,1,3,i(k=2,0-b,b))=b", "1", "s(k,0,1,1/(b-k))", "fault 3",
            "s(k,1,1,b-1+b)", P200);
    }

    private static void firstOfFaults() {
        Bench.sentence("Of NOT_WHOLE, BY_ZERO and TOO_GREAT, where several are there at one node, the first in this order.");
        Bench.values(great(), "(1/2)%0", "fault 2", "0^-65", "fault 1", "0^-b", "fault 1", "0^-(1/2)", "fault 2",
            "0^-(131/2)", "fault 2",
            "2^(131/2)", "fault 2", "(63/2)!", "fault 2", "(0-31)!", "fault 2", "(-b)!", "fault 2", "(b/(b-1))!",
            "fault 2", "1^(b/(b-1))", "fault 2",
            "b^-65", "fault 3", "b^2", "fault 3");
    }

    private static void remainders() {
        Bench.sentence("REMAINDER is the least number from 0 on that is the left operand less a multiple of the right one.");
        Rankwise desk = great();
        for (int a = -7; a <= 7; a++) {
            for (int b = -4; b <= 4; b++) {
                String text = "(" + a + ")%(" + b + ")";
                Bench.values(desk, text, b == 0 ? "fault 1" : "" + Math.floorMod(a, Math.abs(b)));
            }
        }
        Bench.values(desk, "b%a", "0", "-1%b", "" + BigInteger.TWO.pow(199).subtract(BigInteger.ONE), "(b+5)%-b", "5",
            "-b%b", "0", "5%b", "5",
            "(b-1)%(a-1)",
            "" + BigInteger.TWO.pow(199).subtract(BigInteger.ONE).mod(BigInteger.TWO.pow(40).subtract(BigInteger.ONE)));
    }

    private static void noFunction() {
        Bench.sentence("NO_FUNCTION: there is no function with that name, or it has another number of parameters.");
        for (int parameters = 1; parameters <= 3; parameters++) {
            Rankwise desk = new Rankwise();
            Bench.values(desk, "f(1)", "fault 5", "f(1,2)", "fault 5", "f(1,2,3)", "fault 5", "f(1,2,3,4)", "fault 5");
            desk.define('f', parameters);
            Bench.addCase(desk, 'f', "", "8");
            for (int arguments = 1; arguments <= 4; arguments++) {
                Bench.values(desk, "f(1" + ",1".repeat(arguments - 1) + ")", arguments == parameters ? "8" : "fault 5");
            }
            Bench.values(desk, "g(1)", "fault 5", "f", "fault 4", "f(x,1,1,1)", "fault 4");
        }
    }

    private static void parameters() {
        Bench.sentence("Within these x, y and z are the first, second and third argument, if the function has so many parameters; other names are what let() told");
        Rankwise desk = new Rankwise();
        desk.define('f', 1);
        Bench.addCase(desk, 'f', "", "x*100+y*10+z");
        desk.define('g', 2);
        Bench.addCase(desk, 'g', "", "x*100+y*10+z");
        desk.define('h', 3);
        Bench.addCase(desk, 'h', "", "x*100+y*10+z");
        desk.define('w', 1);
        Bench.addCase(desk, 'w', "", "w");
        Bench.values(desk, "f(1)", "fault 4", "g(1,2)", "fault 4", "h(1,2,3)", "123", "w(1)", "fault 4");
        Bench.let(desk, 'x', "7");
        Bench.let(desk, 'y', "8");
        Bench.let(desk, 'z', "9");
        Bench.let(desk, 'w', "5");
        Bench.values(desk, "f(1)", "189", "g(1,2)", "129", "h(1,2,3)", "123", "w(1)", "5", "f(x)", "789", "g(y,x)",
            "879", "h(z,y,x)", "987",
            "f(1)+x", "196", "h(f(0),g(0,0),x)", "8997");
        desk.define('k', 1);
        Bench.addCase(desk, 'k', "y=8", "f(x)+y");
        Bench.values(desk, "k(2)", "297", "g(k(2),0)", "29709");
    }

    private static void tooDeep() {
        Bench.sentence("TOO_DEEP: more than 12 calls of functions would be within one another");
        Rankwise desk = new Rankwise();
        desk.define('f', 1);
        Bench.addCase(desk, 'f', "x<1", "0");
        Bench.addCase(desk, 'f', "x>0", "f(x-1)");
        desk.tell('#', Rankwise.BEHIND, 9, Rankwise.LEFT, Rankwise.FUNCTION + 'f' - 'a');
        Bench.values(desk, "f(11)", "0", "f(12)", "fault 8", "11#", "0", "12#", "fault 8", "f(11)+f(0)", "0",
            "f(0)+f(12)", "fault 8",
            "i(1,f(11),0)", "0", "i(1,f(12),0)", "fault 8", "s(k,11,11,f(k))", "0", "s(k,12,12,f(k))", "fault 8");

        Bench.sentence("while the conditions and values of that one's cases are reckoned, its arguments are not");
        desk.define('g', 1);
        Bench.addCase(desk, 'g', "i(x<1,1,g(x-1))", "1");
        Bench.values(desk, "g(11)", "1", "g(12)", "fault 8", "f(".repeat(14) + "0" + ")".repeat(14), "0", "f(f(11))",
            "0", "g(g(f(11)))", "1",
            "f(5-f(5))", "0");
        desk.define('h', 1);
        Bench.addCase(desk, 'h', "", "f(f(x))");
        Bench.values(desk, "h(10)", "0", "h(11)", "fault 8");
        desk.define('e', 1);
        Bench.addCase(desk, 'e', "e(x)", "1");
        Bench.values(desk, "e(1)", "fault 8");
    }

    private static void deepOrNone() {
        Bench.sentence("it is looked whether there is NO_FUNCTION, then TOO_DEEP");
        Rankwise desk = new Rankwise();
        desk.define('h', 1);
        Bench.addCase(desk, 'h', "", "i(x<1,q(1),h(x-1))");
        Bench.values(desk, "h(11)", "fault 5", "h(12)", "fault 8", "h(10)", "fault 5");
        desk.define('q', 2);
        Bench.values(desk, "h(11)", "fault 5");
        desk.define('q', 1);
        Bench.values(desk, "h(11)", "fault 8", "h(10)", "fault 6");
    }

    private static void cases() {
        Bench.sentence("NO_CASE, TWO_CASES: no case of a function holds, or more than one.");
        Rankwise desk = new Rankwise();
        desk.define('f', 1);
        Bench.values(desk, "f(1)", "fault 6");
        Bench.addCase(desk, 'f', "x=1", "10");
        Bench.addCase(desk, 'f', "x=2", "20");
        Bench.addCase(desk, 'f', "x=3|x=1", "30");
        Bench.addCase(desk, 'f', "x=4|x=1", "40");
        Bench.values(desk, "f(1)", "fault 7", "f(2)", "20", "f(3)", "30", "f(4)", "40", "f(5)", "fault 6");

        Bench.sentence("then the conditions of all its cases are reckoned, in order (none told is true), then the value of the one that holds");
        desk.define('f', 1);
        Bench.addCase(desk, 'f', "x", "1/0");
        Bench.addCase(desk, 'f', "1-x", "7");
        Bench.values(desk, "f(0)", "7", "f(1)", "fault 1", "f(1/2)", "fault 7", "f(-1)", "fault 7");
        Bench.addCase(desk, 'f', "1%x-0", "w");
        Bench.values(desk, "f(0)", "fault 1", "f(1)", "fault 1", "f(1/2)", "fault 2", "f(3)", "fault 7");
        desk.define('g', 1);
        Bench.addCase(desk, 'g', "", "5");
        Bench.values(desk, "g(1)", "5");
        Bench.addCase(desk, 'g', "x", "6");
        Bench.values(desk, "g(1)", "fault 7", "g(0)", "5");
        desk.define('h', 1);
        Bench.addCase(desk, 'h', "0", "6");
        Bench.addCase(desk, 'h', "", "5");
        Bench.addCase(desk, 'h', "x", "6");
        Bench.addCase(desk, 'h', "0*x", "6");
        Bench.values(desk, "h(0)", "5", "h(2)", "fault 7");
        desk.define('e', 1);
        Bench.addCase(desk, 'e', "", "1");
        Bench.addCase(desk, 'e', "", "1");
        Bench.addCase(desk, 'e', "1/x", "1");
        Bench.values(desk, "e(0)", "fault 1", "e(1)", "fault 7");
    }

    private static void operatorFunctions() {
        Bench.sentence("A call of a function, or an operator whose meaning is one, with its operands as arguments");
        Rankwise desk = new Rankwise();
        desk.tell('@', Rankwise.BETWEEN, 9, Rankwise.LEFT, Rankwise.FUNCTION + 'f' - 'a');
        desk.tell('@', Rankwise.BEFORE, 9, Rankwise.LEFT, Rankwise.FUNCTION + 'g' - 'a');
        desk.tell('#', Rankwise.BEHIND, 9, Rankwise.LEFT, Rankwise.FUNCTION + 'g' - 'a');
        Bench.values(desk, "7@4", "fault 5", "@4", "fault 5", "4#", "fault 5", "x@4", "fault 4", "4@x", "fault 4",
            "(1/0)@x", "fault 1");
        desk.define('f', 2);
        Bench.addCase(desk, 'f', "", "x-y");
        desk.define('g', 1);
        Bench.addCase(desk, 'g', "x=4", "x*x");
        Bench.values(desk, "7@4", "3", "4@7", "-3", "@4", "16", "4#", "16", "@5", "fault 6", "5#", "fault 6", "9@4@3",
            "2");
        desk.define('f', 1);
        desk.define('g', 2);
        Bench.values(desk, "7@4", "fault 5", "@4", "fault 5", "4#", "fault 5");
        int tree = Bench.put(desk, "7@4");
        desk.undo();
        desk.undo();
        desk.undo();
        Bench.due("trees", desk.trees(), tree);
        Bench.values(desk, "7@4", "3");
        Rankwise ends = new Rankwise();
        ends.tell('@', Rankwise.BEFORE, 9, Rankwise.LEFT, Rankwise.FUNCTION);
        ends.tell('#', Rankwise.BEFORE, 9, Rankwise.LEFT, Rankwise.FUNCTION + 25);
        ends.define('a', 1);
        Bench.addCase(ends, 'a', "", "x+1");
        ends.define('z', 1);
        Bench.addCase(ends, 'z', "", "x+2");
        Bench.values(ends, "@1", "2", "#1", "3", "a(1)", "2", "z(1)", "3");
    }

    private static void choices() {
        Bench.sentence("i has three arguments: it reckons the first one, and gives the second one, if that is true, else the third one; the other one is not reckoned.");
        Rankwise desk = new Rankwise();
        Bench.values(desk, "i(1,2,x)", "2", "i(0,x,3)", "3", "i(x,1,2)", "fault 4", "i(1,x,2)", "fault 4", "i(0,1,x)",
            "fault 4", "i(1/0,1,2)", "fault 1",
            "i(1,2,1/0)", "2", "i(i(0,1,0),1/0,i(1,5,x))", "5", "i(1,2,3)+i(0,2,3)", "5", "i(2,3/2,0)", "3/2");

        Bench.sentence("With another number of arguments there is NO_FUNCTION.");
        Bench.values(desk, "i(1)", "fault 5", "i(1,2)", "fault 5", "i(1,2,3,4)", "fault 5", "i(x)", "fault 5",
            "i(1/0,x)", "fault 5", "i(x,1,2,3)", "fault 5",
            "s(k)", "fault 5", "s(k,1)", "fault 5", "s(k,1,2)", "fault 5", "s(1)", "fault 5", "s(1/0,x,1)", "fault 5",
            "s(k,x,1)", "fault 5");
    }

    private static void sums() {
        Bench.sentence("gives the sum of what the tree gives with the name being each whole number from the least to the greatest, rising, 0 if there is none");
        Bench.values(new Rankwise(), "s(k,1,4,k*k)", "30", "s(k,3,3,k)", "3", "s(k,4,3,k)", "0", "s(k,4,3,x)", "0",
            "s(k,4,0,1/0)", "0",
            "s(k,-3,3,k)", "0", "s(k,-3,-2,k)", "-5", "s(k,1,4,k/4)", "5/2", "s(k,4/2,6/2,k)", "5",
            "s(k,1,2,i(k=1,1/0,x))", "fault 1",
            "s(k,1,2,i(k=2,1/0,x))", "fault 4", "s(k,1,3,1)*2", "6", "s(k,1,2,k)+s(k,1,3,k)", "9");
        Bench.values(great(), "s(k,b,b+1,k-b)", "1", "s(k,b,b-1,x)", "0", "s(k,b-1+b,b-1+b,k-b-b)", "-1", "s(k,b,0,x)",
            "0", "s(k,-b,-b,k+b)", "0");
    }

    private static void sumFaults() {
        Bench.sentence("TOO_GREAT: a sum of more than 30 numbers");
        Bench.values(great(), "s(k,1,30,1)", "30", "s(k,1,31,1)", "fault 3", "s(k,0,29,1)", "30", "s(k,0,30,1)",
            "fault 3", "s(k,-15,14,1)", "30",
            "s(k,-15,15,1)", "fault 3", "s(k,b,b+29,1)", "30", "s(k,b,b+30,1)", "fault 3", "s(k,0,b,x)", "fault 3",
            "s(k,-b,b,x)", "fault 3",
            "s(k,1,31,x)", "fault 3", "s(k,0,2^30,1)", "fault 3", "s(k,0,2^32,1)", "fault 3", "s(k,0,2^60,1)",
            "fault 3");

        Bench.sentence("the least or the greatest of a sum is no whole number");
        Bench.values(new Rankwise(), "s(k,1/2,2,1)", "fault 2", "s(k,1,3/2,1)", "fault 2", "s(k,1/2,1/2,1)", "fault 2",
            "s(k,1/2,1/3,1)", "fault 2");

        Bench.sentence("it looks for NO_RANGE, reckons the least, then the greatest, looks for NOT_WHOLE, then TOO_GREAT");
        Bench.values(new Rankwise(), "s(1,1/0,2,1)", "fault 10", "s(k+0,1,2,1)", "fault 10", "s(f(1),1,2,1)",
            "fault 10", "s(-k,1,2,1)", "fault 10",
            "s(1,1,2,1)", "fault 10", "s(s(1),1,2,1)", "fault 10", "s(k,x,1/0,1)", "fault 4", "s(k,1/0,x,1)", "fault 1",
            "s(k,1/2,1/0,1)", "fault 1",
            "s(k,1/2,x,1)", "fault 4", "s(k,1/2,99,1)", "fault 2", "s(k,0,99/2,1)", "fault 2", "s(k,0,99,1/0)",
            "fault 3", "s(k,1,1/0,x)", "fault 1",
            "s((k),1,2,k)", "3");
    }

    private static void sumNames() {
        Bench.sentence("within the tree that name is this, whatever else it is");
        Rankwise desk = new Rankwise();
        Bench.let(desk, 'k', "100");
        Bench.values(desk, "s(k,1,2,k)+k", "103", "s(k,k,k+1,k)", "201", "s(k,1,2,s(k,k,2,k))", "5", "s(j,1,2,j*k)",
            "300", "s(k,1,2,s(j,k,2,j*k))", "7",
            "s(i,1,2,i)", "3", "s(s,1,2,s)", "3", "s(j,1,2,j)+j", "fault 4", "s(j,j,2,1)", "fault 4", "s(j,1,j,1)",
            "fault 4");
        desk.recall('k');
        Bench.due("the name's own value stays", Bench.answer(desk), "100");
        desk.define('f', 1);
        Bench.addCase(desk, 'f', "", "s(x,1,2,x*10)+x");
        Bench.values(desk, "f(5)", "35");

        Bench.values(desk, "s(k,1,2,i(k=1,s(j,5,6,j),j))", "fault 4", "s(k,1,3,i(k<3,s(j,5,6,j),k))", "25");
        Bench.let(desk, 'j', "1000");
        Bench.values(desk, "s(k,1,2,i(k=1,s(j,5,6,j),j))", "1011", "s(k,1,2,s(j,5,6,j)+j)", "2022",
            "s(k,5,6,s(k,1,2,k)+k)", "17");

        Bench.sentence("other names are what let() told, whatever sums are around the call");
        desk.define('g', 1);
        Bench.addCase(desk, 'g', "k=100", "x+k");
        Bench.values(desk, "s(k,1,2,g(0))", "200", "s(k,1,2,g(k))", "203", "s(x,1,2,g(x))", "203", "s(y,1,2,g(y)+y)",
            "206");
        desk.define('h', 1);
        Bench.addCase(desk, 'h', "", "x+y");
        Bench.values(desk, "s(y,1,2,h(1))", "fault 4");
        Bench.let(desk, 'y', "7");
        Bench.values(desk, "s(y,1,2,h(y))", "17");
    }

    private static void evaluates() {
        Bench.sentence("Its value is the answer then; with a fault the answer stays. Returns its fault, 0 for none.");
        Rankwise desk = new Rankwise();
        Bench.put(desk, "5/3");
        String[] faults = {"1/0", "2^(1/2)", "2^65", "x", "f(1)", "g(1)", "h(1)", "e(1)", COUNTS_198 + "+1+1",
            "s(1,1,1,1)"};
        desk.define('g', 1);
        desk.define('h', 1);
        desk.addCase('h', Rankwise.NONE, 0);
        desk.addCase('h', Rankwise.NONE, 0);
        desk.define('e', 1);
        Bench.addCase(desk, 'e', "", "e(x)");
        Bench.due("evaluate", desk.evaluate(0), 0);
        for (int k = 0; k < faults.length; k++) {
            int tree = Bench.put(desk, faults[k]);
            Bench.due("fault of " + faults[k], desk.evaluate(tree), k + 1);
            Bench.due("the answer", Bench.answer(desk), "5/3");
            Bench.due("let", desk.let('a', tree), k + 1);
            Bench.due("it has no value", desk.recall('a'), false);
        }
        Consumer<Rankwise> one = ready -> {
            Bench.put(ready, "1");
            ready.evaluate(0);
        };
        for (int tree : new int[] {1, -1, 30, MOST, LEAST}) {
            Bench.refused("evaluate " + tree, Bench.INDEX, one, ready -> ready.evaluate(tree));
            Bench.refused("reckon " + tree, Bench.INDEX, one, ready -> ready.reckon(tree));
        }
    }

    /** What is left of a tree that was not reckoned to its end is in no later one's way. */
    private static void faultsAgain() {
        Bench.sentence("Reckons a tree. (as often as one asks, whatever faults came before)");
        Rankwise desk = new Rankwise();
        desk.define('e', 1);
        Bench.addCase(desk, 'e', "", "s(k,1,1,s(j,1,1,e(x)))");
        int deep = Bench.put(desk, "1+(1+(1+(1+e(1))))");
        int fine = Bench.put(desk, "s(k,1,2,s(j,1,2,k*j))");
        for (int turn = 0; turn < 60; turn++) {
            Bench.due("evaluate", desk.evaluate(deep), Rankwise.TOO_DEEP);
            Bench.due("reckon", desk.reckon(deep), Rankwise.TOO_DEEP);
        }
        Bench.due("evaluate", desk.evaluate(fine), 0);
        Bench.due("its value", Bench.answer(desk), "9");
    }

    /** 80 nodes beneath one another, and 12 calls with 30 each. */
    private static void deepest() {
        Bench.sentence("a tree has at most 80 nodes .. more than 12 calls .. one of the trees has more than 30 nodes (all at once)");
        Rankwise desk = new Rankwise();
        desk.define('f', 1);
        Bench.addCase(desk, 'f', "", "-".repeat(28) + "f(x)");
        desk.define('g', 1);
        Bench.addCase(desk, 'g', "x>10", "1");
        Bench.addCase(desk, 'g', "x<11", "--g(x+1)");
        int piece = Bench.put(desk, "-".repeat(38) + "z");
        int never = Bench.put(desk, "f(x)");
        int twelve = Bench.put(desk, "g(0)");
        int deep = desk.graft(desk.graft(piece, 'z', piece), 'z', never);
        Bench.due("nodes", Bench.nodes(desk, deep), 78);
        Bench.let(desk, 'x', "5");
        Bench.due("evaluate", desk.evaluate(deep), Rankwise.TOO_DEEP);
        Bench.due("reckon", desk.reckon(deep), Rankwise.TOO_DEEP);
        Bench.due("evaluate", desk.evaluate(desk.graft(piece, 'z', twelve)), 0);
        Bench.due("its value", Bench.answer(desk), "1");
    }

    private static void reckons() {
        Bench.sentence("Reckons the postfix of a tree on one stack .. Returns its fault, 0 for none, as of evaluate().");
        Rankwise desk = great();
        desk.define('f', 1);
        Bench.addCase(desk, 'f', "x<1", "s(k,1,3,k)");
        Bench.addCase(desk, 'f', "x>0", "i(x>1,f(x-1),7)");
        desk.define('e', 1);
        Bench.addCase(desk, 'e', "", "e(x)");
        String[] texts = {"1", "b", "1-2*3", "-5!", "(1-2)-(3-4)", "7%3/2^-1", "f(0)", "f(1)", "f(12)-f(0)", "f(13)",
            "f(2)*f(0)", "1/0", "2^(1/2)", "2^65", "x",
            "g(1)", "f(1,2)", "f(1/2)-1", "e(1)", "x+1/0", "1/0+x", "b+b", "b-1+b", "0&x", "1<2", "~1|3>2", "f(x)",
            "e(1/0)", "999999999"};
        for (String text : texts) {
            int tree = Bench.put(desk, text);
            Bench.value(desk, "77");
            int fault = desk.evaluate(tree);
            String answer = Bench.answer(desk);
            Bench.value(desk, "77");
            Bench.due("reckon " + text, desk.reckon(tree), fault);
            Bench.due("its value", Bench.answer(desk), answer);
            Bench.due("audit", desk.audit(1, tree), true);
            desk.undo();
        }
        Bench.due("one that has none", desk.reckon(Bench.put(desk, "x")), Rankwise.NO_VALUE);
    }

    private static void answers() {
        Bench.sentence("with - ahead, if it is below 0, then its digits, 0 to 9, then a to z");
        Rankwise desk = great();
        String[] texts = {"0", "1", "-1", "9", "10", "35", "36", "-35", "1/36", "-7/10", "b-1+b", "1-b-b", "1/(b-1+b)",
            "30!", "2^30", "2^30-1", "2^60", "2^60-1",
            "2^31", "-1/2^60", "36^36"};
        for (String text : texts) {
            String value = Bench.value(desk, text);
            int slash = value.indexOf('/');
            BigInteger top = new BigInteger(slash < 0 ? value : value.substring(0, slash));
            BigInteger bottom = new BigInteger(slash < 0 ? "1" : value.substring(slash + 1));
            for (int radix = 2; radix <= 36; radix++) {
                int length = desk.answer(0, radix);
                Bench.due("length", length, top.toString(radix).length());
                Bench.due("numerator of " + text + " by " + radix, Bench.printed(desk, length), top.toString(radix));
                Bench.due("denominator of " + text + " by " + radix, Bench.printed(desk, desk.answer(1, radix)),
                    bottom.toString(radix));
            }
        }

        Bench.sentence("Throws IllegalArgumentException if the part or the radix is out of its range");
        Consumer<Rankwise> one = ready -> {
            Bench.value(ready, "-5/7");
            ready.print(Bench.put(ready, "x+1"));
        };
        int[][] wrongs = {{-1, 10}, {2, 10}, {MOST, 10}, {LEAST, 10}, {0, 1}, {0, 37}, {1, 1}, {1, 37}, {0, 0}, {0, -2},
            {0, MOST}, {1, LEAST}, {2, 37}};
        for (int[] w : wrongs) {
            Bench.refused("answer " + w[0] + " " + w[1], Bench.ARGUMENT, one, ready -> ready.answer(w[0], w[1]));
        }
        Bench.due("radix 2 is one", Bench.outcome(Bench.desk(one), ready -> ready.answer(1, 2)), "3");
        Bench.due("radix 36 is one", Bench.outcome(Bench.desk(one), ready -> ready.answer(1, 36)), "1");
    }

    private static void lets() {
        Bench.sentence("Gives a name the value of a tree, if that has one. The answer stays. Returns the tree's fault, 0 for none; with a fault nothing changes.");
        Consumer<Rankwise> ready = desk -> {
            Bench.put(desk, "7");
            Bench.put(desk, "x/0");
            Bench.put(desk, "x+1");
            desk.let('x', 0);
            desk.evaluate(2);
        };
        Rankwise desk = Bench.desk(ready);
        Bench.due("let with a fault", desk.let('x', 1), Rankwise.BY_ZERO);
        Bench.due("the answer", Bench.answer(desk), "8");
        Bench.due("its value", Bench.value(desk, "x"), "7");
        Bench.due("let by itself", desk.let('x', 2), 0);
        Bench.due("its value", Bench.value(desk, "x"), "8");
        Bench.due("undo", desk.undo(), Rankwise.MEMORY);
        Bench.due("its value", Bench.value(desk, "x"), "7");
        Bench.due("what there is behind a fault", Bench.sight(one -> {
            ready.accept(one);
            one.let('x', 1);
            one.let('y', 1);
        }), Bench.sight(ready));
        Bench.due("let a", desk.let('a', 0), 0);
        Bench.due("let z", desk.let('z', 0), 0);
        for (char name : new char[] {'`', '{', 'A', 'Z', ' ', '0', 0, 65535, 'a' + 256}) {
            Bench.refused("let " + (int) name, Bench.ARGUMENT, ready, one -> one.let(name, 0));
            Bench.refused("let without a tree " + (int) name, Bench.ARGUMENT, ready, one -> one.let(name, 9));
            Bench.refused("unlet " + (int) name, Bench.ARGUMENT, ready, one -> one.unlet(name));
            Bench.refused("recall " + (int) name, Bench.ARGUMENT, ready, one -> one.recall(name));
        }
        for (int tree : new int[] {3, -1, 30, MOST, LEAST}) {
            Bench.refused("let " + tree, Bench.INDEX, ready, one -> one.let('x', tree));
        }

        Bench.sentence("Takes a name's value away. Returns whether it had one.");
        Bench.due("unlet", desk.unlet('x'), true);
        Bench.due("unlet again", desk.unlet('x'), false);
        Bench.due("x", Bench.value(desk, "x"), "fault 4");
        Bench.due("unlet a", desk.unlet('a'), true);
        Bench.due("unlet z", desk.unlet('z'), true);

        Bench.sentence("Makes a name's value the answer. Returns whether it has one; without one the answer stays.");
        Bench.value(desk, "99");
        Bench.due("recall", desk.recall('x'), false);
        Bench.due("the answer", Bench.answer(desk), "99");
        Bench.let(desk, 'x', "-2/3");
        Bench.due("recall", desk.recall('x'), true);
        Bench.due("the answer", Bench.answer(desk), "-2/3");
        Bench.let(desk, 'x', "0");
        Bench.due("recall of 0", desk.recall('x'), true);
        Bench.due("the answer", Bench.answer(desk), "0");
    }

    private static void defines() {
        Bench.sentence("Makes a function without cases, in place of one with that name. Returns how many cases it had before; NONE, if there was none.");
        Rankwise desk = new Rankwise();
        Bench.put(desk, "1");
        for (char name = 'a'; name <= 'z'; name++) {
            if (name != 'i' && name != 's') {
                Bench.due("define " + name, desk.define(name, 1), Rankwise.NONE);
            }
        }
        for (int cases = 0; cases <= 4; cases++) {
            for (int k = 0; k < cases; k++) {
                desk.addCase('f', Rankwise.NONE, 0);
            }
            Bench.due("define", desk.define('f', 1 + cases % 3), cases);
            Bench.due("it has no case", Bench.value(desk, "f(1" + ",1".repeat(cases % 3) + ")"), "fault 6");
            Bench.due("another one has stayed", Bench.value(desk, "e(1)"), "fault 6");
        }

        Bench.sentence("Throws IllegalArgumentException if the name or the parameters are out of their ranges");
        Consumer<Rankwise> ready = one -> {
            Bench.put(one, "1");
            one.define('f', 2);
            one.addCase('f', 0, 0);
        };
        for (int parameters : new int[] {0, 4, -1, MOST, LEAST}) {
            Bench.refused("define " + parameters, Bench.ARGUMENT, ready, one -> one.define('f', parameters));
        }
        for (char name : new char[] {'i', 's', '`', '{', 'F', 0, 65535, 'f' + 256}) {
            Bench.refused("define " + (int) name, Bench.ARGUMENT, ready, one -> one.define(name, 1));
        }
        Bench.due("1 parameter", Bench.desk(ready).define('f', 1), 1);
        Bench.due("3 parameters", Bench.desk(ready).define('f', 3), 1);
    }

    private static void addCases() {
        Bench.sentence("Adds a case to a function, behind those that it has. Returns how many cases it has then.");
        Rankwise desk = new Rankwise();
        Bench.put(desk, "1");
        desk.define('f', 1);
        for (int cases = 1; cases <= 4; cases++) {
            Bench.due("addCase", desk.addCase('f', 0, 0), cases);
        }

        Bench.sentence("Throws IllegalStateException if there is no such function, it has 4 cases, or one of the trees has more than 30 nodes");
        Consumer<Rankwise> full = one -> {
            Bench.put(one, "1");
            one.define('f', 1);
            for (int k = 0; k < 4; k++) {
                one.addCase('f', Rankwise.NONE, 0);
            }
        };
        Consumer<Rankwise> ready = one -> {
            Bench.grow(one, 30);
            Bench.put(one, "-".repeat(30) + "x");
            one.define('f', 1);
        };
        Bench.refused("a fifth case", Bench.STATE, full, one -> one.addCase('f', Rankwise.NONE, 0));
        Bench.refused("no function", Bench.STATE, ready, one -> one.addCase('g', 0, 0));
        Bench.refused("no function i", Bench.STATE, ready, one -> one.addCase('i', 0, 0));
        Bench.refused("no function s", Bench.STATE, ready, one -> one.addCase('s', 0, 0));
        Bench.due("31 nodes", Bench.nodes(Bench.desk(ready), 1), 31);
        Bench.due("30 nodes", Bench.desk(ready).addCase('f', 0, 0), 1);
        Bench.refused("a condition of 31 nodes", Bench.STATE, ready, one -> one.addCase('f', 1, 0));
        Bench.refused("a value of 31 nodes", Bench.STATE, ready, one -> one.addCase('f', 0, 1));
        Bench.refused("a value of 31 nodes without a condition", Bench.STATE, ready, one -> one.addCase('f',
            Rankwise.NONE, 1));

        Bench.sentence("name: a to z; condition: a tree, or NONE, which is true; value: a tree");
        for (char name : new char[] {'`', '{', 'F', 0, 65535}) {
            Bench.refused("addCase " + (int) name, Bench.ARGUMENT, ready, one -> one.addCase(name, 0, 0));
            Bench.refused("addCase without a tree " + (int) name, Bench.ARGUMENT, ready, one -> one.addCase(name, 9,
                9));
        }
        int[][] none = {{2, 0}, {0, 2}, {-2, 0}, {0, -1}, {0, -2}, {MOST, 0}, {0, MOST}, {LEAST, 0}, {-1, -1}, {1, 2},
            {2, 1}};
        for (int[] n : none) {
            Bench.refused("addCase " + n[0] + " " + n[1], Bench.INDEX, ready, one -> one.addCase('f', n[0], n[1]));
            Bench.refused("addCase to none " + n[0] + " " + n[1], Bench.INDEX, ready, one -> one.addCase('g', n[0],
                n[1]));
        }
        Bench.refused("addCase to a full function without a tree", Bench.INDEX, full, one -> one.addCase('f', 0, 1));
        Rankwise first = new Rankwise();
        first.define('a', 1);
        first.define('z', 1);
        Bench.due("a case of a", Bench.addCase(first, 'a', "", "1"), 1);
        Bench.due("a case of z", Bench.addCase(first, 'z', "", "2"), 1);
        Bench.values(first, "a(0)", "1", "z(0)", "2");
    }
}
