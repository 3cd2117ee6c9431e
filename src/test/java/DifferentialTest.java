import java.util.ArrayList;
import java.util.List;
import java.util.Random;
import java.util.concurrent.Callable;

/**
 * Makes the same random calls on Rankwise and on the naive model, and tells the first call of a run that they answer
 * differently. Runs are numbered: the same number is the same run. Arguments: the first run and how many.
 */
public final class DifferentialTest {
    private static final int CALLS = 512;

    private final Random random;
    private final int style;
    private final Rankwise desk = new Rankwise();
    private final Model model = new Model();
    private final List<String> log = new ArrayList<>();
    private String wrong;
    private int calls;

    private DifferentialTest(long seed) {
        random = new Random(seed * 7919 + 13);
        style = (int) (seed % 7);
    }

    public static void main(String[] args) {
        int first = args.length > 0 ? Integer.parseInt(args[0]) : 0;
        int runs = args.length > 1 ? Integer.parseInt(args[1]) : 2000;
        int failed = 0;
        for (int run = first; run < first + runs && failed < 3; run++) {
            DifferentialTest test = new DifferentialTest(run);
            test.go();
            if (test.wrong != null) {
                failed++;
                System.out.println("run " + run + ": " + test.wrong);
                System.out.println(String.join("\n", test.log));
            }
        }
        if (failed > 0) {
            System.exit(1);
        }
        System.out.println("all of " + runs + " random runs are as the model has them");
    }

    private static String outcome(Callable<Object> call) {
        try {
            return String.valueOf(call.call());
        } catch (Exception exception) {
            return "throws." + exception.getClass().getSimpleName();
        }
    }

    private String same(String name, Callable<Object> real, Callable<Object> due) {
        calls++;
        String got = outcome(real);
        String want = outcome(due);
        log.add(name + " -> " + got);
        if (!got.equals(want) && wrong == null) {
            wrong = name + " answered " + got + ", due is " + want;
        }
        return got;
    }

    private int pick(int bound) {
        return random.nextInt(bound);
    }

    private char pickOf(String text) {
        return text.charAt(pick(text.length()));
    }

    private int tree() {
        return pick(20) == 0 ? pick(40) - 5 : Math.max(0, model.trees() - 1 - (pick(3) == 0 ? pick(30) : pick(3)));
    }

    private char name() {
        return pick(25) == 0 ? (char) (pick(5) == 0 ? pick(65536) : pick(128)) : pickOf("xxxxyyzzabckfghis");
    }

    private char functionName() {
        return pick(25) == 0 ? name() : pickOf("fffgggh");
    }

    private void go() {
        if (style == 1 || style == 2) {
            for (int k = pick(12); k > 0; k--) {
                tell();
            }
        }
        prepare();
        while (calls < CALLS - 70 && wrong == null) {
            act();
        }
        if (wrong == null) {
            checkAll();
        }
    }

    /** In most runs names have values and functions have cases, so that more is reckoned than faults. */
    private void prepare() {
        if (style == 0 || style == 1) {
            return;
        }
        for (char name : "xyak".toCharArray()) {
            if (pick(4) > 0) {
                int value = put(style == 4 || (style == 6 && pick(6) == 0) ? great() : pick(3) == 0 ? pick(9) + "/" + (1 + pick(9)) : number());
                same("let " + name + " " + value, () -> desk.let(name, value), () -> model.let(name, value));
            }
        }
        if (style == 2 || style == 0) {
            same("define f 1", () -> desk.define('f', 1), () -> model.define('f', 1));
            caseOf('f', "x<" + (1 + pick(2)), "" + pick(3));
            caseOf('f', pick(5) == 0 ? "x>0" : "x>" + (1 - pick(2)), pickOf("x2k") + "*f(x-" + (pick(5) == 0 ? "0" : "1") + ")");
            same("define g 2", () -> desk.define('g', 2), () -> model.define('g', 2));
            caseOf('g', "", pick(2) == 0 ? "s(k,x,y,k*x)" : "i(x<y,g(x+1,y),x)");
        }
    }

    private int put(String text) {
        typeText(text);
        same("read", desk::read, model::read);
        return model.trees() - 1;
    }

    private void caseOf(char name, String condition, String value) {
        int when = condition.isEmpty() ? -1 : put(condition);
        int then = put(value);
        same("addCase " + name + " " + when + " " + then,
            () -> desk.addCase(name, when, then), () -> model.addCase(name, when, then));
    }

    /** A number with some 60 binary digits, or what is near 200. */
    private String great() {
        switch (pick(6)) {
            case 0: return "2^64*2^64*2^" + (60 + pick(5));
            case 1: return "3^" + pick(65) + "/2^" + pick(65);
            case 2: return "0-7^" + pick(65);
            case 3: return pick(31) + "!";
            case 4: return "1/" + pick(31) + "!";
            default: return "2^64*2^64*2^64*2^" + (6 + pick(3)) + "-1";
        }
    }

    /** One polynomial, or an equation of two, is gathered, differentiated and solved, and put away again. */
    private void algebra() {
        String text = polynomial();
        if (pick(2) == 0) {
            text = pick(2) == 0 ? text + "=" + polynomial() : "(" + text + ")" + pickOf("^*/+-") + pick(9);
        }
        if (text.length() > 40) {
            return;
        }
        int kept = model.trees();
        put(text);
        if (pick(3) == 0) {
            int other = put(polynomial().replace('^', '*'));
            int stock = kept;
            same("graft " + stock + " x " + other, () -> desk.graft(stock, 'x', other), () -> model.graft(stock, 'x', other));
        }
        int tree = model.trees() - 1;
        char name = pickOf("xxxxy");
        same("gather " + tree + " " + name, () -> desk.gather(tree, name), () -> model.gather(tree, name));
        int power = pick(9);
        same("coefficient " + power, () -> desk.coefficient(power), () -> model.coefficient(power));
        compareAnswer();
        same("derive " + tree + " " + name, () -> desk.derive(tree, name), () -> model.derive(tree, name));
        same("simplify " + tree, () -> desk.simplify(tree), () -> model.simplify(tree));
        compareTrace();
        same("slope " + tree + " " + name, () -> desk.slope(tree, name), () -> model.slope(tree, name));
        compareAnswer();
        same("solve " + tree + " " + name, () -> desk.solve(tree, name), () -> model.solve(tree, name));
        compareAnswer();
        same("audit 2 " + tree, () -> desk.audit(2, tree), () -> model.audit(2, tree));
        same("audit 3 " + tree, () -> desk.audit(3, tree), () -> model.audit(3, tree));
        while (model.trees() > kept && wrong == null) {
            same("undo", desk::undo, model::undo);
        }
    }

    private void act() {
        if (style == 6) {
            algebra();
            return;
        }
        int what = pick(100);
        if (what < 30) {
            typeAndRead();
        } else if (what < 45) {
            print();
        } else if (what < 65) {
            reckon();
        } else if (what < 80) {
            rework();
        } else if (what < 88) {
            functions();
        } else if (what < 92) {
            tell();
        } else if (what < 96) {
            same("undo", desk::undo, model::undo);
        } else {
            look();
        }
        if (model.trees() > 26 && pick(2) == 0) {
            for (int k = 0; k < 12 && wrong == null; k++) {
                same("undo", desk::undo, model::undo);
            }
        }
    }

    private void typeText(String text) {
        for (char c : text.toCharArray()) {
            same("type " + c + " (" + (int) c + ")", () -> desk.type(c), () -> model.type(c));
        }
    }

    private void typeAndRead() {
        if (pick(2) == 0 && model.trees() > 0) {
            int a = tree();
            int b = tree();
            char name = name();
            same("graft " + a + " " + name + " " + b, () -> desk.graft(a, name, b), () -> model.graft(a, name, b));
            return;
        }
        String text = expression(1 + pick(4));
        if (style == 5 || (style == 3 && pick(3) == 0)) {
            text = pick(2) == 0 ? polynomial() : polynomial() + "=" + polynomial();
        }
        if (style == 5 && pick(6) == 0) {
            text = expression(1 + pick(3)) + "=" + expression(1 + pick(3));
        }
        if (pick(6) == 0) {
            text = spoil(text);
        }
        if (text.length() > 60) {
            text = text.substring(0, pick(3) == 0 ? 60 : Math.min(60, pick(text.length())));
        }
        if (text.length() > 25 && pick(3) != 0) {
            return;
        }
        typeText(text);
        if (pick(2) == 0) {
            same("fault", desk::fault, model::fault);
        }
        String read = same("read", desk::read, model::read);
        if (read.startsWith("throws")) {
            same("fault", desk::fault, model::fault);
            same("drop", desk::drop, model::drop);
        } else {
            print();
        }
    }

    private String spoil(String text) {
        StringBuilder spoiled = new StringBuilder(text);
        for (int k = 1 + pick(2); k > 0; k--) {
            int at = pick(spoiled.length() + 1);
            String junk = pick(3) == 0 ? "" + (char) (pick(4) == 0 ? pick(65536) : pick(128)) : "" + pickOf("0x0b,()<=!~ 9of*-");
            if (pick(3) == 0 && at < spoiled.length()) {
                spoiled.deleteCharAt(at);
            } else {
                spoiled.insert(at, junk);
            }
        }
        return spoiled.toString();
    }

    private String number() {
        switch (pick(14)) {
            case 0: return "0x" + Integer.toHexString(pick(1 << (1 + pick(28))));
            case 1: return "0b" + Integer.toBinaryString(pick(128));
            case 2: return "0o" + Integer.toOctalString(pick(2000));
            case 3: return "" + pick(1000000000);
            case 4: return "00" + pick(10);
            case 5: return "999999999";
            case 6: return "" + pick(70);
            default: return "" + pick(4);
        }
    }

    private String leaf() {
        if (style == 4 && pick(4) == 0) {
            return pickOf("237") + "^" + (pick(3) == 0 ? 66 - pick(5) : pick(66));
        }
        return pick(5) < 3 ? number() : "" + pickOf(style == 3 ? "xyzab" : "xxyk");
    }

    private String polynomial() {
        StringBuilder text = new StringBuilder(pick(3) == 0 ? leaf() : "x");
        for (int k = pick(4); k > 0; k--) {
            String more = new String[] {"x", "x", "y*x", "" + pick(5), "(x-1)", "(x+y)", "x^2", "(2*x+3)"}[pick(8)];
            if (pick(3) == 0) {
                text.insert(0, '(').append(')');
            }
            String op = pick(8) == 0 ? "^" : pick(8) == 0 ? "/" : "" + pickOf("+-*");
            text.append(op).append(op.equals("^") ? "" + pick(5) : op.equals("/") && pick(4) > 0 ? "" + pick(9) : more);
        }
        return text.toString();
    }

    private String expression(int depth) {
        if (depth == 0 || pick(8) == 0) {
            return leaf();
        }
        String blank = pick(15) == 0 ? " " : "";
        int what = pick(20);
        if (style == 3 || style == 5) {
            what = 4 + pick(16);
        }
        if (what == 0) {
            StringBuilder call = new StringBuilder(functionName() + blank + "(");
            for (int k = pick(6) == 0 ? pick(4) : pick(2); k >= 0; k--) {
                call.append(expression(depth - 1)).append(k > 0 ? "," : ")");
            }
            return call.toString();
        }
        if (what == 1) {
            return "i(" + expression(depth - 1) + "," + expression(depth - 1) + "," + expression(depth - 1) + ")";
        }
        if (what == 2) {
            String index = pick(20) == 0 ? expression(0) : "" + pickOf("kxy");
            return "s(" + index + "," + pick(4) + "," + pick(9) + "," + expression(depth - 1) + ")";
        }
        if (what < 7) {
            return "(" + expression(depth - 1) + ")" + blank;
        }
        List<String> told = new ArrayList<>(model.now.table.keySet());
        String op = told.get(pick(told.size()));
        if (style == 3 || style == 5) {
            op = new String[] {"+2", "-2", "+2", "*2", "*2", "-0", "/2", "^2", "=2"}[pick(pick(20) == 0 ? 9 : style == 3 ? 8 : 7)];
            if (op.equals("/2") && pick(5) > 0) {
                return expression(depth - 1) + "/" + (1 + pick(9));
            }
        }
        char sign = op.charAt(0);
        char fix = op.charAt(1);
        if (fix == '0') {
            return sign + blank + expression(depth - 1);
        }
        if (fix == '1') {
            return expression(depth - 1) + sign;
        }
        String right = sign == '^' && pick(6) > 0 ? "" + pick(pick(5) == 0 ? 12 : 4) : expression(depth - 1);
        return expression(depth - 1) + blank + sign + right;
    }

    private void tell() {
        boolean odd = pick(8) == 0;
        char sign = odd ? (char) pick(128) : Model.SIGNS.charAt(pick(16));
        int fix = odd ? pick(5) - 1 : pick(3);
        int rank = odd ? pick(12) - 1 : 1 + pick(style == 1 ? 9 : 4);
        int side = odd ? pick(5) - 1 : fix == 2 ? pick(3) : 0;
        int meaning = fix == 2 ? pick(11) : 11 + pick(3);
        if (pick(4) == 0) {
            meaning = 100 + pick(8);
        }
        if (odd) {
            meaning = pick(130) - 1;
        }
        int told = meaning;
        same("tell " + sign + " " + fix + " " + rank + " " + side + " " + told,
            () -> desk.tell(sign, fix, rank, side, told), () -> model.tell(sign, fix, rank, side, told));
        int what = pick(3);
        same("told " + sign + " " + fix + " " + what, () -> desk.told(sign, fix, what), () -> model.told(sign, fix, what));
    }

    private void print() {
        int tree = tree();
        if (pick(3) > 0) {
            same("print " + tree, () -> desk.print(tree), () -> model.print(tree));
        } else {
            same("postfix " + tree, () -> desk.postfix(tree), () -> model.postfix(tree));
        }
        comparePrinted();
        if (pick(4) == 0) {
            same("audit 0 " + tree, () -> desk.audit(0, tree), () -> model.audit(0, tree));
        }
    }

    /** Compares all that is printed, as one call. */
    private void comparePrinted() {
        same("printed", () -> text(), () -> model.printed);
    }

    private String text() {
        StringBuilder text = new StringBuilder();
        for (int k = 0; k < model.printed.length(); k++) {
            text.append((char) desk.out(k));
        }
        return text.toString();
    }

    private void compareAnswer() {
        int radix = pick(5) == 0 ? pick(40) : 10;
        for (int part = 0; part < 2; part++) {
            int told = part;
            same("answer " + told + " " + radix, () -> desk.answer(told, radix), () -> model.answer(told, radix));
            comparePrinted();
        }
    }

    private void reckon() {
        int tree = tree();
        char name = name();
        switch (pick(8)) {
            case 0:
                same("let " + name + " " + tree, () -> desk.let(name, tree), () -> model.let(name, tree));
                break;
            case 1:
                same("recall " + name, () -> desk.recall(name), () -> model.recall(name));
                break;
            case 2:
                if (pick(3) == 0) {
                    same("unlet " + name, () -> desk.unlet(name), () -> model.unlet(name));
                }
                break;
            case 3:
                same("reckon " + tree, () -> desk.reckon(tree), () -> model.reckon(tree));
                break;
            case 4:
                same("audit 1 " + tree, () -> desk.audit(1, tree), () -> model.audit(1, tree));
                break;
            default:
                same("evaluate " + tree, () -> desk.evaluate(tree), () -> model.evaluate(tree));
                break;
        }
        compareAnswer();
    }

    /** The latest tree that has a sign first, or any. */
    private int treeWith(char sign) {
        for (int tree = model.trees() - 1; tree >= 0; tree--) {
            if (model.now.shelf.get(tree).value == sign && pick(3) > 0) {
                return tree;
            }
        }
        return tree();
    }

    private void rework() {
        int what = pick(8);
        int tree = what == 5 ? treeWith('=') : what == 7 ? treeWith(pickOf("+*-^/")) : tree();
        char name = pick(3) > 0 ? pickOf("xxy") : name();
        switch (what) {
            case 0:
                same("step " + tree, () -> desk.step(tree), () -> model.step(tree));
                compareTrace();
                break;
            case 1:
                same("simplify " + tree, () -> desk.simplify(tree), () -> model.simplify(tree));
                compareTrace();
                break;
            case 2:
            case 3:
                same("derive " + tree + " " + name, () -> desk.derive(tree, name), () -> model.derive(tree, name));
                break;
            case 4:
                same("slope " + tree + " " + name, () -> desk.slope(tree, name), () -> model.slope(tree, name));
                compareAnswer();
                break;
            case 5:
                same("solve " + tree + " " + name, () -> desk.solve(tree, name), () -> model.solve(tree, name));
                compareAnswer();
                break;
            case 6:
                int part = pick(6) - 1;
                same("audit " + part + " " + tree, () -> desk.audit(part, tree), () -> model.audit(part, tree));
                break;
            default:
                same("gather " + tree + " " + name, () -> desk.gather(tree, name), () -> model.gather(tree, name));
                int power = pick(12) - 1;
                same("coefficient " + power, () -> desk.coefficient(power), () -> model.coefficient(power));
                compareAnswer();
                break;
        }
    }

    private void compareTrace() {
        for (int place = -1; place < 4; place++) {
            int at = place == 3 ? pick(50) : place;
            int what = pick(10) == 0 ? pick(4) - 1 : pick(2);
            same("trace " + at + " " + what, () -> desk.trace(at, what), () -> model.trace(at, what));
        }
    }

    private void functions() {
        char name = functionName();
        if (pick(3) == 0) {
            int parameters = pick(15) == 0 ? pick(6) - 1 : 1 + pick(2);
            same("define " + name + " " + parameters, () -> desk.define(name, parameters), () -> model.define(name, parameters));
            return;
        }
        int condition = pick(4) == 0 ? -1 : tree();
        int value = tree();
        same("addCase " + name + " " + condition + " " + value,
            () -> desk.addCase(name, condition, value), () -> model.addCase(name, condition, value));
    }

    private void look() {
        int tree = tree();
        int node = pick(10) - 1;
        int what = pick(8) - 1;
        same("node " + tree + " " + node + " " + what, () -> desk.node(tree, node, what), () -> model.node(tree, node, what));
        int other = tree();
        same("isSame " + tree + " " + other, () -> desk.isSame(tree, other), () -> model.isSame(tree, other));
        int place = pick(70) - 3;
        same("out " + place, () -> desk.out(place), () -> model.out(place));
        if (pick(2) == 0) {
            same("part " + tree + " " + node, () -> desk.part(tree, node), () -> model.part(tree, node));
        }
    }

    /** All nodes of all trees. */
    private void checkAll() {
        same("trees", desk::trees, model::trees);
        for (int tree = 0; tree < model.trees(); tree++) {
            int nodes = model.now.shelf.get(tree).size();
            for (int node = 0; node <= nodes; node++) {
                for (int what = 0; what < 6; what++) {
                    int t = tree;
                    int n = node;
                    int w = what;
                    same("node " + t + " " + n + " " + w, () -> desk.node(t, n, w), () -> model.node(t, n, w));
                }
            }
        }
    }
}
