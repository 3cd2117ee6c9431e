import java.math.BigInteger;
import java.util.ArrayList;
import java.util.HashMap;
import java.util.List;
import java.util.Map;
import java.util.TreeMap;

/**
 * What the document says, in the most naive way: texts as Strings, trees as objects, BigIntegers, recursion. The
 * differential test holds Rankwise against it.
 */
final class Model {
    static final String SIGNS = "+-*/%^!&|<>=~@#?";

    /** A node with all beneath it. */
    static final class Node {
        final int kind;
        final int value;
        final int fix;
        final List<Node> kids = new ArrayList<>();

        Node(int kind, int value, int fix, Node... kids) {
            this.kind = kind;
            this.value = value;
            this.fix = fix;
            this.kids.addAll(List.of(kids));
        }

        int size() {
            int size = 1;
            for (Node kid : kids) {
                size += kid.size();
            }
            return size;
        }

        String show() {
            StringBuilder text = new StringBuilder("[" + kind + "," + value + "," + fix);
            for (Node kid : kids) {
                text.append(kid.show());
            }
            return text.append("]").toString();
        }

        void list(List<Node> into) {
            into.add(this);
            for (Node kid : kids) {
                kid.list(into);
            }
        }

        List<Node> all() {
            List<Node> all = new ArrayList<>();
            list(all);
            return all;
        }
    }

    /** A fault of reckoning on its way up. */
    static final class Fault extends RuntimeException {
        final int number;

        Fault(int number) {
            super(null, null, false, false);
            this.number = number;
        }
    }

    static final class Frac {
        final BigInteger top;
        final BigInteger bottom;

        Frac(BigInteger a, BigInteger b) {
            BigInteger g = a.gcd(b);
            if (b.signum() < 0) {
                g = g.negate();
            }
            top = a.divide(g);
            bottom = b.divide(g);
        }

        static Frac of(long v) {
            return new Frac(BigInteger.valueOf(v), BigInteger.ONE);
        }

        Frac plus(Frac o) {
            return new Frac(top.multiply(o.bottom).add(o.top.multiply(bottom)), bottom.multiply(o.bottom));
        }

        Frac negate() {
            return new Frac(top.negate(), bottom);
        }

        Frac minus(Frac o) {
            return plus(o.negate());
        }

        Frac times(Frac o) {
            return new Frac(top.multiply(o.top), bottom.multiply(o.bottom));
        }

        Frac over(Frac o) {
            return new Frac(top.multiply(o.bottom), bottom.multiply(o.top));
        }

        Frac power(int n) {
            Frac base = n < 0 ? Frac.of(1).over(this) : this;
            return new Frac(base.top.pow(Math.abs(n)), base.bottom.pow(Math.abs(n)));
        }

        int compare(Frac o) {
            return top.multiply(o.bottom).compareTo(o.top.multiply(bottom));
        }

        boolean isZero() {
            return top.signum() == 0;
        }

        boolean isWhole() {
            return bottom.equals(BigInteger.ONE);
        }

        boolean fits() {
            return top.abs().bitLength() <= 200 && bottom.bitLength() <= 200;
        }

        boolean same(Frac o) {
            return compare(o) == 0;
        }
    }

    static final class Op {
        final int rank;
        final int side;
        final int meaning;

        Op(int rank, int side, int meaning) {
            this.rank = rank;
            this.side = side;
            this.meaning = meaning;
        }
    }

    static final class Func {
        final int parameters;
        final List<Node[]> cases;

        Func(int parameters, List<Node[]> cases) {
            this.parameters = parameters;
            this.cases = cases;
        }
    }

    /** All that undo() can bring back. */
    static final class State {
        List<Node> shelf = new ArrayList<>();
        Map<String, Op> table = new TreeMap<>();
        Map<Character, Frac> names = new HashMap<>();
        Map<Character, Func> functions = new HashMap<>();
        int changed;

        State copy() {
            State copy = new State();
            copy.shelf.addAll(shelf);
            copy.table.putAll(table);
            copy.names.putAll(names);
            copy.functions.putAll(functions);
            return copy;
        }
    }

    State now = new State();
    final List<State> before = new ArrayList<>();
    String typed = "";
    String printed = "";
    Frac answer = Frac.of(0);
    Frac[] polynomial = {Frac.of(0)};
    List<int[]> steps = new ArrayList<>();

    Model() {
        op("|", 2, 1, 0, 10);
        op("&", 2, 2, 0, 9);
        op("<", 2, 3, 2, 6);
        op("=", 2, 3, 2, 7);
        op(">", 2, 3, 2, 8);
        op("+", 2, 4, 0, 0);
        op("-", 2, 4, 0, 1);
        op("*", 2, 5, 0, 2);
        op("/", 2, 5, 0, 3);
        op("%", 2, 5, 0, 4);
        op("^", 2, 7, 1, 5);
        op("-", 0, 6, 0, 11);
        op("~", 0, 6, 0, 12);
        op("!", 1, 8, 0, 13);
    }

    private void op(String sign, int fix, int rank, int side, int meaning) {
        now.table.put(sign + fix, new Op(rank, side, meaning));
    }

    Op op(int sign, int fix) {
        return now.table.get((char) sign + "" + fix);
    }

    private void change(int kind) {
        before.add(now);
        now = now.copy();
        now.changed = kind;
        if (before.size() > 20) {
            before.remove(0);
        }
    }

    // ---- texts

    /** Words; a null list if it is none. */
    static List<String> words(String text) {
        List<String> words = new ArrayList<>();
        int at = 0;
        while (at < text.length()) {
            char c = text.charAt(at);
            if (c == ' ') {
                at++;
                continue;
            }
            if (c >= '0' && c <= '9') {
                String digits = "0123456789";
                int start = at;
                int most = 9;
                if (text.startsWith("0x", at)) {
                    digits = "0123456789abcdef";
                } else if (text.startsWith("0o", at)) {
                    digits = "01234567";
                } else if (text.startsWith("0b", at)) {
                    digits = "01";
                }
                if (digits.length() != 10) {
                    at += 2;
                    most = 7;
                }
                int first = at;
                while (at < text.length() && at - first < most && digits.indexOf(text.charAt(at)) >= 0) {
                    at++;
                }
                if (at == first) {
                    return null;
                }
                words.add(text.substring(start, at));
                continue;
            }
            if ((c >= 'a' && c <= 'z') || "(),".indexOf(c) >= 0 || SIGNS.indexOf(c) >= 0) {
                words.add("" + c);
                at++;
                continue;
            }
            return null;
        }
        return words;
    }

    private List<String> input;
    private int at;

    /** The tree of a text; null if it is none. */
    Node parse(String text) {
        input = words(text);
        at = 0;
        if (input == null) {
            return null;
        }
        try {
            Node node = text(1);
            return at == input.size() ? node : null;
        } catch (Fault none) {
            return null;
        }
    }

    private String peek() {
        return at < input.size() ? input.get(at) : "";
    }

    private Node text(int r) {
        String word = peek();
        at++;
        Node so;
        boolean bare = false;
        if (word.isEmpty()) {
            throw new Fault(0);
        }
        char c = word.charAt(0);
        if (c >= '0' && c <= '9') {
            so = new Node(0, numberOf(word), -1);
        } else if (c >= 'a' && c <= 'z') {
            if (peek().equals("(")) {
                List<Node> arguments = new ArrayList<>();
                do {
                    at++;
                    arguments.add(text(1));
                } while (peek().equals(",") && arguments.size() < 4);
                expect(")");
                so = new Node(2, c, -1, arguments.toArray(new Node[0]));
            } else {
                so = new Node(1, c, -1);
            }
        } else if (c == '(') {
            so = text(1);
            expect(")");
        } else if (op(c, 0) != null) {
            so = new Node(3, c, 0, text(op(c, 0).rank + 1));
        } else {
            throw new Fault(0);
        }
        while (!peek().isEmpty()) {
            char sign = peek().charAt(0);
            Op behind = op(sign, 1);
            Op between = op(sign, 2);
            if (behind != null && behind.rank >= r) {
                at++;
                so = new Node(3, sign, 1, so);
                bare = false;
            } else if (between != null && between.rank >= r) {
                at++;
                if (bare && between.side == 2 && op(so.value, 2).rank == between.rank) {
                    throw new Fault(0);
                }
                so = new Node(3, sign, 2, so, text(between.side == 1 ? between.rank : between.rank + 1));
                bare = true;
            } else {
                break;
            }
        }
        return so;
    }

    private void expect(String word) {
        if (!peek().equals(word)) {
            throw new Fault(0);
        }
        at++;
    }

    static int numberOf(String word) {
        if (word.startsWith("0x")) {
            return Integer.parseInt(word.substring(2), 16);
        }
        if (word.startsWith("0o")) {
            return Integer.parseInt(word.substring(2), 8);
        }
        if (word.startsWith("0b")) {
            return Integer.parseInt(word.substring(2), 2);
        }
        return Integer.parseInt(word);
    }

    /** Whether a text goes on behind it: an operand and what closes the brackets is enough, where one does. */
    private boolean goesOn(String prefix) {
        int open = 0;
        for (char c : prefix.toCharArray()) {
            open += c == '(' ? 1 : c == ')' ? -1 : 0;
        }
        if (open < 0) {
            return false;
        }
        String closed = ")".repeat(open);
        return parse(prefix + closed) != null || parse(prefix + "1" + closed) != null;
    }

    int fault() {
        for (int k = 0; k < typed.length(); k++) {
            if (!goesOn(typed.substring(0, k + 1))) {
                return k;
            }
        }
        return parse(typed) == null ? typed.length() : -1;
    }

    int type(char c) {
        if (typed.length() == 60) {
            throw new IllegalStateException();
        }
        typed += c;
        return typed.length();
    }

    int drop() {
        int length = typed.length();
        typed = "";
        return length;
    }

    private int shelve(Node node) {
        change(0);
        now.shelf.add(node);
        return now.shelf.size() - 1;
    }

    private void room() {
        if (now.shelf.size() == 30) {
            throw new IllegalStateException();
        }
    }

    private Node tree(int tree) {
        if (tree < 0 || tree >= now.shelf.size()) {
            throw new IndexOutOfBoundsException();
        }
        return now.shelf.get(tree);
    }

    private static void name(char name) {
        if (name < 'a' || name > 'z') {
            throw new IllegalArgumentException();
        }
    }

    int read() {
        Node node = parse(typed);
        if (node == null) {
            throw new IllegalStateException();
        }
        room();
        typed = "";
        return shelve(node);
    }

    int trees() {
        return now.shelf.size();
    }

    int node(int tree, int node, int what) {
        List<Node> all = tree(tree).all();
        if (node < 0 || node >= all.size()) {
            throw new IndexOutOfBoundsException();
        }
        if (what < 0 || what > 5) {
            throw new IllegalArgumentException();
        }
        Node told = all.get(node);
        int parent = -1;
        for (int i = 0; i < all.size(); i++) {
            if (all.get(i).kids.stream().anyMatch(kid -> kid == told) && i < node && node < i + all.get(i).size()) {
                parent = i;
            }
        }
        return new int[] {told.kind, told.value, told.fix, told.kids.size(), parent, told.size()}[what];
    }

    boolean isSame(int tree, int other) {
        return tree(tree).show().equals(tree(other).show());
    }

    int part(int tree, int node) {
        List<Node> all = tree(tree).all();
        if (node < 0 || node >= all.size()) {
            throw new IndexOutOfBoundsException();
        }
        room();
        return shelve(copy(all.get(node)));
    }

    /** Copies, so that no node stands in a tree twice. */
    static Node copy(Node node) {
        Node copy = new Node(node.kind, node.value, node.fix);
        for (Node kid : node.kids) {
            copy.kids.add(copy(kid));
        }
        return copy;
    }

    private static Node grafted(Node node, char name, Node other) {
        if (node.kind == 1 && node.value == name) {
            return copy(other);
        }
        Node made = new Node(node.kind, node.value, node.fix);
        for (int k = 0; k < node.kids.size(); k++) {
            Node kid = node.kids.get(k);
            boolean kept = k == 0 && node.kind == 2 && node.value == 's' && kid.kind == 1;
            made.kids.add(kept ? copy(kid) : grafted(kid, name, other));
        }
        return made;
    }

    int graft(int tree, char name, int other) {
        Node a = tree(tree);
        Node b = tree(other);
        name(name);
        room();
        Node made = grafted(a, name, b);
        if (made.size() > 80) {
            throw new IllegalStateException();
        }
        return shelve(made);
    }

    int tell(char sign, int fix, int rank, int side, int meaning) {
        boolean fits = SIGNS.indexOf(sign) >= 0 && fix >= 0 && fix <= 2 && rank >= 1 && rank <= 9 && side >= 0 && side <= 2;
        fits = fits && (fix == 2 || side == 0);
        boolean function = meaning >= 100 && meaning <= 125 && meaning != 108 && meaning != 118;
        fits = fits && (function || (fix == 2 ? meaning >= 0 && meaning <= 10 : meaning >= 11 && meaning <= 13));
        if (!fits) {
            throw new IllegalArgumentException();
        }
        if ((fix == 2 && op(sign, 1) != null) || (fix == 1 && op(sign, 2) != null)) {
            throw new IllegalStateException();
        }
        for (char other : SIGNS.toCharArray()) {
            Op told = op(other, 2);
            if (fix == 2 && other != sign && told != null && told.rank == rank && told.side != side) {
                throw new IllegalStateException();
            }
        }
        int was = op(sign, fix) == null ? 0 : op(sign, fix).rank;
        change(1);
        op("" + sign, fix, rank, side, meaning);
        return was;
    }

    int told(char sign, int fix, int what) {
        if (fix < 0 || fix > 2 || what < 0 || what > 2) {
            throw new IllegalArgumentException();
        }
        Op op = op(sign, fix);
        return op == null ? -1 : what == 0 ? op.rank : what == 1 ? op.side : op.meaning;
    }

    // ---- printing

    private String bracketed(Node node) {
        if (node.kind == 0) {
            return "" + node.value;
        }
        if (node.kind == 1) {
            return "" + (char) node.value;
        }
        List<String> kids = new ArrayList<>();
        for (Node kid : node.kids) {
            String text = bracketed(kid);
            kids.add(node.kind == 3 && kid.kind == 3 ? "(" + text + ")" : text);
        }
        char c = (char) node.value;
        if (node.kind == 2) {
            return c + "(" + String.join(",", kids) + ")";
        }
        return node.fix == 0 ? c + kids.get(0) : node.fix == 1 ? kids.get(0) + c : kids.get(0) + c + kids.get(1);
    }

    String fewest(Node node) {
        String text = bracketed(node);
        String want = node.show();
        for (int open = 0; open < text.length(); open++) {
            boolean call = open > 0 && Character.isLetter(text.charAt(open - 1));
            if (text.charAt(open) != '(' || call) {
                continue;
            }
            int close = open;
            int depth = 0;
            do {
                depth += text.charAt(close) == '(' ? 1 : text.charAt(close) == ')' ? -1 : 0;
                close++;
            } while (depth > 0);
            String without = text.substring(0, open) + text.substring(open + 1, close - 1) + text.substring(close);
            Node got = parse(without);
            if (got != null && got.show().equals(want)) {
                text = without;
                open--;
            }
        }
        return text;
    }

    int print(int tree) {
        printed = fewest(tree(tree));
        return printed.length();
    }

    private static boolean lazy(Node node) {
        return node.all().stream().anyMatch(n -> n.kind == 2 && (n.value == 'i' || n.value == 's'));
    }

    private String postfixOf(Node node) {
        StringBuilder text = new StringBuilder();
        for (Node kid : node.kids) {
            text.append(postfixOf(kid)).append(' ');
        }
        if (node.kind == 0) {
            return "" + node.value;
        }
        text.append((char) node.value);
        if (node.kind == 2) {
            text.append(node.kids.size());
        }
        if (node.kind == 3 && node.fix == 0) {
            text.append('\'');
        }
        return text.toString();
    }

    int postfix(int tree) {
        Node node = tree(tree);
        if (lazy(node)) {
            throw new IllegalStateException();
        }
        printed = postfixOf(node);
        return printed.length();
    }

    int out(int place) {
        if (place < 0 || place >= printed.length()) {
            throw new IndexOutOfBoundsException();
        }
        return printed.charAt(place);
    }

    // ---- reckoning

    private int counted;

    private void count() {
        if (counted == 200) {
            throw new Fault(9);
        }
        counted++;
    }

    private static Frac fitting(Frac value) {
        if (!value.fits()) {
            throw new Fault(3);
        }
        return value;
    }

    private Frac value(Node node, Map<Character, Frac> own, int depth) {
        if (node.kind == 2 && node.value == 'i') {
            count();
            if (node.kids.size() != 3) {
                throw new Fault(5);
            }
            boolean holds = !value(node.kids.get(0), own, depth).isZero();
            return value(node.kids.get(holds ? 1 : 2), own, depth);
        }
        if (node.kind == 2 && node.value == 's') {
            return sumOf(node, own, depth);
        }
        List<Frac> operands = new ArrayList<>();
        for (Node kid : node.kids) {
            operands.add(value(kid, own, depth));
        }
        count();
        switch (node.kind) {
            case 0:
                return Frac.of(node.value);
            case 1:
                Frac value = own.get((char) node.value);
                value = value == null ? now.names.get((char) node.value) : value;
                if (value == null) {
                    throw new Fault(4);
                }
                return value;
            case 2:
                return call((char) node.value, operands, depth);
            default:
                int meaning = op(node.value, node.fix).meaning;
                return meaning >= 100 ? call((char) ('a' + meaning - 100), operands, depth) : operate(meaning, operands);
        }
    }

    private Frac sumOf(Node node, Map<Character, Frac> own, int depth) {
        count();
        if (node.kids.size() != 4) {
            throw new Fault(5);
        }
        if (node.kids.get(0).kind != 1) {
            throw new Fault(10);
        }
        Frac least = value(node.kids.get(1), own, depth);
        Frac greatest = value(node.kids.get(2), own, depth);
        if (!least.isWhole() || !greatest.isWhole()) {
            throw new Fault(2);
        }
        if (greatest.minus(least).compare(Frac.of(30)) >= 0) {
            throw new Fault(3);
        }
        Frac sum = Frac.of(0);
        for (Frac k = least; k.compare(greatest) <= 0; k = k.plus(Frac.of(1))) {
            Map<Character, Frac> inner = new HashMap<>(own);
            inner.put((char) node.kids.get(0).value, k);
            sum = fitting(sum.plus(value(node.kids.get(3), inner, depth)));
        }
        return sum;
    }

    private Frac call(char name, List<Frac> arguments, int depth) {
        Func function = now.functions.get(name);
        if (function == null || function.parameters != arguments.size()) {
            throw new Fault(5);
        }
        if (depth == 12) {
            throw new Fault(8);
        }
        Map<Character, Frac> own = new HashMap<>();
        for (int k = 0; k < arguments.size(); k++) {
            own.put("xyz".charAt(k), arguments.get(k));
        }
        List<Node> holding = new ArrayList<>();
        for (Node[] one : function.cases) {
            if (one[0] == null || !value(one[0], own, depth + 1).isZero()) {
                holding.add(one[1]);
            }
        }
        if (holding.size() != 1) {
            throw new Fault(holding.isEmpty() ? 6 : 7);
        }
        return value(holding.get(0), own, depth + 1);
    }

    private static Frac truth(boolean true1) {
        return Frac.of(true1 ? 1 : 0);
    }

    private static Frac operate(int meaning, List<Frac> operands) {
        Frac a = operands.get(0);
        Frac b = operands.size() > 1 ? operands.get(1) : null;
        switch (meaning) {
            case 0: return fitting(a.plus(b));
            case 1: return fitting(a.minus(b));
            case 2: return fitting(a.times(b));
            case 3:
                fail(b.isZero(), 1);
                return fitting(a.over(b));
            case 4:
                fail(!a.isWhole() || !b.isWhole(), 2);
                fail(b.isZero(), 1);
                return new Frac(a.top.mod(b.top.abs()), BigInteger.ONE);
            case 5:
                fail(!b.isWhole(), 2);
                fail(a.isZero() && b.top.signum() < 0, 1);
                fail(b.top.abs().compareTo(BigInteger.valueOf(64)) > 0, 3);
                return fitting(a.power(b.top.intValue()));
            case 6: return truth(a.compare(b) < 0);
            case 7: return truth(a.compare(b) == 0);
            case 8: return truth(a.compare(b) > 0);
            case 9: return truth(!a.isZero() && !b.isZero());
            case 10: return truth(!a.isZero() || !b.isZero());
            case 11: return a.negate();
            case 12: return truth(a.isZero());
            default:
                fail(!a.isWhole() || a.top.signum() < 0, 2);
                fail(a.compare(Frac.of(30)) > 0, 3);
                Frac product = Frac.of(1);
                for (int k = 2; k <= a.top.intValue(); k++) {
                    product = product.times(Frac.of(k));
                }
                return product;
        }
    }

    private static void fail(boolean failed, int fault) {
        if (failed) {
            throw new Fault(fault);
        }
    }

    private Frac latest;

    private int faultOf(Node node) {
        counted = 0;
        try {
            latest = value(node, new HashMap<>(), 0);
            return 0;
        } catch (Fault fault) {
            return fault.number;
        }
    }

    int evaluate(int tree) {
        int fault = faultOf(tree(tree));
        answer = fault == 0 ? latest : answer;
        return fault;
    }

    int reckon(int tree) {
        if (lazy(tree(tree))) {
            throw new IllegalStateException();
        }
        return evaluate(tree);
    }

    int answer(int part, int radix) {
        if (part < 0 || part > 1 || radix < 2 || radix > 36) {
            throw new IllegalArgumentException();
        }
        printed = (part == 0 ? answer.top : answer.bottom).toString(radix);
        return printed.length();
    }

    int let(char name, int tree) {
        name(name);
        int fault = faultOf(tree(tree));
        if (fault == 0) {
            change(2);
            now.names.put(name, latest);
        }
        return fault;
    }

    boolean unlet(char name) {
        name(name);
        if (!now.names.containsKey(name)) {
            return false;
        }
        change(2);
        now.names.remove(name);
        return true;
    }

    boolean recall(char name) {
        name(name);
        answer = now.names.getOrDefault(name, answer);
        return now.names.containsKey(name);
    }

    int define(char name, int parameters) {
        name(name);
        if (name == 'i' || name == 's' || parameters < 1 || parameters > 3) {
            throw new IllegalArgumentException();
        }
        Func was = now.functions.get(name);
        change(3);
        now.functions.put(name, new Func(parameters, List.of()));
        return was == null ? -1 : was.cases.size();
    }

    int addCase(char name, int condition, int value) {
        name(name);
        Node when = condition == -1 ? null : tree(condition);
        Node then = tree(value);
        Func was = now.functions.get(name);
        if (was == null || was.cases.size() == 4 || then.size() > 30 || (when != null && when.size() > 30)) {
            throw new IllegalStateException();
        }
        change(3);
        List<Node[]> cases = new ArrayList<>(was.cases);
        cases.add(new Node[] {when, then});
        now.functions.put(name, new Func(was.parameters, cases));
        return cases.size();
    }

    // ---- simpler

    private int meaning(Node node) {
        return node.kind == 3 ? op(node.value, node.fix).meaning : -1;
    }

    private static boolean is(Node node, int number) {
        return node.kind == 0 && node.value == number;
    }

    private int rule;
    private Node where;

    /** The tree after one step, and the rule; the same tree and 0 if none fits. */
    private Node stepped(Node node) {
        Node made = new Node(node.kind, node.value, node.fix);
        for (Node kid : node.kids) {
            made.kids.add(rule == 0 ? stepped(kid) : kid);
        }
        if (rule != 0 || node.kind != 3) {
            return rule != 0 ? made : node;
        }
        Node simpler = simpler(node);
        if (simpler == null) {
            return node;
        }
        where = node;
        return simpler;
    }

    private Node found(int number, Node node) {
        rule = number;
        return node;
    }

    private Node simpler(Node node) {
        int m = meaning(node);
        Node a = node.kids.get(0);
        Node b = node.kids.size() > 1 ? node.kids.get(1) : null;
        if (m >= 0 && m <= 5 && m != 4 && a.kind == 0 && b.kind == 0) {
            try {
                Frac value = operate(m, List.of(Frac.of(a.value), Frac.of(b.value)));
                if (value.isWhole() && value.top.signum() >= 0 && value.compare(Frac.of(999999999)) <= 0) {
                    return found(1, new Node(0, value.top.intValue(), -1));
                }
            } catch (Fault none) {
                rule = 0;
            }
        }
        if (m == 0 && is(a, 0)) {
            return found(2, b);
        }
        if ((m == 0 || m == 1) && is(b, 0)) {
            return found(2, a);
        }
        if (m == 2 && is(a, 1)) {
            return found(3, b);
        }
        if ((m == 2 || m == 3 || m == 5) && is(b, 1)) {
            return found(3, a);
        }
        if (m == 2 && (is(a, 0) || is(b, 0))) {
            return found(4, new Node(0, 0, -1));
        }
        if ((m == 1 || m == 3) && a.show().equals(b.show())) {
            return found(5, new Node(0, m == 1 ? 0 : 1, -1));
        }
        if (m == 11 && meaning(a) == 11) {
            return found(6, a.kids.get(0));
        }
        if (m == 0 && meaning(a) == 2 && meaning(b) == 2 && a.kids.get(0).kind == 0 && b.kids.get(0).kind == 0
            && a.kids.get(1).show().equals(b.kids.get(1).show())
            && a.kids.get(0).value + b.kids.get(0).value <= 999999999) {
            Node number = new Node(0, a.kids.get(0).value + b.kids.get(0).value, -1);
            return found(7, new Node(3, a.value, a.fix, number, a.kids.get(1)));
        }
        return null;
    }

    private Node steps(Node from, int most) {
        steps = new ArrayList<>();
        Node node = from;
        for (int turn = 0; turn < most; turn++) {
            rule = 0;
            Node next = stepped(node);
            if (rule == 0) {
                break;
            }
            int place = 0;
            List<Node> all = node.all();
            while (all.get(place) != where) {
                place++;
            }
            steps.add(new int[] {rule, place});
            node = copy(next);
        }
        return node;
    }

    int step(int tree) {
        Node from = tree(tree);
        room();
        Node to = steps(from, 1);
        return steps.isEmpty() ? -1 : shelve(to);
    }

    int simplify(int tree) {
        Node from = tree(tree);
        room();
        Node to = steps(from, 1000);
        return steps.isEmpty() ? tree : shelve(to);
    }

    int trace(int place, int what) {
        if (what < 0 || what > 1) {
            throw new IllegalArgumentException();
        }
        return place < 0 || place >= steps.size() ? -1 : steps.get(place)[what];
    }

    // ---- polynomials

    private static Frac[] trimmed(Frac[] p) {
        int degree = p.length - 1;
        while (degree > 0 && p[degree].isZero()) {
            degree--;
        }
        Frac[] made = new Frac[degree + 1];
        System.arraycopy(p, 0, made, 0, degree + 1);
        return made;
    }

    private static Frac[] product(Frac[] a, Frac[] b) {
        Frac[] made = new Frac[a.length + b.length - 1];
        for (int i = 0; i < made.length; i++) {
            made[i] = Frac.of(0);
        }
        for (int i = 0; i < a.length; i++) {
            for (int j = 0; j < b.length; j++) {
                made[i + j] = made[i + j].plus(a[i].times(b[j]));
            }
        }
        return trimmed(made);
    }

    /** The polynomial of a tree; throws a Fault if it is none. */
    private Frac[] polynomialOf(Node node, char name) {
        Frac[] made = rawPolynomialOf(node, name);
        fail(made.length > 9, 0);
        for (Frac one : made) {
            fail(!one.fits(), 0);
        }
        return made;
    }

    private Frac[] rawPolynomialOf(Node node, char name) {
        if (node.kind == 0) {
            return new Frac[] {Frac.of(node.value)};
        }
        if (node.kind == 1) {
            if (node.value == name) {
                return new Frac[] {Frac.of(0), Frac.of(1)};
            }
            fail(!now.names.containsKey((char) node.value), 0);
            return new Frac[] {now.names.get((char) node.value)};
        }
        int m = meaning(node);
        fail(!(m >= 0 && m <= 3) && m != 5 && m != 11, 0);
        Frac[] a = polynomialOf(node.kids.get(0), name);
        if (m == 11) {
            return product(a, new Frac[] {Frac.of(-1)});
        }
        Node right = node.kids.get(1);
        if (m == 5) {
            fail(right.kind != 0 || right.value > 8, 0);
            Frac[] power = {Frac.of(1)};
            for (int k = 0; k < right.value; k++) {
                power = product(power, a);
            }
            return power;
        }
        Frac[] b = polynomialOf(right, name);
        if (m == 2) {
            return product(a, b);
        }
        if (m == 3) {
            fail(b.length != 1 || b[0].isZero(), 0);
            return product(a, new Frac[] {Frac.of(1).over(b[0])});
        }
        Frac[] sum = new Frac[Math.max(a.length, b.length)];
        for (int i = 0; i < sum.length; i++) {
            Frac left = i < a.length ? a[i] : Frac.of(0);
            Frac other = i < b.length ? b[i] : Frac.of(0);
            sum[i] = m == 0 ? left.plus(other) : left.minus(other);
        }
        return trimmed(sum);
    }

    int gather(int tree, char name) {
        Node node = tree(tree);
        name(name);
        try {
            polynomial = polynomialOf(node, name);
            return polynomial.length - 1;
        } catch (Fault none) {
            return -1;
        }
    }

    boolean coefficient(int power) {
        if (power < 0 || power > 8) {
            throw new IllegalArgumentException();
        }
        answer = power < polynomial.length ? polynomial[power] : Frac.of(0);
        return !answer.isZero();
    }

    private boolean derivable(Node node) {
        int m = meaning(node);
        boolean here = node.kind < 2 || (m >= 0 && m <= 3) || m == 11 || (m == 5 && node.kids.get(1).kind == 0);
        return here && node.kids.stream().allMatch(this::derivable);
    }

    private Node two(Node like, int meaning, Node a, Node b) {
        if (meaning(like) == meaning) {
            return new Node(3, like.value, like.fix, a, b);
        }
        for (char sign = 0; sign < 128; sign++) {
            if (op(sign, 2) != null && op(sign, 2).meaning == meaning) {
                return new Node(3, sign, 2, a, b);
            }
        }
        throw new Fault(0);
    }

    private Node derivative(Node node, char name) {
        if (node.kind < 2) {
            return new Node(0, node.kind == 1 && node.value == name ? 1 : 0, -1);
        }
        Node a = node.kids.get(0);
        int m = meaning(node);
        if (m == 11) {
            return new Node(3, node.value, node.fix, derivative(a, name));
        }
        Node b = node.kids.get(1);
        if (m == 0 || m == 1) {
            return new Node(3, node.value, node.fix, derivative(a, name), derivative(b, name));
        }
        if (m == 5) {
            if (b.value == 0) {
                return new Node(0, 0, -1);
            }
            Node less = two(node, 5, copy(a), new Node(0, b.value - 1, -1));
            return two(node, 2, two(node, 2, new Node(0, b.value, -1), less), derivative(a, name));
        }
        Node left = two(node, 2, derivative(a, name), copy(b));
        Node right = two(node, 2, copy(a), derivative(b, name));
        if (m == 2) {
            return two(node, 0, left, right);
        }
        return two(node, 3, two(node, 1, left, right), two(node, 5, copy(b), new Node(0, 2, -1)));
    }

    int derive(int tree, char name) {
        Node node = tree(tree);
        name(name);
        room();
        if (!derivable(node)) {
            throw new IllegalStateException();
        }
        Node made;
        try {
            made = derivative(node, name);
        } catch (Fault none) {
            throw new IllegalStateException();
        }
        if (made.size() > 80) {
            throw new IllegalStateException();
        }
        return shelve(made);
    }

    /** A value and its part of e. */
    private Frac[] pair(Node node, char name) {
        List<Frac[]> pairs = new ArrayList<>();
        List<Frac> values = new ArrayList<>();
        for (Node kid : node.kids) {
            pairs.add(pair(kid, name));
            values.add(pairs.get(pairs.size() - 1)[0]);
        }
        if (node.kind < 2) {
            Frac value = value(node, new HashMap<>(), 0);
            return new Frac[] {value, Frac.of(node.kind == 1 && node.value == name ? 1 : 0)};
        }
        Frac value = operate(meaning(node), values);
        Frac a = values.get(0);
        Frac b = values.size() > 1 ? values.get(1) : null;
        Frac da = pairs.get(0)[1];
        Frac db = values.size() > 1 ? pairs.get(1)[1] : null;
        Frac part;
        switch (meaning(node)) {
            case 0: part = da.plus(db); break;
            case 1: part = da.minus(db); break;
            case 2: part = da.times(b).plus(a.times(db)); break;
            case 3: part = da.times(b).minus(a.times(db)).over(b.times(b)); break;
            case 5: part = b.isZero() ? Frac.of(0) : b.times(a.power(b.top.intValue() - 1)).times(da); break;
            default: part = da.negate(); break;
        }
        return new Frac[] {value, fitting(part)};
    }

    int slope(int tree, char name) {
        Node node = tree(tree);
        name(name);
        if (!derivable(node)) {
            throw new IllegalStateException();
        }
        counted = 0;
        try {
            answer = pair(node, name)[1];
            return 0;
        } catch (Fault fault) {
            return fault.number;
        }
    }

    int solve(int tree, char name) {
        Node node = tree(tree);
        name(name);
        if (meaning(node) != 7) {
            return -1;
        }
        try {
            Frac[] left = polynomialOf(node.kids.get(0), name);
            Frac[] right = polynomialOf(node.kids.get(1), name);
            if (left.length > 2 || right.length > 2) {
                return -1;
            }
            Frac zero = Frac.of(0);
            Frac named = (left.length > 1 ? left[1] : zero).minus(right.length > 1 ? right[1] : zero);
            Frac alone = right[0].minus(left[0]);
            if (named.isZero()) {
                return alone.isZero() ? 2 : 0;
            }
            Frac solution = alone.over(named);
            if (!solution.fits()) {
                return -1;
            }
            answer = solution;
            return 1;
        } catch (Fault none) {
            return -1;
        }
    }

    int undo() {
        if (before.isEmpty()) {
            return -1;
        }
        int kind = now.changed;
        now = before.remove(before.size() - 1);
        return kind;
    }

    /** The document says that all its aims hold always. */
    boolean audit(int part, int tree) {
        if (part < 0 || part > 3) {
            throw new IllegalArgumentException();
        }
        tree(tree);
        return true;
    }
}
