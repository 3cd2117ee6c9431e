/**
 * A desk that reckons: texts with operators of any rank are read into trees, printed, reckoned in exact fractions,
 * made simpler, differentiated and solved; what was changed can be undone. DOC.md has the promises.
 *
 * All rows are made once, in constructors, and used again: a call makes no object but the exception that it throws.
 */
public final class Rankwise {
    public static final int NONE = -1;
    public static final int BEFORE = 0, BEHIND = 1, BETWEEN = 2;
    public static final int LEFT = 0, RIGHT = 1, NEITHER = 2;
    public static final int ADD = 0, SUBTRACT = 1, MULTIPLY = 2, DIVIDE = 3, REMAINDER = 4, POWER = 5, LESS = 6, EQUAL = 7, GREATER = 8, AND = 9, OR = 10, NEGATE = 11, NOT = 12, FACTORIAL = 13, FUNCTION = 100;
    public static final int NUMBER = 0, NAME = 1, CALL = 2, OPERATOR = 3;
    public static final int BY_ZERO = 1, NOT_WHOLE = 2, TOO_GREAT = 3, NO_VALUE = 4, NO_FUNCTION = 5, NO_CASE = 6, TWO_CASES = 7, TOO_DEEP = 8, TOO_LONG = 9, NO_RANGE = 10;
    public static final int NO_SOLUTION = 0, ONE_SOLUTION = 1, ALL_SOLVE = 2;
    public static final int SHELF = 0, TABLE = 1, MEMORY = 2, FUNCTIONS = 3;

    private static final int MOST_TYPED = 60;
    private static final int MOST_CASES = 4;
    private static final int MOST_CASE_NODES = 30;
    private static final int MOST_POWER = 8;

    private final char[] typed;
    private int typedCount;
    private final Desk desk;
    private final Reader reader;
    private final Printer printer;
    /** A printer of its own, so that an audit leaves what was printed as it is. */
    private final Printer proof;
    private final Machine machine;
    private final Slopes slopes;
    private final Rewriter rewriter;
    private final Gatherer gatherer;
    private final Fraction latest;
    private final Fraction compared;
    private final Tree work;
    private final int[] traceRules;
    private final int[] traceNodes;
    private int traced;

    public Rankwise() {
        Arithmetic arithmetic = new Arithmetic();
        typed = new char[MOST_TYPED];
        desk = new Desk();
        reader = new Reader(desk);
        printer = new Printer(reader);
        proof = new Printer(reader);
        machine = new Machine(desk, arithmetic);
        slopes = new Slopes(machine, arithmetic);
        rewriter = new Rewriter(desk);
        gatherer = new Gatherer(desk, arithmetic);
        latest = new Fraction(Whole.NARROW);
        compared = new Fraction(Whole.NARROW);
        work = new Tree();
        traceRules = new int[Tree.MOST];
        traceNodes = new int[Tree.MOST];
    }

    // ---- typing

    public int type(char character) throws IllegalStateException {
        if (typedCount >= typed.length) {
            throw new IllegalStateException("60 characters are typed");
        }
        typed[typedCount] = character;
        typedCount++;
        return typedCount;
    }

    public int drop() {
        int dropped = typedCount;
        typedCount = 0;
        return dropped;
    }

    public int fault() {
        reader.split(typed, typedCount);
        return reader.byStacks();
    }

    public int read() throws IllegalStateException {
        reader.split(typed, typedCount);
        if (reader.byStacks() != NONE) {
            throw new IllegalStateException("what is typed is no text");
        }
        needRoom();
        typedCount = 0;
        work.turn(reader.line);
        return desk.shelve(work);
    }

    // ---- trees

    public int trees() {
        return desk.trees;
    }

    public int node(int tree, int node, int what) throws IndexOutOfBoundsException, IllegalArgumentException {
        Tree told = treeAt(tree);
        needNode(told, node);
        switch (what) {
            case 0: return told.kinds[node];
            case 1: return told.values[node];
            case 2: return told.fixes[node];
            case 3: return told.arities[node];
            case 4: return told.parentOf(node);
            case 5: return told.sizes[node];
            default: throw new IllegalArgumentException("what is not 0 to 5");
        }
    }

    public boolean isSame(int tree, int other) throws IndexOutOfBoundsException {
        return treeAt(tree).sameAs(treeAt(other));
    }

    public int part(int tree, int node) throws IndexOutOfBoundsException, IllegalStateException {
        Tree whole = treeAt(tree);
        needNode(whole, node);
        needRoom();
        work.clear();
        work.addPart(whole, node);
        work.measure();
        return desk.shelve(work);
    }

    public int graft(int tree, char name, int other) throws IndexOutOfBoundsException, IllegalArgumentException, IllegalStateException {
        Tree stock = treeAt(tree);
        Tree scion = treeAt(other);
        needName(name);
        needRoom();
        if (!work.graftOnto(stock, name, scion)) {
            throw new IllegalStateException("it would have more than 80 nodes");
        }
        return desk.shelve(work);
    }

    // ---- operators

    public int tell(char sign, int fix, int rank, int side, int meaning) throws IllegalArgumentException, IllegalStateException {
        if (!desk.isSign(sign) || !Desk.isFix(fix) || !Desk.isOperator(fix, rank, side, meaning)) {
            throw new IllegalArgumentException("there is no such operator");
        }
        if (desk.clashes(sign, fix, rank, side)) {
            throw new IllegalStateException("it does not agree with the operators that are told");
        }
        int before = desk.rank(sign, fix);
        desk.tellOperator(sign, fix, rank, side, meaning);
        return before;
    }

    public int told(char sign, int fix, int what) throws IllegalArgumentException {
        if (!Desk.isFix(fix) || what < 0 || what > 2) {
            throw new IllegalArgumentException("no such fix, or what is not 0 to 2");
        }
        if (desk.rank(sign, fix) == 0) {
            return NONE;
        }
        if (what == 0) {
            return desk.rank(sign, fix);
        }
        return what == 1 ? desk.side(sign, fix) : desk.meaning(sign, fix);
    }

    // ---- printing

    public int print(int tree) throws IndexOutOfBoundsException {
        printer.fewest(treeAt(tree));
        return printer.count;
    }

    public int postfix(int tree) throws IndexOutOfBoundsException, IllegalStateException {
        Tree printed = treeAt(tree);
        needNoLazyCall(printed);
        printer.line(printed);
        return printer.count;
    }

    public int out(int place) throws IndexOutOfBoundsException {
        if (place < 0 || place >= printer.count) {
            throw new IndexOutOfBoundsException("no such place is printed");
        }
        return printer.text[place];
    }

    // ---- reckoning

    public int evaluate(int tree) throws IndexOutOfBoundsException {
        Tree reckoned = treeAt(tree);
        machine.startTree(reckoned);
        return answerOf(machine.work());
    }

    public int reckon(int tree) throws IndexOutOfBoundsException, IllegalStateException {
        Tree reckoned = treeAt(tree);
        needNoLazyCall(reckoned);
        machine.startLine(reckoned);
        return answerOf(machine.work());
    }

    public int answer(int part, int radix) throws IllegalArgumentException {
        if (part < 0 || part > 1 || radix < 2 || radix > 36) {
            throw new IllegalArgumentException("no such part or radix");
        }
        printer.digits(part == 0 ? latest.top : latest.bottom, radix);
        return printer.count;
    }

    public int let(char name, int tree) throws IllegalArgumentException, IndexOutOfBoundsException {
        int letter = letterOf(name);
        Tree reckoned = treeAt(tree);
        machine.startTree(reckoned);
        int fault = machine.work();
        if (fault == 0) {
            desk.giveValue(letter, machine.result());
        }
        return fault;
    }

    public boolean unlet(char name) throws IllegalArgumentException {
        return desk.takeValue(letterOf(name));
    }

    public boolean recall(char name) throws IllegalArgumentException {
        int letter = letterOf(name);
        if (!desk.known[letter]) {
            return false;
        }
        latest.copy(desk.names[letter]);
        return true;
    }

    // ---- functions

    public int define(char name, int parameters) throws IllegalArgumentException {
        int letter = letterOf(name);
        if (name == 'i' || name == 's' || parameters < 1 || parameters > 3) {
            throw new IllegalArgumentException("no such function can be");
        }
        int before = desk.parametersOf(letter) == 0 ? NONE : desk.casesOf(letter);
        desk.makeFunction(letter, parameters);
        return before;
    }

    public int addCase(char name, int condition, int value) throws IllegalArgumentException, IndexOutOfBoundsException, IllegalStateException {
        int letter = letterOf(name);
        int nodes = treeAt(value).count;
        if (condition != NONE) {
            nodes = Math.max(nodes, treeAt(condition).count);
        }
        if (desk.parametersOf(letter) == 0 || desk.casesOf(letter) >= MOST_CASES || nodes > MOST_CASE_NODES) {
            throw new IllegalStateException("no such function, 4 cases, or more than 30 nodes");
        }
        desk.addToFunction(letter, condition, value);
        return desk.casesOf(letter);
    }

    // ---- simpler

    public int step(int tree) throws IndexOutOfBoundsException, IllegalStateException {
        Tree from = treeAt(tree);
        needRoom();
        return takeSteps(from, 1) == 0 ? NONE : desk.shelve(work);
    }

    public int simplify(int tree) throws IndexOutOfBoundsException, IllegalStateException {
        Tree from = treeAt(tree);
        needRoom();
        return takeSteps(from, Tree.MOST) == 0 ? tree : desk.shelve(work);
    }

    public int trace(int place, int what) throws IllegalArgumentException {
        if (what < 0 || what > 1) {
            throw new IllegalArgumentException("what is not 0 or 1");
        }
        if (place < 0 || place >= traced) {
            return NONE;
        }
        return what == 0 ? traceRules[place] : traceNodes[place];
    }

    // ---- polynomials

    public int gather(int tree, char name) throws IndexOutOfBoundsException, IllegalArgumentException {
        Tree gathered = treeAt(tree);
        needName(name);
        int degree = gatherer.collect(gathered, 0, name);
        if (degree != NONE) {
            gatherer.keep();
        }
        return degree;
    }

    public boolean coefficient(int power) throws IllegalArgumentException {
        if (power < 0 || power > MOST_POWER) {
            throw new IllegalArgumentException("the power is not 0 to 8");
        }
        latest.copy(gatherer.kept[power]);
        return !latest.isZero();
    }

    public int derive(int tree, char name) throws IndexOutOfBoundsException, IllegalArgumentException, IllegalStateException {
        Tree from = treeAt(tree);
        needName(name);
        needRoom();
        if (!rewriter.differentiate(from, name)) {
            throw new IllegalStateException("there is no derivative of at most 80 nodes");
        }
        return desk.shelve(rewriter.made);
    }

    public int slope(int tree, char name) throws IndexOutOfBoundsException, IllegalArgumentException, IllegalStateException {
        Tree from = treeAt(tree);
        needName(name);
        if (!rewriter.hasRules(from)) {
            throw new IllegalStateException("it has a node of which no derivative is told");
        }
        int fault = slopes.reckonPart(from, name);
        if (fault == 0) {
            latest.copy(slopes.result());
        }
        return fault;
    }

    public int solve(int tree, char name) throws IndexOutOfBoundsException, IllegalArgumentException {
        Tree equation = treeAt(tree);
        needName(name);
        if (equation.kinds[0] != OPERATOR || desk.meaning(equation.values[0], equation.fixes[0]) != EQUAL) {
            return NONE;
        }
        int degree = gatherer.collect(equation, equation.child(0, 0), name);
        if (degree < 0 || degree > 1) {
            return NONE;
        }
        gatherer.setAside();
        degree = gatherer.collect(equation, equation.child(0, 1), name);
        if (degree < 0 || degree > 1) {
            return NONE;
        }
        int found = gatherer.compareSides();
        if (found == ONE_SOLUTION) {
            latest.copy(gatherer.solution);
        }
        return found;
    }

    // ---- all

    public int undo() {
        return desk.takeBack();
    }

    public boolean audit(int part, int tree) throws IllegalArgumentException, IndexOutOfBoundsException {
        if (part < 0 || part > 3) {
            throw new IllegalArgumentException("the part is not 0 to 3");
        }
        Tree audited = treeAt(tree);
        switch (part) {
            case 0:
                proof.fewest(audited);
                reader.split(proof.text, proof.count);
                return reader.stacksGive(audited) && reader.climbingGives(audited) && reader.needsAllBrackets(audited);
            case 1: return postfixAgrees(audited);
            case 2: return simplifiesWell(audited);
            default: return derivesWell(audited, 'x') && derivesWell(audited, 'y') && derivesWell(audited, 'z');
        }
    }

    private boolean postfixAgrees(Tree tree) {
        if (tree.hasLazyCall()) {
            return true;
        }
        machine.startTree(tree);
        int fault = machine.work();
        if (fault == 0) {
            compared.copy(machine.result());
        }
        machine.startLine(tree);
        return machine.work() == fault && (fault != 0 || machine.result().sameAs(compared));
    }

    private boolean simplifiesWell(Tree tree) {
        machine.startTree(tree);
        int fault = machine.work();
        if (fault == 0) {
            compared.copy(machine.result());
        }
        work.copy(tree);
        boolean more = true;
        for (int turn = 0; turn < Tree.MOST && more; turn++) {
            int nodes = work.count;
            more = rewriter.applyRule(work) != 0;
            if (more && work.count >= nodes) {
                return false;
            }
        }
        if (fault != 0) {
            return true;
        }
        machine.startTree(work);
        return machine.work() != 0 || machine.result().sameAs(compared);
    }

    private boolean derivesWell(Tree tree, char name) {
        if (!rewriter.differentiate(tree, name)) {
            return true;
        }
        machine.startTree(rewriter.made);
        if (machine.work() != 0) {
            return true;
        }
        compared.copy(machine.result());
        return slopes.reckonPart(tree, name) != 0 || slopes.result().sameAs(compared);
    }

    /** Makes work the tree, simpler by so many steps at most, and tells how many there were. */
    private int takeSteps(Tree from, int most) {
        work.copy(from);
        traced = 0;
        boolean more = true;
        for (int turn = 0; turn < most && traced < traceRules.length && more; turn++) {
            int rule = rewriter.applyRule(work);
            more = rule != 0;
            if (more) {
                traceRules[traced] = rule;
                traceNodes[traced] = rewriter.changedNode;
                traced++;
            }
        }
        return traced;
    }

    private int answerOf(int fault) {
        if (fault == 0) {
            latest.copy(machine.result());
        }
        return fault;
    }

    private Tree treeAt(int tree) {
        if (tree < 0 || tree >= desk.trees || tree >= desk.shelf.length) {
            throw new IndexOutOfBoundsException("there is no such tree");
        }
        return desk.shelf[tree];
    }

    private void needNode(Tree tree, int node) {
        if (node < 0 || node >= tree.count) {
            throw new IndexOutOfBoundsException("there is no such node");
        }
    }

    private void needRoom() {
        if (desk.trees >= desk.shelf.length) {
            throw new IllegalStateException("the shelf is full");
        }
    }

    private void needNoLazyCall(Tree tree) {
        if (tree.hasLazyCall()) {
            throw new IllegalStateException("it has a call of i or s");
        }
    }

    private void needName(char name) {
        if (name < 'a' || name > 'z') {
            throw new IllegalArgumentException("a name is a to z");
        }
    }

    private int letterOf(char name) {
        needName(name);
        return name - 'a';
    }

    /** A whole number of any sign in limbs of 30 bits, the lowest first, so that products of limbs fit in a long. */
    private static final class Whole {
        /** Limbs of what is kept: 210 bits, for the 200 that values may have. */
        static final int NARROW = 7;
        /** Limbs of what is on the way: enough for all sums of products that polynomials of degree 8 ask for. */
        static final int WIDE = 100;
        private static final int BITS = 30;
        private static final int MASK = (1 << BITS) - 1;

        private final int[] limbs;
        private int size;
        private boolean negative;

        Whole(int capacity) {
            limbs = new int[capacity > NARROW ? capacity : NARROW];
        }

        void set(long value) {
            negative = value < 0;
            size = 0;
            long rest = negative ? -value : value;
            for (int i = 0; i < limbs.length && rest > 0; i++) {
                limbs[i] = (int) (rest & MASK);
                rest >>= BITS;
                size = i + 1;
            }
        }

        void copy(Whole from) {
            negative = from.negative;
            copySize(from);
        }

        /** Becomes as far from 0 as another one, which is not 0, on its own side. */
        void copySize(Whole from) {
            size = from.size < limbs.length ? from.size : limbs.length;
            for (int i = 0; i < size; i++) {
                limbs[i] = from.limbs[i];
            }
        }

        boolean isZero() {
            return size == 0;
        }

        boolean isOne() {
            return size == 1 && limbs[0] == 1 && !negative;
        }

        void flip() {
            negative = !negative && size > 0;
        }

        int bits() {
            if (size == 0) {
                return 0;
            }
            int bits = (size - 1) * BITS;
            for (int top = limbs[size - 1]; top > 0; top >>= 1) {
                bits++;
            }
            return bits;
        }

        /** The number itself if it is small; else one of its sign that is above all limits. */
        int clamped() {
            int magnitude = size == 0 ? 0 : size == 1 ? limbs[0] : MASK;
            return negative ? -magnitude : magnitude;
        }

        /** Compares without signs. */
        static int compareSizes(Whole a, Whole b) {
            if (a.size != b.size) {
                return a.size < b.size ? -1 : 1;
            }
            for (int i = a.size - 1; i >= 0; i--) {
                if (a.limbs[i] != b.limbs[i]) {
                    return a.limbs[i] < b.limbs[i] ? -1 : 1;
                }
            }
            return 0;
        }

        static int compareSigned(Whole a, Whole b) {
            if (a.negative != b.negative) {
                return a.negative ? -1 : 1;
            }
            return a.negative ? compareSizes(b, a) : compareSizes(a, b);
        }

        /** Becomes a plus b, or a less b; it is neither of them. */
        void sum(Whole a, Whole b, boolean minus) {
            boolean flipped = b.negative != minus;
            boolean swapped = compareSizes(a, b) < 0;
            Whole more = swapped ? b : a;
            Whole less = swapped ? a : b;
            int factor = a.negative == flipped ? 1 : -1;
            int end = Math.min(more.size + 1, limbs.length);
            long carry = 0;
            for (int i = 0; i < end; i++) {
                long high = i < more.size ? more.limbs[i] : 0;
                long low = i < less.size ? less.limbs[i] : 0;
                long digit = high + factor * low + carry;
                limbs[i] = (int) (digit & MASK);
                carry = digit >> BITS;
            }
            negative = swapped ? flipped : a.negative;
            trim(end);
        }

        /** Becomes a times b; it is neither of them. */
        void multiply(Whole a, Whole b) {
            int end = Math.min(a.size + b.size, limbs.length);
            for (int i = 0; i < end; i++) {
                limbs[i] = 0;
            }
            for (int i = 0; i < a.size && i < end; i++) {
                long carry = 0;
                for (int j = 0; j < b.size && i + j < end; j++) {
                    long digit = limbs[i + j] + (long) a.limbs[i] * b.limbs[j] + carry;
                    limbs[i + j] = (int) (digit & MASK);
                    carry = digit >> BITS;
                }
                if (i + b.size < end) {
                    limbs[i + b.size] = (int) carry;
                }
            }
            negative = a.negative != b.negative;
            trim(end);
        }

        /** Divides by a small number above 0, and tells what remains. */
        int shrink(int divisor) {
            if (divisor < 1) {
                return 0;
            }
            long rest = 0;
            for (int i = size - 1; i >= 0; i--) {
                long digit = (rest << BITS) | limbs[i];
                limbs[i] = (int) (digit / divisor);
                rest = digit % divisor;
            }
            if (size > 0 && limbs[size - 1] == 0) {
                size--;
            }
            negative = negative && size > 0;
            return (int) rest;
        }

        /**
         * Leaves here what remains of this when it is divided by v, all without signs; quotient tells how often v was
         * in it. Digits are guessed from the highest limbs of both, as if v were shifted until its highest bit is set:
         * such a guess is at most 1 too high, which takeTimes() mends.
         */
        void divideBy(Whole v, Whole quotient) {
            negative = false;
            quotient.set(0);
            int n = v.size;
            if (n == 0 || compareSizes(this, v) < 0) {
                return;
            }
            if (n == 1) {
                quotient.copySize(this);
                set(quotient.shrink(v.limbs[0]));
                return;
            }
            int steps = Math.min(size - n + 1, quotient.limbs.length);
            for (int j = steps - 1; j >= 0; j--) {
                long digit = guess(v, j + n);
                quotient.limbs[j] = (int) takeTimes(v, digit, j);
            }
            quotient.trim(steps);
            trim(size);
        }

        /** A digit of a quotient; top is the place of this one's limb that is above the highest one of v. */
        private long guess(Whole v, int top) {
            int n = v.size;
            if (n < 2 || top < 2 || top > size) {
                return 0;
            }
            int shift = 0;
            for (int high = v.limbs[n - 1]; shift < BITS - 1 && (high >> (BITS - 1 - shift)) == 0; ) {
                shift++;
            }
            int back = BITS - shift;
            long first = (long) v.limbs[n - 1] << shift | v.limbs[n - 2] >> back;
            long second = ((long) v.limbs[n - 2] << shift & MASK) | (n > 2 ? v.limbs[n - 3] >> back : 0);
            long upper = ((long) (top < size ? limbs[top] : 0) << shift) | limbs[top - 1] >> back;
            long middle = ((long) limbs[top - 1] << shift & MASK) | limbs[top - 2] >> back;
            long lower = ((long) limbs[top - 2] << shift & MASK) | (top > 2 ? limbs[top - 3] >> back : 0);
            if (first < 1) {
                return 0;
            }
            long pair = upper << BITS | middle;
            long digit = pair / first < MASK ? pair / first : MASK;
            long rest = pair - digit * first;
            for (int turn = 0; turn < 3 && rest <= MASK && digit * second > (rest << BITS | lower); turn++) {
                digit--;
                rest += first;
            }
            return digit;
        }

        /** Takes digit times v away, shifted by so many limbs; one time less, if that is too much. Tells how often. */
        private long takeTimes(Whole v, long digit, int shift) {
            long borrow = 0;
            int top = shift + v.size;
            for (int i = 0; i < v.size && shift + i < size; i++) {
                long rest = limbs[shift + i] - digit * v.limbs[i] - borrow;
                limbs[shift + i] = (int) (rest & MASK);
                borrow = -(rest >> BITS);
            }
            long upper = (top < size ? limbs[top] : 0) - borrow;
            if (upper < 0) {
                long carry = 0;
                for (int i = 0; i < v.size && shift + i < size; i++) {
                    long rest = (long) limbs[shift + i] + v.limbs[i] + carry;
                    limbs[shift + i] = (int) (rest & MASK);
                    carry = rest >> BITS;
                }
                upper += carry;
                digit--;
            }
            if (top < size) {
                limbs[top] = (int) (upper & MASK);
            }
            return digit;
        }

        /** The size is what is left of so many limbs without zeros ahead. */
        private void trim(int most) {
            size = most;
            for (int i = most; i > 0 && limbs[i - 1] == 0; i--) {
                size = i - 1;
            }
            if (size == 0) {
                negative = false;
            }
        }

        boolean isShort() {
            return size <= 2;
        }

        /** Its size as a long, if it is short. */
        long shortSize() {
            long low = size > 0 ? limbs[0] : 0;
            return size > 1 ? (long) limbs[1] << BITS | low : low;
        }
    }

    /** A fraction; in lowest terms with the bottom above 0, but for what Arithmetic has not settled yet. */
    private static final class Fraction {
        private static final int MOST_BITS = 200;
        final Whole top;
        final Whole bottom;

        Fraction(int limbs) {
            top = new Whole(limbs);
            bottom = new Whole(limbs);
            bottom.set(1);
        }

        void set(long value) {
            top.set(value);
            bottom.set(1);
        }

        void copy(Fraction from) {
            top.copy(from.top);
            bottom.copy(from.bottom);
        }

        boolean isZero() {
            return top.isZero();
        }

        boolean isWhole() {
            return bottom.isOne();
        }

        boolean fits() {
            return top.bits() <= MOST_BITS && bottom.bits() <= MOST_BITS;
        }

        boolean sameAs(Fraction other) {
            return Whole.compareSigned(top, other.top) == 0 && Whole.compareSigned(bottom, other.bottom) == 0;
        }
    }

    /**
     * Exact arithmetic. Results are put into wide fractions, which may be operands, too; sum, times and over leave
     * them as they come, and settle brings them into lowest terms.
     */
    private static final class Arithmetic {
        /** Far more rounds than Euclid's way takes for the widest numbers. */
        private static final int MOST_ROUNDS = 100000;
        private final Whole left = new Whole(Whole.WIDE);
        private final Whole right = new Whole(Whole.WIDE);
        private final Whole third = new Whole(Whole.WIDE);
        private final Whole rest = new Whole(Whole.WIDE);

        void sum(Fraction to, Fraction a, Fraction b, boolean minus) {
            if (a.isWhole() && b.isWhole()) {
                left.sum(a.top, b.top, minus);
                to.top.copy(left);
                to.bottom.set(1);
                return;
            }
            left.multiply(a.top, b.bottom);
            right.multiply(b.top, a.bottom);
            third.multiply(a.bottom, b.bottom);
            to.bottom.copy(third);
            to.top.sum(left, right, minus);
        }

        void times(Fraction to, Fraction a, Fraction b) {
            left.multiply(a.top, b.top);
            right.multiply(a.bottom, b.bottom);
            to.top.copy(left);
            to.bottom.copy(right);
        }

        /** b is not 0. */
        void over(Fraction to, Fraction a, Fraction b) {
            left.multiply(a.top, b.bottom);
            right.multiply(a.bottom, b.top);
            to.top.copy(left);
            to.bottom.copy(right);
        }

        int compare(Fraction a, Fraction b) {
            left.multiply(a.top, b.bottom);
            right.multiply(b.top, a.bottom);
            return Whole.compareSigned(left, right);
        }

        /** What remains of a whole number, from 0 on; b is whole, too, and not 0. */
        void remainder(Fraction to, Fraction a, Fraction b) {
            left.copy(a.top);
            left.divideBy(b.top, right);
            third.copy(b.top);
            if (third.negative) {
                third.flip();
            }
            if (a.top.negative && !left.isZero()) {
                to.top.sum(third, left, true);
            } else {
                to.top.copy(left);
            }
            to.bottom.set(1);
        }

        /**
         * Powers of lowest terms are in lowest terms; false if one has more bits than it may. to is not a, and a is
         * not 0 if the exponent is below 0.
         */
        boolean power(Fraction to, Fraction a, int exponent) {
            int turns = exponent < 0 ? -exponent : exponent;
            to.set(1);
            for (int turn = 0; turn < turns; turn++) {
                left.multiply(to.top, a.top);
                right.multiply(to.bottom, a.bottom);
                to.top.copy(left);
                to.bottom.copy(right);
                if (!to.fits()) {
                    return false;
                }
            }
            if (exponent < 0) {
                left.copy(to.top);
                to.top.copy(to.bottom);
                to.bottom.copy(left);
            }
            return true;
        }

        /** n is 0 to 30. */
        void factorial(Fraction to, int n) {
            to.set(1);
            for (int k = 2; k <= n; k++) {
                right.set(k);
                left.multiply(to.top, right);
                to.top.copy(left);
            }
        }

        /** Brings a fraction into lowest terms, the bottom above 0; the bottom is not 0. */
        void settle(Fraction fraction) {
            if (fraction.bottom.negative) {
                fraction.bottom.flip();
                fraction.top.flip();
            }
            if (fraction.isZero()) {
                fraction.set(0);
            }
            if (fraction.isWhole()) {
                return;
            }
            Whole a = left;
            Whole b = right;
            a.copy(fraction.top);
            b.copy(fraction.bottom);
            for (int round = 0; round < MOST_ROUNDS && !(a.isShort() && b.isShort()) && !b.isZero(); round++) {
                a.divideBy(b, third);
                Whole swapped = a;
                a = b;
                b = swapped;
            }
            if (!b.isZero()) {
                a.set(commonDivisor(a.shortSize(), b.shortSize()));
            }
            if (!a.isOne()) {
                rest.copy(fraction.top);
                rest.divideBy(a, third);
                fraction.top.copySize(third);
                rest.copy(fraction.bottom);
                rest.divideBy(a, third);
                fraction.bottom.copySize(third);
            }
        }

        private static long commonDivisor(long a, long b) {
            long more = a;
            long less = b;
            for (int round = 0; round < MOST_ROUNDS && less > 0; round++) {
                long rest = more % less;
                more = less;
                less = rest;
            }
            return more;
        }
    }

    /** A tree's nodes in rows, each ahead of its operands. */
    private static final class Tree {
        static final int MOST = 80;
        final int[] kinds = new int[MOST];
        final int[] values = new int[MOST];
        final int[] fixes = new int[MOST];
        final int[] arities = new int[MOST];
        final int[] sizes = new int[MOST];
        /** Where each node stands in the order that has operands ahead of their operators. */
        final int[] places = new int[MOST];
        private final int[] nodes = new int[MOST];
        int count;

        void clear() {
            count = 0;
        }

        boolean add(int kind, int value, int fix, int arity) {
            if (count >= MOST) {
                return false;
            }
            kinds[count] = kind;
            values[count] = value;
            fixes[count] = fix;
            arities[count] = arity;
            count++;
            return true;
        }

        boolean addNode(Tree from, int node) {
            return node >= 0 && node < from.count
                && add(from.kinds[node], from.values[node], from.fixes[node], from.arities[node]);
        }

        boolean addPart(Tree from, int node) {
            if (node < 0 || node >= from.count) {
                return false;
            }
            int end = Math.min(node + from.sizes[node], from.count);
            boolean room = true;
            for (int i = node; i < end && room; i++) {
                room = addNode(from, i);
            }
            return room;
        }

        void copy(Tree from) {
            clear();
            addPart(from, 0);
            measure();
        }

        /** Finds sizes and places, when all nodes are there. */
        void measure() {
            for (int node = count - 1; node >= 0; node--) {
                int end = node + 1;
                for (int k = 0; k < arities[node] && end < count; k++) {
                    end += sizes[end];
                }
                sizes[node] = end - node;
            }
            places[0] = count - 1;
            for (int node = 0; node < count; node++) {
                int start = places[node] - sizes[node] + 1;
                int child = node + 1;
                for (int k = 0; k < arities[node] && child < count; k++) {
                    start += sizes[child];
                    places[child] = start - 1;
                    child += sizes[child];
                }
            }
            for (int node = 0; node < count; node++) {
                if (places[node] >= 0 && places[node] < MOST) {
                    nodes[places[node]] = node;
                }
            }
        }

        /** Becomes the tree whose nodes stand in line, operands ahead of their operators. */
        void turn(Tree line) {
            count = line.count;
            for (int i = 0; i < count; i++) {
                int start = i;
                for (int k = 0; k < line.arities[i] && start > 0; k++) {
                    start -= line.sizes[start - 1];
                }
                line.sizes[i] = i - start + 1;
            }
            line.places[Math.max(count - 1, 0)] = 0;
            for (int i = count - 1; i >= 0; i--) {
                int end = line.places[i] + line.sizes[i];
                int operand = i - 1;
                for (int k = 0; k < line.arities[i] && operand >= 0; k++) {
                    end -= line.sizes[operand];
                    line.places[operand] = end;
                    operand -= line.sizes[operand];
                }
                put(line.places[i], line, i);
            }
            measure();
        }

        private void put(int node, Tree from, int other) {
            if (node >= 0 && node < count) {
                kinds[node] = from.kinds[other];
                values[node] = from.values[other];
                fixes[node] = from.fixes[other];
                arities[node] = from.arities[other];
            }
        }

        /** Becomes stock with scion in place of a name; false if there is no room. */
        boolean graftOnto(Tree stock, int name, Tree scion) {
            clear();
            boolean room = true;
            for (int node = 0; node < stock.count && room; node++) {
                boolean summed = node > 0 && stock.isCallOf(node - 1, 's');
                boolean replaced = stock.kinds[node] == NAME && stock.values[node] == name && !summed;
                room = replaced ? addPart(scion, 0) : addNode(stock, node);
            }
            if (room) {
                measure();
            }
            return room;
        }

        /** Leaves of a node and all beneath it only the part that begins at another node beneath it. */
        void keepOnly(int node, int part) {
            int end = node + sizes[node];
            int partEnd = part + sizes[part];
            cut(partEnd, end);
            cut(node, part);
            measure();
        }

        void makeNumber(int node, int value) {
            cut(node + 1, node + sizes[node]);
            kinds[node] = NUMBER;
            values[node] = value;
            fixes[node] = NONE;
            arities[node] = 0;
            measure();
        }

        private void cut(int start, int end) {
            int gap = end - start;
            if (gap <= 0 || start < 0 || end > count) {
                return;
            }
            for (int i = end; i < count; i++) {
                kinds[i - gap] = kinds[i];
                values[i - gap] = values[i];
                fixes[i - gap] = fixes[i];
                arities[i - gap] = arities[i];
            }
            count -= gap;
        }

        /** An operand or argument of a node, the first one being 0. */
        int child(int node, int which) {
            int child = node + 1;
            for (int k = 0; k < which && child < count; k++) {
                child += sizes[child];
            }
            return Math.min(child, count - 1);
        }

        int parentOf(int node) {
            for (int i = node - 1; i >= 0; i--) {
                if (i + sizes[i] > node) {
                    return i;
                }
            }
            return NONE;
        }

        int nodeAt(int place) {
            return place >= 0 && place < count ? nodes[place] : 0;
        }

        boolean isCallOf(int node, int name) {
            return kinds[node] == CALL && values[node] == name;
        }

        /** Whether it has a call of i or s: those do not reckon all their arguments. */
        boolean hasLazyCall() {
            for (int node = 0; node < count; node++) {
                if (isCallOf(node, 'i') || isCallOf(node, 's')) {
                    return true;
                }
            }
            return false;
        }

        boolean isNumber(int node, int value) {
            return kinds[node] == NUMBER && values[node] == value;
        }

        boolean sameAs(Tree other) {
            if (count != other.count) {
                return false;
            }
            for (int i = 0; i < count; i++) {
                if (!sameNode(i, other, i)) {
                    return false;
                }
            }
            return true;
        }

        /** Whether its nodes, operands ahead of their operators, are those that stand in line. */
        boolean hasLine(Tree line) {
            if (count != line.count) {
                return false;
            }
            for (int place = 0; place < count; place++) {
                if (!sameNode(nodeAt(place), line, place)) {
                    return false;
                }
            }
            return true;
        }

        boolean sameParts(int part, int other) {
            int nodes = sizes[part];
            if (nodes != sizes[other]) {
                return false;
            }
            for (int i = 0; i < nodes && part + i < count && other + i < count; i++) {
                if (!sameNode(part + i, this, other + i)) {
                    return false;
                }
            }
            return true;
        }

        private boolean sameNode(int node, Tree tree, int other) {
            return kinds[node] == tree.kinds[other] && values[node] == tree.values[other]
                && fixes[node] == tree.fixes[other] && arities[node] == tree.arities[other];
        }
    }

    /**
     * What is undone: the shelf, the operators, the names' values and the functions, with the latest changes. A
     * function's cases are numbers of trees on the shelf: a tree leaves it only when all later changes are undone, so
     * those that a case needs are always there.
     */
    private static final class Desk {
        private static final int MOST_TREES = 30;
        private static final int MOST_CHANGES = 20;
        private static final int LETTERS = 26;
        /** By rising numbers, so that the least sign with a meaning is the first one found. */
        private static final String SIGNS = "!#%&*+-/<=>?@^|~";
        private static final int MOST_SIGNS = 16;
        /** A function's row: parameters (0 for no function), how many cases, their conditions, their values. */
        private static final int FIRST_CONDITION = 2, FIRST_VALUE = FIRST_CONDITION + MOST_CASES, ROW = FIRST_VALUE + MOST_CASES;

        /** Where each character is among the signs, or NONE. */
        private final int[] places = new int[128];
        /** The operators by fix and sign; a rank of 0 says that there is none. */
        private final int[] ranks = new int[3 * MOST_SIGNS];
        private final int[] sides = new int[3 * MOST_SIGNS];
        private final int[] meanings = new int[3 * MOST_SIGNS];

        final Tree[] shelf = new Tree[MOST_TREES];
        int trees;
        final Fraction[] names = new Fraction[LETTERS];
        final boolean[] known = new boolean[LETTERS];
        private final int[][] functions = new int[LETTERS][ROW];

        /** A ring of changes: what each one was, what it changed, and what was there before. */
        private final int[] changeKinds = new int[MOST_CHANGES];
        private final int[] changeKeys = new int[MOST_CHANGES];
        private final int[][] changeRows = new int[MOST_CHANGES][ROW];
        private final Fraction[] changeValues = new Fraction[MOST_CHANGES];
        private int firstChange;
        private int changes;

        Desk() {
            beginOperators();
            for (int i = 0; i < MOST_TREES; i++) {
                shelf[i] = new Tree();
            }
            for (int i = 0; i < LETTERS; i++) {
                names[i] = new Fraction(Whole.NARROW);
            }
            for (int i = 0; i < MOST_CHANGES; i++) {
                changeValues[i] = new Fraction(Whole.NARROW);
            }
        }

        private void beginOperators() {
            for (int character = 0; character < places.length; character++) {
                places[character] = SIGNS.indexOf((char) character);
            }
            begin('|', BETWEEN, 1, LEFT, OR);
            begin('&', BETWEEN, 2, LEFT, AND);
            begin('<', BETWEEN, 3, NEITHER, LESS);
            begin('=', BETWEEN, 3, NEITHER, EQUAL);
            begin('>', BETWEEN, 3, NEITHER, GREATER);
            begin('+', BETWEEN, 4, LEFT, ADD);
            begin('-', BETWEEN, 4, LEFT, SUBTRACT);
            begin('*', BETWEEN, 5, LEFT, MULTIPLY);
            begin('/', BETWEEN, 5, LEFT, DIVIDE);
            begin('%', BETWEEN, 5, LEFT, REMAINDER);
            begin('^', BETWEEN, 7, RIGHT, POWER);
            begin('-', BEFORE, 6, LEFT, NEGATE);
            begin('~', BEFORE, 6, LEFT, NOT);
            begin('!', BEHIND, 8, LEFT, FACTORIAL);
        }

        private void begin(char sign, int fix, int rank, int side, int meaning) {
            putOperator(slot(sign, fix), rank, side, meaning);
        }

        void putOperator(int slot, int rank, int side, int meaning) {
            if (slot >= 0 && slot < ranks.length) {
                ranks[slot] = rank;
                sides[slot] = side;
                meanings[slot] = meaning;
            }
        }

        boolean isSign(int sign) {
            return slot(sign, BEFORE) >= 0;
        }

        static boolean isFix(int fix) {
            return fix >= BEFORE && fix <= BETWEEN;
        }

        /** Where an operator stands in the rows; NONE for what can be none. */
        int slot(int sign, int fix) {
            int place = sign >= 0 && sign < places.length ? places[sign] : NONE;
            return place < 0 || fix < BEFORE || fix > BETWEEN ? NONE : fix * MOST_SIGNS + place;
        }

        static boolean isOperator(int fix, int rank, int side, int meaning) {
            if (rank < 1 || rank > 9 || side < LEFT || side > NEITHER || (fix != BETWEEN && side != LEFT)) {
                return false;
            }
            int letter = meaning - FUNCTION;
            if (letter >= 0 && letter < 26) {
                return letter != 'i' - 'a' && letter != 's' - 'a';
            }
            return fix == BETWEEN ? meaning >= ADD && meaning <= OR : meaning >= NEGATE && meaning <= FACTORIAL;
        }

        int rank(int sign, int fix) {
            int slot = slot(sign, fix);
            return slot < 0 ? 0 : ranks[slot];
        }

        int side(int sign, int fix) {
            int slot = slot(sign, fix);
            return slot < 0 ? NONE : sides[slot];
        }

        int meaning(int sign, int fix) {
            int slot = slot(sign, fix);
            return slot < 0 || ranks[slot] == 0 ? NONE : meanings[slot];
        }

        /** Whether what is told does not go with an operator like this one. */
        boolean clashes(int sign, int fix, int rank, int side) {
            if (fix == BEFORE) {
                return false;
            }
            if (fix == BEHIND) {
                return rank(sign, BETWEEN) > 0;
            }
            if (rank(sign, BEHIND) > 0) {
                return true;
            }
            int own = slot(sign, BETWEEN);
            for (int slot = BETWEEN * MOST_SIGNS; slot < ranks.length; slot++) {
                if (slot != own && ranks[slot] == rank && sides[slot] != side) {
                    return true;
                }
            }
            return false;
        }

        /** The least sign BETWEEN that has a meaning, or NONE. */
        int leastWith(int meaning) {
            for (int place = 0; place < MOST_SIGNS; place++) {
                int slot = BETWEEN * MOST_SIGNS + place;
                if (ranks[slot] > 0 && meanings[slot] == meaning) {
                    return SIGNS.charAt(place);
                }
            }
            return NONE;
        }

        /** Puts a copy on the shelf, which has room, and tells its number. */
        int shelve(Tree tree) {
            if (trees >= MOST_TREES) {
                return NONE;
            }
            shelf[trees].copy(tree);
            trees++;
            note(SHELF, 0);
            return trees - 1;
        }

        void tellOperator(int sign, int fix, int rank, int side, int meaning) {
            int slot = slot(sign, fix);
            if (slot < 0) {
                return;
            }
            int[] row = changeRows[note(TABLE, slot)];
            row[0] = ranks[slot];
            row[1] = sides[slot];
            row[2] = meanings[slot];
            putOperator(slot, rank, side, meaning);
        }

        void giveValue(int letter, Fraction value) {
            noteName(letter);
            names[letter].copy(value);
            known[letter] = true;
        }

        boolean takeValue(int letter) {
            if (!known[letter]) {
                return false;
            }
            noteName(letter);
            known[letter] = false;
            return true;
        }

        private void noteName(int letter) {
            int at = note(MEMORY, letter);
            changeRows[at][0] = known[letter] ? 1 : 0;
            changeValues[at].copy(names[letter]);
        }

        void makeFunction(int letter, int parameters) {
            noteFunction(letter);
            functions[letter][0] = parameters;
            functions[letter][1] = 0;
        }

        void addToFunction(int letter, int condition, int value) {
            int cases = casesOf(letter);
            if (cases < 0 || cases >= MOST_CASES) {
                return;
            }
            noteFunction(letter);
            functions[letter][FIRST_CONDITION + cases] = condition;
            functions[letter][FIRST_VALUE + cases] = value;
            functions[letter][1] = cases + 1;
        }

        private void noteFunction(int letter) {
            copyRow(functions[letter], changeRows[note(FUNCTIONS, letter)]);
        }

        private static void copyRow(int[] from, int[] to) {
            for (int i = 0; i < from.length && i < to.length; i++) {
                to[i] = from[i];
            }
        }

        int parametersOf(int letter) {
            return letter < 0 || letter >= LETTERS ? 0 : functions[letter][0];
        }

        int casesOf(int letter) {
            return letter < 0 || letter >= LETTERS ? 0 : functions[letter][1];
        }

        /** The tree of a condition; null for one that is true. */
        Tree conditionOf(int letter, int which) {
            return which < 0 || which >= casesOf(letter) ? null : treeOf(functions[letter][FIRST_CONDITION + which]);
        }

        Tree valueOf(int letter, int which) {
            return which < 0 || which >= casesOf(letter) ? null : treeOf(functions[letter][FIRST_VALUE + which]);
        }

        private Tree treeOf(int tree) {
            return tree < 0 || tree >= trees || tree >= MOST_TREES ? null : shelf[tree];
        }

        /** Makes room for a change, the oldest one giving way, and tells where it is kept. */
        private int note(int kind, int key) {
            if (changes >= MOST_CHANGES) {
                firstChange = (firstChange + 1) % MOST_CHANGES;
                changes--;
            }
            int at = (firstChange + changes) % MOST_CHANGES;
            changeKinds[at] = kind;
            changeKeys[at] = key;
            changes++;
            return at;
        }

        int takeBack() {
            if (changes <= 0) {
                return NONE;
            }
            changes--;
            int at = (firstChange + changes) % MOST_CHANGES;
            int key = changeKeys[at];
            int[] row = changeRows[at];
            switch (changeKinds[at]) {
                case SHELF:
                    trees--;
                    break;
                case TABLE:
                    putOperator(key, row[0], row[1], row[2]);
                    break;
                case MEMORY:
                    known[key] = row[0] == 1;
                    names[key].copy(changeValues[at]);
                    break;
                default:
                    copyRow(row, functions[key]);
                    break;
            }
            return changeKinds[at];
        }
    }

    /**
     * The words of a text, and its tree, read with two stacks or by climbing ranks. Pairs of brackets can be hidden, so
     * that the text is read without them. Words are NUMBERs, NAMEs, OPERATORs (signs) and those below.
     */
    private static final class Reader {
        /** HALF is a number of a base that has no digits, its value the place where one ought to be. */
        private static final int OPEN = 4, CLOSE = 5, COMMA = 6, HALF = 7, STRANGE = 8, END = 9;
        private static final int MOST_WORDS = 300;
        private static final int MOST_ARGUMENTS = 4;
        /** Texts of at most 80 nodes need some 120 levels; each is at most two calls. */
        private static final int DEEPEST = 140;

        private final Desk desk;
        private final int[] kinds = new int[MOST_WORDS];
        private final int[] values = new int[MOST_WORDS];
        private final int[] places = new int[MOST_WORDS];
        private final boolean[] hidden = new boolean[MOST_WORDS];
        private int count;
        private int length;
        private int next;
        private boolean waiting;

        /**
         * The stack of operators, with brackets and calls that are open: what follows belongs to the top one as long
         * as its rank is the level or more (0: whatever it is). More is what bares gets for an operator, and how many
         * arguments there are for a call.
         */
        private final int[] heldKinds = new int[MOST_WORDS];
        private final int[] heldValues = new int[MOST_WORDS];
        private final int[] heldFixes = new int[MOST_WORDS];
        private final int[] heldLevels = new int[MOST_WORDS];
        private final int[] heldMore = new int[MOST_WORDS];
        private int held;
        /** The stack of operands: the rank of one that is without brackets, BETWEEN and NEITHER; else 0. */
        private final int[] bares = new int[MOST_WORDS];
        private int operands;
        /** The nodes that were read, operands ahead of their operators. */
        final Tree line = new Tree();

        Reader(Desk operators) {
            desk = operators;
        }

        void startWords() {
            count = 0;
            length = 0;
        }

        void addWord(int kind, int value, int place) {
            if (count < MOST_WORDS) {
                kinds[count] = kind;
                values[count] = value;
                places[count] = place;
                hidden[count] = false;
                count++;
            }
        }

        /** Parts the first characters of a row into words, as far as they are some. */
        void split(char[] text, int characters) {
            startWords();
            length = Math.min(characters, text.length);
            int at = 0;
            for (int turn = 0; turn < length && at < length; turn++) {
                if (text[at] == ' ') {
                    at++;
                } else {
                    at = text[at] >= '0' && text[at] <= '9' ? splitNumber(text, at) : splitOther(text[at], at);
                }
            }
        }

        /** Takes a word that is no number; tells where the next one can begin: at the end, if no text goes on. */
        private int splitOther(char character, int at) {
            int kind = STRANGE;
            if (character >= 'a' && character <= 'z') {
                kind = NAME;
            } else if (character == '(') {
                kind = OPEN;
            } else if (character == ')') {
                kind = CLOSE;
            } else if (character == ',') {
                kind = COMMA;
            } else if (desk.isSign(character)) {
                kind = OPERATOR;
            }
            addWord(kind, character, at);
            return kind == STRANGE ? length : at + 1;
        }

        private int splitNumber(char[] text, int at) {
            char mark = text[at] == '0' && at + 1 < length ? text[at + 1] : ' ';
            int base = mark == 'x' ? 16 : mark == 'o' ? 8 : mark == 'b' ? 2 : 10;
            int first = base == 10 ? at : at + 2;
            int most = Math.min(length, first + (base == 10 ? 9 : 7));
            int value = 0;
            int end = first;
            for (; end < most && digit(text[end]) < base; end++) {
                value = value * base + digit(text[end]);
            }
            if (end == first) {
                addWord(HALF, end, at);
                return length;
            }
            addWord(NUMBER, value, at);
            return end;
        }

        private static int digit(char character) {
            if (character >= '0' && character <= '9') {
                return character - '0';
            }
            return character >= 'a' && character <= 'f' ? character - 'a' + 10 : 16;
        }

        private int nextWord() {
            int word = next;
            for (int turn = 0; turn < count && word < count && hidden[word]; turn++) {
                word++;
            }
            return word;
        }

        private int kindAt(int word) {
            return word >= 0 && word < count ? kinds[word] : END;
        }

        /** Reads the words into line; tells the first place where no text goes on, or NONE, as fault() does. */
        int byStacks() {
            next = 0;
            held = 0;
            operands = 0;
            waiting = true;
            line.clear();
            for (int turn = 0; turn < count; turn++) {
                int word = nextWord();
                if (word >= count) {
                    break;
                }
                next = word + 1;
                boolean fits;
                if (waiting) {
                    fits = takeOperand(word);
                } else {
                    fits = kinds[word] == OPERATOR ? takeSign(values[word]) : takeClosing(kinds[word]);
                }
                if (!fits) {
                    return waiting && kinds[word] == HALF ? values[word] : places[word];
                }
            }
            reduce(0);
            return waiting || held > 0 ? length : NONE;
        }

        private boolean takeOperand(int word) {
            int value = values[word];
            switch (kinds[word]) {
                case NUMBER:
                    return addLeaf(NUMBER, value);
                case NAME:
                    int behind = nextWord();
                    if (kindAt(behind) != OPEN) {
                        return addLeaf(NAME, value);
                    }
                    next = behind + 1;
                    return hold(CALL, value, NONE, 0, 1);
                case OPEN:
                    return hold(OPEN, value, NONE, 0, 0);
                case OPERATOR:
                    int rank = desk.rank(value, BEFORE);
                    return rank > 0 && hold(OPERATOR, value, BEFORE, rank + 1, 0);
                default:
                    return false;
            }
        }

        private boolean addLeaf(int kind, int value) {
            waiting = false;
            return pushOperand(0) && line.add(kind, value, NONE, 0);
        }

        private boolean pushOperand(int bare) {
            if (operands >= MOST_WORDS) {
                return false;
            }
            bares[operands] = bare;
            operands++;
            return true;
        }

        private boolean hold(int kind, int value, int fix, int level, int more) {
            if (held >= MOST_WORDS) {
                return false;
            }
            heldKinds[held] = kind;
            heldValues[held] = value;
            heldFixes[held] = fix;
            heldLevels[held] = level;
            heldMore[held] = more;
            held++;
            return true;
        }

        /** Takes a sign behind an operand, which ends all operators whose texts it can't be in. */
        private boolean takeSign(int sign) {
            int fix = desk.rank(sign, BEHIND) > 0 ? BEHIND : BETWEEN;
            int rank = desk.rank(sign, fix);
            if (rank == 0) {
                return false;
            }
            reduce(rank);
            int top = operands - 1;
            if (top < 0) {
                return false;
            }
            if (fix == BEHIND) {
                bares[top] = 0;
                return line.add(OPERATOR, sign, BEHIND, 1);
            }
            if (bares[top] == rank) {
                return false;
            }
            int side = desk.side(sign, BETWEEN);
            waiting = true;
            return hold(OPERATOR, sign, BETWEEN, side == RIGHT ? rank : rank + 1, side == NEITHER ? rank : 0);
        }

        private boolean takeClosing(int kind) {
            if (kind != CLOSE && kind != COMMA) {
                return false;
            }
            reduce(0);
            int top = held - 1;
            if (top < 0) {
                return false;
            }
            boolean call = heldKinds[top] == CALL;
            if (kind == COMMA) {
                if (!call || heldMore[top] >= MOST_ARGUMENTS) {
                    return false;
                }
                heldMore[top]++;
                waiting = true;
                return true;
            }
            held = top;
            if (call) {
                operands = Math.max(operands - heldMore[top], 0);
                return pushOperand(0) && line.add(CALL, heldValues[top], NONE, heldMore[top]);
            }
            operands = Math.max(operands - 1, 0);
            return pushOperand(0);
        }

        /** Ends the operators on top with a level above the least one. */
        private void reduce(int least) {
            for (int top = held - 1; top >= 0 && heldLevels[top] > least; top--) {
                int taken = heldFixes[top] == BETWEEN ? 2 : 1;
                line.add(OPERATOR, heldValues[top], heldFixes[top], taken);
                operands = Math.max(operands - taken, 0);
                pushOperand(heldMore[top]);
                held = top;
            }
        }

        boolean stacksGive(Tree tree) {
            return byStacks() == NONE && tree.hasLine(line);
        }

        boolean climbingGives(Tree tree) {
            next = 0;
            line.clear();
            return climb(1, 0) && nextWord() >= count && tree.hasLine(line);
        }

        private int takeWord() {
            int word = nextWord();
            next = word + 1;
            return word;
        }

        /** Reads a text T(least) into line; false if there is none. */
        private boolean climb(int least, int depth) {
            int word = takeWord();
            int kind = kindAt(word);
            if (depth > DEEPEST || word >= count) {
                return false;
            }
            int value = values[word];
            if (kind == NUMBER || (kind == NAME && kindAt(nextWord()) != OPEN)) {
                line.add(kind, value, NONE, 0);
            } else if (kind == NAME) {
                if (!climbArguments(value, depth)) {
                    return false;
                }
            } else if (kind == OPEN) {
                if (!climb(1, depth + 1) || kindAt(takeWord()) != CLOSE) {
                    return false;
                }
            } else {
                int rank = kind == OPERATOR ? desk.rank(value, BEFORE) : 0;
                if (rank == 0 || !climb(rank + 1, depth + 1)) {
                    return false;
                }
                line.add(OPERATOR, value, BEFORE, 1);
            }
            int bare = 0;
            for (int turn = 0; turn < count && kindAt(nextWord()) == OPERATOR; turn++) {
                int sign = values[nextWord()];
                int fix = desk.rank(sign, BEHIND) > 0 ? BEHIND : BETWEEN;
                int rank = desk.rank(sign, fix);
                if (rank < least) {
                    return true;
                }
                takeWord();
                int side = desk.side(sign, fix);
                if (fix == BETWEEN && (bare == rank || !climb(side == RIGHT ? rank : rank + 1, depth + 1))) {
                    return false;
                }
                line.add(OPERATOR, sign, fix, fix == BETWEEN ? 2 : 1);
                bare = fix == BETWEEN && side == NEITHER ? rank : 0;
            }
            return true;
        }

        private boolean climbArguments(int name, int depth) {
            takeWord();
            for (int taken = 1; taken <= MOST_ARGUMENTS; taken++) {
                if (!climb(1, depth + 1)) {
                    return false;
                }
                int kind = kindAt(takeWord());
                if (kind == CLOSE) {
                    return line.add(CALL, name, NONE, taken);
                }
                if (kind != COMMA) {
                    return false;
                }
            }
            return false;
        }

        /** Hides, from the left, each pair of brackets without which the words have the same tree. */
        void dropBrackets(Tree tree) {
            for (int word = 0; word < count; word++) {
                if (opensPair(word)) {
                    int partner = partnerOf(word);
                    hide(word, partner, true);
                    hide(word, partner, stacksGive(tree));
                }
            }
        }

        boolean needsAllBrackets(Tree tree) {
            boolean needed = true;
            for (int word = 0; word < count && needed; word++) {
                if (opensPair(word)) {
                    int partner = partnerOf(word);
                    hide(word, partner, true);
                    needed = !stacksGive(tree);
                    hide(word, partner, false);
                }
            }
            return needed;
        }

        /** Whether a word opens brackets that are no call's: those of a call stand right behind its name. */
        private boolean opensPair(int word) {
            return kindAt(word) == OPEN && kindAt(word - 1) != NAME;
        }

        private int partnerOf(int open) {
            int depth = 0;
            for (int word = open; word < count; word++) {
                if (kinds[word] == OPEN) {
                    depth++;
                } else if (kinds[word] == CLOSE) {
                    depth--;
                    if (depth == 0) {
                        return word;
                    }
                }
            }
            return open;
        }

        private void hide(int open, int close, boolean hide) {
            if (open >= 0 && open < count && close >= 0 && close < count) {
                hidden[open] = hide;
                hidden[close] = hide;
            }
        }
    }

    /** What is printed. */
    private static final class Printer {
        /** More than trees of 80 nodes, with numbers of 9 digits and blanks, can ask for. */
        private static final int MOST = 1000;
        private final Reader reader;
        private final Whole rest = new Whole(Whole.NARROW);
        final char[] text = new char[MOST];
        int count;

        Printer(Reader words) {
            reader = words;
        }

        private void put(int character) {
            if (count < MOST) {
                text[count] = (char) character;
                count++;
            }
        }

        private void putNumber(int value) {
            int scale = 1;
            for (int k = 0; k < 8 && value / scale > 9; k++) {
                scale *= 10;
            }
            for (; scale > 0; scale /= 10) {
                put('0' + value / scale % 10);
            }
        }

        private void putValue(int kind, int value) {
            if (kind == NUMBER) {
                putNumber(value);
            } else {
                put(value);
            }
        }

        /** Prints a tree with the fewest brackets. */
        void fewest(Tree tree) {
            reader.startWords();
            spell(tree, 0, 0);
            reader.dropBrackets(tree);
            count = 0;
            for (int word = 0; word < reader.count; word++) {
                if (!reader.hidden[word]) {
                    putValue(reader.kinds[word], reader.values[word]);
                }
            }
        }

        /** Makes a node's words with all brackets; a tree is at most 80 deep. */
        private void spell(Tree tree, int node, int depth) {
            if (depth > Tree.MOST) {
                return;
            }
            int kind = tree.kinds[node];
            int value = tree.values[node];
            boolean call = kind == CALL;
            if (kind != OPERATOR || tree.fixes[node] == BEFORE) {
                reader.addWord(call ? NAME : kind, value, 0);
            }
            if (call) {
                reader.addWord(Reader.OPEN, '(', 0);
            }
            int child = node + 1;
            for (int k = 0; k < tree.arities[node] && child < tree.count; k++) {
                if (k > 0) {
                    reader.addWord(call ? Reader.COMMA : OPERATOR, call ? ',' : value, 0);
                }
                boolean bracketed = kind == OPERATOR && tree.kinds[child] == OPERATOR;
                if (bracketed) {
                    reader.addWord(Reader.OPEN, '(', 0);
                }
                spell(tree, child, depth + 1);
                if (bracketed) {
                    reader.addWord(Reader.CLOSE, ')', 0);
                }
                child += tree.sizes[child];
            }
            if (call) {
                reader.addWord(Reader.CLOSE, ')', 0);
            }
            if (kind == OPERATOR && tree.fixes[node] == BEHIND) {
                reader.addWord(OPERATOR, value, 0);
            }
        }

        /** Prints a tree in postfix. */
        void line(Tree tree) {
            count = 0;
            for (int place = 0; place < tree.count; place++) {
                int node = tree.nodeAt(place);
                if (place > 0) {
                    put(' ');
                }
                putValue(tree.kinds[node], tree.values[node]);
                if (tree.kinds[node] == CALL) {
                    putNumber(tree.arities[node]);
                } else if (tree.fixes[node] == BEFORE) {
                    put('\'');
                }
            }
        }

        /** Prints a whole number; its digits come from the last one on, so they are turned round. */
        void digits(Whole number, int radix) {
            count = 0;
            if (number.negative) {
                put('-');
            }
            int first = count;
            rest.copy(number);
            for (int turn = 0; turn < MOST && (turn == 0 || !rest.isZero()); turn++) {
                int digit = rest.shrink(radix);
                put(digit < 10 ? '0' + digit : 'a' + digit - 10);
            }
            for (int left = first, right = count - 1; left < right; left++, right--) {
                char swapped = text[left];
                text[left] = text[right];
                text[right] = swapped;
            }
        }
    }

    /**
     * Reckons trees on one stack of values. What is still to be done is kept on a stack of tasks, as functions within
     * trees within functions would be too deep for calls within calls.
     */
    private static final class Machine {
        private static final int MOST_COUNTED = 200;
        private static final int MOST_CALLS = 12;
        private static final int MOST_SUMMED = 30;
        private static final int MOST_TURNS = 1000000;
        /** A tree of 80 nodes, and 12 calls within one another with trees of 30 nodes. */
        private static final int MOST_TASKS = 480;
        private static final int MOST_SCOPES = 240;
        private static final int MOST_VALUES = 240;
        /** Kinds of tasks: a node that reckons all operands; a call of i; of s; of a function; a tree's postfix. */
        private static final int A_NODE = 0, A_CHOICE = 1, A_SUM = 2, A_CALL = 3, A_LINE = 4;
        private static final int TWO = -2;

        private final Desk desk;
        private final Arithmetic arithmetic;
        private final Fraction[] stack = new Fraction[MOST_VALUES];
        private int height;
        private int counted;
        private final Fraction wide = new Fraction(Whole.WIDE);

        private final int[] taskKinds = new int[MOST_TASKS];
        private final Tree[] taskTrees = new Tree[MOST_TASKS];
        /** The node, or the letter of the function that is called. */
        private final int[] taskNodes = new int[MOST_TASKS];
        private final int[] taskStages = new int[MOST_TASKS];
        private final int[] taskScopes = new int[MOST_TASKS];
        /** How many numbers a sum still has; which case of a call holds. */
        private final int[] taskMore = new int[MOST_TASKS];
        private int tasks;
        private int calls;

        /** What names mean within a sum's tree (the name is told) or a function (name 0, and its parameters). */
        private final int[] scopeNames = new int[MOST_SCOPES];
        private final int[] scopeParameters = new int[MOST_SCOPES];
        private final int[] scopeSlots = new int[MOST_SCOPES];
        private final int[] scopeParents = new int[MOST_SCOPES];
        private int scopes;

        Machine(Desk state, Arithmetic exact) {
            desk = state;
            arithmetic = exact;
            for (int i = 0; i < MOST_VALUES; i++) {
                stack[i] = new Fraction(Whole.NARROW);
            }
        }

        void restart() {
            height = 0;
            counted = 0;
            tasks = 0;
            calls = 0;
            scopes = 0;
        }

        void startTree(Tree tree) {
            restart();
            begin(tree, 0, NONE);
        }

        void startLine(Tree tree) {
            restart();
            addTask(A_LINE, tree, 0, NONE);
        }

        Fraction result() {
            return stack[0];
        }

        /** The value so many places beneath the top one. */
        Fraction fromTop(int places) {
            int at = height - 1 - places;
            return stack[at >= 0 && at < MOST_VALUES ? at : 0];
        }

        /** Begins to reckon a node. */
        private int begin(Tree tree, int node, int scope) {
            int kind = tree.isCallOf(node, 'i') ? A_CHOICE : tree.isCallOf(node, 's') ? A_SUM : A_NODE;
            return addTask(kind, tree, node, scope);
        }

        private int addTask(int kind, Tree tree, int node, int scope) {
            if (tasks >= MOST_TASKS) {
                return TOO_LONG;
            }
            taskKinds[tasks] = kind;
            taskTrees[tasks] = tree;
            taskNodes[tasks] = node;
            taskStages[tasks] = 0;
            taskScopes[tasks] = scope;
            taskMore[tasks] = NONE;
            tasks++;
            return 0;
        }

        /** Does what was started; tells the fault. */
        int work() {
            int fault = 0;
            for (int turn = 0; turn < MOST_TURNS && tasks > 0 && fault == 0; turn++) {
                int at = tasks - 1;
                Tree tree = taskTrees[at];
                int node = taskNodes[at];
                int stage = taskStages[at];
                if (tree == null || taskKinds[at] == A_CALL) {
                    fault = advanceCall(at, node);
                } else if (taskKinds[at] == A_CHOICE) {
                    fault = advanceChoice(at, tree, node);
                } else if (taskKinds[at] == A_SUM) {
                    fault = advanceSum(at, tree, node);
                } else if (taskKinds[at] == A_LINE && stage < tree.count) {
                    taskStages[at]++;
                    fault = give(tree, tree.nodeAt(stage), NONE);
                } else if (taskKinds[at] == A_NODE && stage < tree.arities[node]) {
                    fault = nextOperand(at, tree, node);
                } else {
                    tasks = at;
                    fault = taskKinds[at] == A_LINE ? 0 : give(tree, node, taskScopes[at]);
                }
            }
            return fault == 0 && tasks > 0 ? TOO_LONG : fault;
        }

        private int nextOperand(int at, Tree tree, int node) {
            int operand = tree.child(node, taskStages[at]);
            taskStages[at]++;
            return begin(tree, operand, taskScopes[at]);
        }

        private int countNode() {
            if (counted >= MOST_COUNTED) {
                return TOO_LONG;
            }
            counted++;
            return 0;
        }

        /** Counts a node whose operands are on the stack, and puts its value in their place. */
        int give(Tree tree, int node, int scope) {
            if (counted >= MOST_COUNTED || height >= MOST_VALUES) {
                return TOO_LONG;
            }
            counted++;
            int value = tree.values[node];
            switch (tree.kinds[node]) {
                case NUMBER:
                    stack[height].set(value);
                    height++;
                    return 0;
                case NAME:
                    return giveName(value, scope);
                case CALL:
                    return openCall(value - 'a', tree.arities[node]);
                default:
                    int meaning = desk.meaning(value, tree.fixes[node]);
                    return meaning >= FUNCTION ? openCall(meaning - FUNCTION, tree.arities[node]) : operate(meaning);
            }
        }

        private int giveName(int name, int scope) {
            Fraction value = null;
            int at = scope;
            for (int turn = 0; turn < MOST_SCOPES && at >= 0 && at < scopes && value == null; turn++) {
                int parameter = scopeNames[at] == 0 ? name - 'x' : 0;
                boolean meant = scopeNames[at] == 0 ? parameter < scopeParameters[at] : scopeNames[at] == name;
                int slot = scopeSlots[at] + parameter;
                if (parameter >= 0 && meant && slot >= 0 && slot < height) {
                    value = stack[slot];
                }
                at = scopeParents[at];
            }
            int letter = name - 'a';
            if (value == null && letter >= 0 && letter < desk.known.length && desk.known[letter]) {
                value = desk.names[letter];
            }
            if (value == null) {
                return NO_VALUE;
            }
            stack[height].copy(value);
            height++;
            return 0;
        }

        int meaningOf(Tree tree, int node) {
            return tree.kinds[node] == OPERATOR ? desk.meaning(tree.values[node], tree.fixes[node]) : NONE;
        }

        private int operate(int meaning) {
            int places = meaning >= NEGATE ? 1 : 2;
            if (meaning < 0 || height < places) {
                return NO_FUNCTION;
            }
            Fraction b = stack[height - 1];
            Fraction a = stack[height - places];
            int fault = faultOf(meaning, a, b);
            if (fault != 0) {
                return fault;
            }
            boolean fits = true;
            switch (meaning) {
                case ADD: arithmetic.sum(wide, a, b, false); break;
                case SUBTRACT: arithmetic.sum(wide, a, b, true); break;
                case MULTIPLY: arithmetic.times(wide, a, b); break;
                case DIVIDE: arithmetic.over(wide, a, b); break;
                case REMAINDER: arithmetic.remainder(wide, a, b); break;
                case POWER: fits = arithmetic.power(wide, a, b.top.clamped()); break;
                case LESS: wide.set(arithmetic.compare(a, b) < 0 ? 1 : 0); break;
                case EQUAL: wide.set(a.sameAs(b) ? 1 : 0); break;
                case GREATER: wide.set(arithmetic.compare(a, b) > 0 ? 1 : 0); break;
                case AND: wide.set(a.isZero() || b.isZero() ? 0 : 1); break;
                case OR: wide.set(a.isZero() && b.isZero() ? 0 : 1); break;
                case NEGATE: wide.copy(a); wide.top.flip(); break;
                case NOT: wide.set(a.isZero() ? 1 : 0); break;
                default: arithmetic.factorial(wide, a.top.clamped()); break;
            }
            if (fits) {
                arithmetic.settle(wide);
            }
            if (!fits || !wide.fits()) {
                return TOO_GREAT;
            }
            height -= places - 1;
            a.copy(wide);
            return 0;
        }

        /** The fault of an operator that its operands alone tell; b is a, if there is one operand. */
        private static int faultOf(int meaning, Fraction a, Fraction b) {
            int right = b.top.clamped();
            switch (meaning) {
                case DIVIDE:
                    return b.isZero() ? BY_ZERO : 0;
                case REMAINDER:
                    if (!a.isWhole() || !b.isWhole()) {
                        return NOT_WHOLE;
                    }
                    return b.isZero() ? BY_ZERO : 0;
                case POWER:
                    if (!b.isWhole()) {
                        return NOT_WHOLE;
                    }
                    if (a.isZero() && right < 0) {
                        return BY_ZERO;
                    }
                    return right > 64 || right < -64 ? TOO_GREAT : 0;
                case FACTORIAL:
                    if (!a.isWhole() || right < 0) {
                        return NOT_WHOLE;
                    }
                    return right > 30 ? TOO_GREAT : 0;
                default:
                    return 0;
            }
        }

        /** Begins the call of a function whose arguments are on the stack. */
        private int openCall(int letter, int arguments) {
            if (desk.parametersOf(letter) != arguments || arguments > height) {
                return NO_FUNCTION;
            }
            if (calls >= MOST_CALLS) {
                return TOO_DEEP;
            }
            if (!openScope(0, arguments, height - arguments, NONE)) {
                return TOO_LONG;
            }
            calls++;
            return addTask(A_CALL, null, letter, scopes - 1);
        }

        private boolean openScope(int name, int parameters, int slot, int parent) {
            if (scopes >= MOST_SCOPES) {
                return false;
            }
            scopeNames[scopes] = name;
            scopeParameters[scopes] = parameters;
            scopeSlots[scopes] = slot;
            scopeParents[scopes] = parent;
            scopes++;
            return true;
        }

        /**
         * Stages of a call: 2k, case k is looked at; 2k + 1, its condition is on the stack; behind all cases, one more
         * when the value is on the stack.
         */
        private int advanceCall(int at, int letter) {
            int stage = taskStages[at];
            int which = stage / 2;
            int scope = taskScopes[at];
            taskStages[at]++;
            if (which >= desk.casesOf(letter)) {
                return stage % 2 == 1 ? closeCall(at, scope) : beginValue(at, letter, scope);
            }
            if (stage % 2 == 1) {
                if (height > 0) {
                    height--;
                    noteCase(at, which, !stack[height].isZero());
                }
                return 0;
            }
            Tree condition = desk.conditionOf(letter, which);
            if (condition == null) {
                noteCase(at, which, true);
                taskStages[at]++;
                return 0;
            }
            return begin(condition, 0, scope);
        }

        private void noteCase(int at, int which, boolean holds) {
            if (holds) {
                taskMore[at] = taskMore[at] == NONE ? which : TWO;
            }
        }

        private int beginValue(int at, int letter, int scope) {
            if (taskMore[at] < 0) {
                return taskMore[at] == TWO ? TWO_CASES : NO_CASE;
            }
            Tree value = desk.valueOf(letter, taskMore[at]);
            return value == null ? NO_CASE : begin(value, 0, scope);
        }

        /** The value, on top of the stack, goes where the first argument is. */
        private int closeCall(int at, int scope) {
            int slot = scope >= 0 && scope < MOST_SCOPES ? scopeSlots[scope] : NONE;
            if (slot < 0 || slot >= height) {
                return NO_CASE;
            }
            stack[slot].copy(stack[height - 1]);
            height = slot + 1;
            scopes = scope;
            calls--;
            tasks = at;
            return 0;
        }

        private int advanceChoice(int at, Tree tree, int node) {
            int stage = taskStages[at];
            if (stage == 0) {
                int fault = countNode();
                if (fault != 0 || tree.arities[node] != 3) {
                    return fault != 0 ? fault : NO_FUNCTION;
                }
                return nextOperand(at, tree, node);
            }
            if (stage == 1 && height > 0) {
                height--;
                taskStages[at] = 2;
                return begin(tree, tree.child(node, stack[height].isZero() ? 2 : 1), taskScopes[at]);
            }
            tasks = at;
            return 0;
        }

        /** Stages of a sum: 2, 3, its least, its greatest is on the stack; 4, its next number; 5, one is reckoned. */
        private int advanceSum(int at, Tree tree, int node) {
            switch (taskStages[at]) {
                case 0:
                    int fault = countNode();
                    if (fault != 0 || tree.arities[node] != 4) {
                        return fault != 0 ? fault : NO_FUNCTION;
                    }
                    if (tree.kinds[tree.child(node, 0)] != NAME) {
                        return NO_RANGE;
                    }
                    taskStages[at] = 1;
                    return nextOperand(at, tree, node);
                case 2:
                    return nextOperand(at, tree, node);
                case 3:
                    return openSum(at, tree.values[tree.child(node, 0)]);
                case 4:
                    return nextOfSum(at, tree, node);
                default:
                    return addToSum(at);
            }
        }

        /** The least number becomes the one that the name is, the greatest gives way to the sum so far. */
        private int openSum(int at, int name) {
            if (height < 2) {
                return NO_RANGE;
            }
            Fraction least = stack[height - 2];
            Fraction greatest = stack[height - 1];
            if (!least.isWhole() || !greatest.isWhole()) {
                return NOT_WHOLE;
            }
            arithmetic.sum(wide, greatest, least, true);
            int more = wide.top.clamped();
            if (more >= MOST_SUMMED) {
                return TOO_GREAT;
            }
            if (!openScope(name, 0, height - 2, taskScopes[at])) {
                return TOO_LONG;
            }
            greatest.set(0);
            taskMore[at] = more < 0 ? 0 : more + 1;
            taskStages[at] = 4;
            return 0;
        }

        private int nextOfSum(int at, Tree tree, int node) {
            if (taskMore[at] > 0) {
                taskStages[at] = 5;
                return begin(tree, tree.child(node, 3), scopes - 1);
            }
            if (height > 1) {
                stack[height - 2].copy(stack[height - 1]);
                height--;
            }
            scopes--;
            tasks = at;
            return 0;
        }

        private int addToSum(int at) {
            if (height < 3) {
                return NO_RANGE;
            }
            Fraction number = stack[height - 3];
            Fraction total = stack[height - 2];
            arithmetic.sum(wide, total, stack[height - 1], false);
            arithmetic.settle(wide);
            if (!wide.fits()) {
                return TOO_GREAT;
            }
            total.copy(wide);
            height--;
            stack[height].set(1);
            arithmetic.sum(wide, number, stack[height], false);
            number.copy(wide);
            taskMore[at]--;
            taskStages[at] = 4;
            return 0;
        }
    }

    /** Reckons a tree with e: the machine reckons the values, the parts of e are on a stack here. */
    private static final class Slopes {
        private final Machine machine;
        private final Arithmetic arithmetic;
        private final Fraction[] parts = new Fraction[Tree.MOST];
        private int height;
        private final Fraction left = new Fraction(Whole.NARROW);
        private final Fraction right = new Fraction(Whole.NARROW);
        private final Fraction wide = new Fraction(Whole.WIDE);
        private final Fraction other = new Fraction(Whole.WIDE);

        Slopes(Machine values, Arithmetic exact) {
            machine = values;
            arithmetic = exact;
            for (int i = 0; i < Tree.MOST; i++) {
                parts[i] = new Fraction(Whole.NARROW);
            }
        }

        Fraction result() {
            return parts[0];
        }

        /** Reckons a tree of which all nodes have derivatives; tells the fault. */
        int reckonPart(Tree tree, int name) {
            machine.restart();
            height = 0;
            int fault = 0;
            for (int place = 0; place < tree.count && fault == 0; place++) {
                int node = tree.nodeAt(place);
                if (tree.kinds[node] == OPERATOR) {
                    left.copy(machine.fromTop(tree.arities[node] - 1));
                    right.copy(machine.fromTop(0));
                }
                int meaning = machine.meaningOf(tree, node);
                fault = machine.give(tree, node, NONE);
                if (fault == 0) {
                    fault = meaning == NONE ? leafPart(tree, node, name) : operatorPart(meaning);
                }
            }
            return fault;
        }

        private int leafPart(Tree tree, int node, int name) {
            if (height >= Tree.MOST) {
                return TOO_LONG;
            }
            parts[height].set(tree.kinds[node] == NAME && tree.values[node] == name ? 1 : 0);
            height++;
            return 0;
        }

        private int operatorPart(int meaning) {
            int places = meaning == NEGATE ? 1 : 2;
            if (height < places) {
                return TOO_LONG;
            }
            Fraction leftPart = parts[height - places];
            Fraction rightPart = parts[height - 1];
            switch (meaning) {
                case ADD: arithmetic.sum(wide, leftPart, rightPart, false); break;
                case SUBTRACT: arithmetic.sum(wide, leftPart, rightPart, true); break;
                case NEGATE: wide.copy(leftPart); wide.top.flip(); break;
                case MULTIPLY: crosswise(leftPart, rightPart, false); break;
                case DIVIDE:
                    crosswise(leftPart, rightPart, true);
                    arithmetic.times(other, right, right);
                    arithmetic.over(wide, wide, other);
                    break;
                default: powerPart(leftPart, right.top.clamped()); break;
            }
            arithmetic.settle(wide);
            if (!wide.fits()) {
                return TOO_GREAT;
            }
            leftPart.copy(wide);
            height -= places - 1;
            return 0;
        }

        /** The left part times the right value, and the left value times the right part, together or less this. */
        private void crosswise(Fraction leftPart, Fraction rightPart, boolean minus) {
            arithmetic.times(wide, leftPart, right);
            arithmetic.times(other, left, rightPart);
            arithmetic.sum(wide, wide, other, minus);
        }

        /** The power itself has a value, so one less has no more bits than it may. */
        private void powerPart(Fraction leftPart, int exponent) {
            if (exponent == 0) {
                wide.set(0);
                return;
            }
            arithmetic.power(wide, left, exponent - 1);
            arithmetic.times(wide, wide, right);
            arithmetic.times(wide, wide, leftPart);
        }
    }

    /** Makes new trees of trees: simpler ones, and derivatives. */
    private static final class Rewriter {
        private static final int GREATEST = 999999999;
        private static final int MOST_EXPONENT = 64;
        private final Desk desk;
        /** Where the latest rule was applied, by the number that the node had before. */
        int changedNode;
        /** The latest derivative. */
        final Tree made = new Tree();

        Rewriter(Desk operators) {
            desk = operators;
        }

        private int meaningOf(Tree tree, int node) {
            return tree.kinds[node] == OPERATOR ? desk.meaning(tree.values[node], tree.fixes[node]) : NONE;
        }

        /** Makes a tree simpler by one step; tells the rule, 0 if none fits. */
        int applyRule(Tree tree) {
            for (int place = 0; place < tree.count; place++) {
                int node = tree.nodeAt(place);
                int meaning = meaningOf(tree, node);
                int rule = 0;
                if (meaning == NEGATE && meaningOf(tree, tree.child(node, 0)) == NEGATE) {
                    tree.keepOnly(node, tree.child(node, 0) + 1);
                    rule = 6;
                } else if (meaning >= ADD && meaning <= POWER) {
                    rule = applyToTwo(tree, node, meaning);
                }
                if (rule != 0) {
                    changedNode = node;
                    return rule;
                }
            }
            return 0;
        }

        private int applyToTwo(Tree tree, int node, int meaning) {
            int left = tree.child(node, 0);
            int right = tree.child(node, 1);
            int whole = wholeOf(tree, meaning, left, right);
            if (whole >= 0) {
                tree.makeNumber(node, whole);
                return 1;
            }
            int rule = applyNeutral(tree, node, meaning);
            if (rule != 0) {
                return rule;
            }
            if (meaning == MULTIPLY && (tree.isNumber(left, 0) || tree.isNumber(right, 0))) {
                tree.makeNumber(node, 0);
                return 4;
            }
            if ((meaning == SUBTRACT || meaning == DIVIDE) && tree.sameParts(left, right)) {
                tree.makeNumber(node, meaning == SUBTRACT ? 0 : 1);
                return 5;
            }
            return meaning == ADD && addAlike(tree, node, left, right) ? 7 : 0;
        }

        /** The value of an operator with two NUMBERs, if it is one that a NUMBER can have; else NONE. */
        private static int wholeOf(Tree tree, int meaning, int left, int right) {
            if (tree.kinds[left] != NUMBER || tree.kinds[right] != NUMBER) {
                return NONE;
            }
            long a = tree.values[left];
            long b = tree.values[right];
            long whole;
            switch (meaning) {
                case ADD: whole = a + b; break;
                case SUBTRACT: whole = a - b; break;
                case MULTIPLY: whole = a * b; break;
                case DIVIDE: whole = b > 0 && a % b == 0 ? a / b : NONE; break;
                case POWER: whole = b <= MOST_EXPONENT ? powerOf(a, b) : NONE; break;
                default: whole = NONE; break;
            }
            return whole >= 0 && whole <= GREATEST ? (int) whole : NONE;
        }

        private static long powerOf(long base, long exponent) {
            long power = 1;
            for (long k = 0; k < exponent && power <= GREATEST; k++) {
                power *= base;
            }
            return power;
        }

        /** Rules 2 and 3: an operand that changes nothing. */
        private static int applyNeutral(Tree tree, int node, int meaning) {
            int left = tree.child(node, 0);
            int right = tree.child(node, 1);
            boolean sum = meaning == ADD || meaning == SUBTRACT;
            if (!sum && meaning != MULTIPLY && meaning != DIVIDE && meaning != POWER) {
                return 0;
            }
            int neutral = sum ? 0 : 1;
            if ((meaning == ADD || meaning == MULTIPLY) && tree.isNumber(left, neutral)) {
                tree.keepOnly(node, right);
            } else if (tree.isNumber(right, neutral)) {
                tree.keepOnly(node, left);
            } else {
                return 0;
            }
            return sum ? 2 : 3;
        }

        /** Rule 7: as many of the same and as many more. */
        private boolean addAlike(Tree tree, int node, int left, int right) {
            if (meaningOf(tree, left) != MULTIPLY || meaningOf(tree, right) != MULTIPLY) {
                return false;
            }
            int first = tree.child(left, 0);
            int second = tree.child(right, 0);
            if (tree.kinds[first] != NUMBER || tree.kinds[second] != NUMBER
                || !tree.sameParts(tree.child(left, 1), tree.child(right, 1))) {
                return false;
            }
            int both = tree.values[first] + tree.values[second];
            if (both > GREATEST) {
                return false;
            }
            tree.values[first] = both;
            tree.keepOnly(node, left);
            return true;
        }

        /** Whether derivatives are told of all the nodes that a tree has. */
        boolean hasRules(Tree tree) {
            for (int node = 0; node < tree.count; node++) {
                int meaning = meaningOf(tree, node);
                boolean told = tree.kinds[node] == NUMBER || tree.kinds[node] == NAME || meaning == NEGATE
                    || (meaning >= ADD && meaning <= DIVIDE)
                    || (meaning == POWER && tree.kinds[tree.child(node, 1)] == NUMBER);
                if (!told) {
                    return false;
                }
            }
            return true;
        }

        /** Makes the derivative; false if there is none of at most 80 nodes. */
        boolean differentiate(Tree tree, int name) {
            made.clear();
            if (!hasRules(tree) || !addDerivative(tree, 0, name, 0)) {
                return false;
            }
            made.measure();
            return true;
        }

        /** Adds the derivative of a node to made; a tree is at most 80 deep. */
        private boolean addDerivative(Tree tree, int node, int name, int depth) {
            int kind = tree.kinds[node];
            if (depth > Tree.MOST) {
                return false;
            }
            if (kind == NUMBER || kind == NAME) {
                return addNumber(kind == NAME && tree.values[node] == name ? 1 : 0);
            }
            int left = tree.child(node, 0);
            int right = tree.child(node, 1);
            int meaning = meaningOf(tree, node);
            switch (meaning) {
                case NEGATE:
                    return made.addNode(tree, node) && addDerivative(tree, left, name, depth + 1);
                case ADD:
                case SUBTRACT:
                    return made.addNode(tree, node) && addDerivative(tree, left, name, depth + 1)
                        && addDerivative(tree, right, name, depth + 1);
                case MULTIPLY:
                case DIVIDE:
                    boolean over = meaning == DIVIDE;
                    return (!over || made.addNode(tree, node))
                        && addWanted(over ? SUBTRACT : ADD, tree, node)
                        && addWanted(MULTIPLY, tree, node)
                        && addDerivative(tree, left, name, depth + 1) && made.addPart(tree, right)
                        && addWanted(MULTIPLY, tree, node)
                        && made.addPart(tree, left) && addDerivative(tree, right, name, depth + 1)
                        && (!over || (addWanted(POWER, tree, node) && made.addPart(tree, right) && addNumber(2)));
                default:
                    int exponent = tree.values[right];
                    if (exponent == 0) {
                        return addNumber(0);
                    }
                    return addWanted(MULTIPLY, tree, node) && addWanted(MULTIPLY, tree, node) && addNumber(exponent)
                        && made.addNode(tree, node) && made.addPart(tree, left) && addNumber(exponent - 1)
                        && addDerivative(tree, left, name, depth + 1);
            }
        }

        private boolean addNumber(int value) {
            return made.add(NUMBER, value, NONE, 0);
        }

        /** Adds an operator with a meaning: that of the node, if it has it; else the one with the least sign. */
        private boolean addWanted(int meaning, Tree tree, int node) {
            if (meaningOf(tree, node) == meaning) {
                return made.addNode(tree, node);
            }
            int sign = desk.leastWith(meaning);
            return sign != NONE && made.add(OPERATOR, sign, BETWEEN, 2);
        }
    }

    /** Gathers trees as polynomials in a name, on a stack of rows of coefficients. */
    private static final class Gatherer {
        private static final int TERMS = MOST_POWER + 1;
        /** In trees of 80 nodes at most 40 operands wait for others. */
        private static final int MOST_ROWS = 48;
        private final Desk desk;
        private final Arithmetic arithmetic;
        /** Row r has the coefficients from r * TERMS on, those above its degree being 0. */
        private final Fraction[] rows = new Fraction[MOST_ROWS * TERMS];
        private final int[] degrees = new int[MOST_ROWS];
        private int height;
        private final Fraction[] product = new Fraction[TERMS];
        private final Fraction[] factor = new Fraction[TERMS];
        private final Fraction wide = new Fraction(Whole.WIDE);
        private final Fraction other = new Fraction(Whole.WIDE);
        final Fraction[] kept = new Fraction[TERMS];
        /** The left side of an equation: what stands alone, and what stands with the name. */
        private final Fraction alone = new Fraction(Whole.NARROW);
        private final Fraction named = new Fraction(Whole.NARROW);
        final Fraction solution = new Fraction(Whole.NARROW);

        Gatherer(Desk state, Arithmetic exact) {
            desk = state;
            arithmetic = exact;
            for (int i = 0; i < MOST_ROWS * TERMS; i++) {
                rows[i] = new Fraction(Whole.NARROW);
            }
            for (int i = 0; i < TERMS; i++) {
                product[i] = new Fraction(Whole.WIDE);
                factor[i] = new Fraction(Whole.WIDE);
                kept[i] = new Fraction(Whole.NARROW);
            }
        }

        /** Gathers a part of a tree into the lowest row; tells its degree, or NONE. */
        int collect(Tree tree, int part, int name) {
            height = 0;
            int last = tree.places[part];
            for (int place = last - tree.sizes[part] + 1; place <= last; place++) {
                if (!addNode(tree, tree.nodeAt(place), name)) {
                    return NONE;
                }
            }
            return height == 1 ? degrees[0] : NONE;
        }

        void keep() {
            for (int i = 0; i < TERMS; i++) {
                kept[i].copy(rows[i]);
            }
        }

        private boolean addNode(Tree tree, int node, int name) {
            if (tree.kinds[node] != OPERATOR) {
                return addLeaf(tree, node, name);
            }
            int meaning = desk.meaning(tree.values[node], tree.fixes[node]);
            if (meaning == NEGATE) {
                return negate(height - 1);
            }
            int left = height - 2;
            if (left < 0 || meaning < ADD || meaning > POWER || meaning == REMAINDER) {
                return false;
            }
            height--;
            switch (meaning) {
                case ADD: return addRows(left, false);
                case SUBTRACT: return addRows(left, true);
                case MULTIPLY: return multiplyRows(left);
                case DIVIDE: return divideRow(left);
                default:
                    int right = tree.child(node, 1);
                    boolean small = tree.kinds[right] == NUMBER && tree.values[right] <= MOST_POWER;
                    return small && raiseRow(left, tree.values[right]);
            }
        }

        private boolean addLeaf(Tree tree, int node, int name) {
            int letter = tree.values[node] - 'a';
            boolean ownName = tree.kinds[node] == NAME && tree.values[node] == name;
            boolean known = letter >= 0 && letter < desk.known.length && desk.known[letter];
            boolean otherName = tree.kinds[node] == NAME && !ownName && known;
            if (height >= MOST_ROWS || !(tree.kinds[node] == NUMBER || ownName || otherName)) {
                return false;
            }
            int start = height * TERMS;
            for (int i = 0; i < TERMS; i++) {
                rows[start + i].set(ownName && i == 1 ? 1 : 0);
            }
            if (otherName) {
                rows[start].copy(desk.names[letter]);
            } else if (!ownName) {
                rows[start].set(tree.values[node]);
            }
            degrees[height] = ownName ? 1 : 0;
            height++;
            return true;
        }

        private boolean negate(int row) {
            if (row < 0) {
                return false;
            }
            for (int i = 0; i < TERMS; i++) {
                rows[row * TERMS + i].top.flip();
            }
            return true;
        }

        /** The row above is added to a row, or taken away from it. */
        private boolean addRows(int row, boolean minus) {
            int start = row * TERMS;
            int highest = Math.max(degrees[row], degrees[row + 1]);
            for (int i = 0; i <= highest && i < TERMS; i++) {
                arithmetic.sum(wide, rows[start + i], rows[start + TERMS + i], minus);
                arithmetic.settle(wide);
                if (!wide.fits()) {
                    return false;
                }
                rows[start + i].copy(wide);
            }
            degrees[row] = degreeFrom(row, highest);
            return true;
        }

        private int degreeFrom(int row, int highest) {
            int degree = highest;
            for (int i = highest; i > 0 && rows[row * TERMS + i].isZero(); i--) {
                degree = i - 1;
            }
            return degree;
        }

        private boolean divideRow(int row) {
            Fraction divisor = rows[(row + 1) * TERMS];
            if (degrees[row + 1] != 0 || divisor.isZero()) {
                return false;
            }
            for (int i = row * TERMS; i <= row * TERMS + degrees[row]; i++) {
                arithmetic.over(wide, rows[i], divisor);
                arithmetic.settle(wide);
                if (!wide.fits()) {
                    return false;
                }
                rows[i].copy(wide);
            }
            return true;
        }

        private boolean multiplyRows(int row) {
            int degree = degrees[row] + degrees[row + 1];
            if (degree >= TERMS) {
                return false;
            }
            for (int i = 0; i < TERMS; i++) {
                factor[i].copy(rows[(row + 1) * TERMS + i]);
            }
            timesRow(row, degrees[row + 1]);
            return takeProduct(row, degree);
        }

        /** The product of factor, which has a degree, and a row. */
        private void timesRow(int row, int degree) {
            int start = row * TERMS;
            for (int i = 0; i < TERMS; i++) {
                product[i].set(0);
                for (int j = Math.max(i - degrees[row], 0); j <= i && j <= degree; j++) {
                    if (!factor[j].isZero() && !rows[start + i - j].isZero()) {
                        arithmetic.times(wide, factor[j], rows[start + i - j]);
                        arithmetic.sum(product[i], product[i], wide, false);
                        arithmetic.settle(product[i]);
                    }
                }
            }
        }

        private boolean takeProduct(int row, int degree) {
            for (int i = 0; i < TERMS; i++) {
                if (!product[i].fits()) {
                    return false;
                }
            }
            for (int i = 0; i < TERMS; i++) {
                rows[row * TERMS + i].copy(product[i]);
            }
            degrees[row] = degreeFrom(row, degree);
            return true;
        }

        /**
         * Powers on the way may have more bits than a node may, but for their highest and lowest coefficients: those
         * are powers themselves, and only grow.
         */
        private boolean raiseRow(int row, int exponent) {
            int degree = degrees[row];
            if (degree * exponent >= TERMS) {
                return false;
            }
            for (int i = 0; i < TERMS; i++) {
                product[i].set(i == 0 ? 1 : 0);
            }
            for (int turn = 1; turn <= exponent; turn++) {
                for (int i = 0; i < TERMS; i++) {
                    factor[i].copy(product[i]);
                }
                timesRow(row, degree * (turn - 1));
                if (!product[degree * turn].fits() || !lowestFits()) {
                    return false;
                }
            }
            return takeProduct(row, degree * exponent);
        }

        private boolean lowestFits() {
            for (int i = 0; i < TERMS; i++) {
                if (!product[i].isZero()) {
                    return product[i].fits();
                }
            }
            return true;
        }

        void setAside() {
            alone.copy(rows[0]);
            named.copy(rows[1]);
        }

        /** What solves the equation whose left side is set aside, and whose right one is in the lowest row. */
        int compareSides() {
            arithmetic.sum(wide, named, rows[1], true);
            arithmetic.sum(other, rows[0], alone, true);
            if (wide.isZero()) {
                return other.isZero() ? ALL_SOLVE : NO_SOLUTION;
            }
            arithmetic.over(wide, other, wide);
            arithmetic.settle(wide);
            if (!wide.fits()) {
                return NONE;
            }
            solution.copy(wide);
            return ONE_SOLUTION;
        }
    }
}
