import java.math.BigInteger;
import java.util.Random;

/**
 * Remainders, lowest terms and quotients of whole numbers that are hard to divide (runs of ones and zeros, at which
 * guesses of digits go wrong), held against BigInteger.
 */
public final class DivisionTest {
    private static final int RUNS = 6000;
    private static final BigInteger TWO = BigInteger.TWO;

    private final Random random = new Random(2024);
    private String text = "";
    private BigInteger value;

    public static void main(String[] args) {
        DivisionTest test = new DivisionTest();
        int wrong = 0;
        for (int run = 0; run < RUNS && wrong < 5; run++) {
            wrong += test.divide() && test.shorten() ? 0 : 1;
        }
        System.out.println(RUNS + " divisions, " + wrong + " wrong");
        if (wrong > 0) {
            System.exit(1);
        }
    }

    /** Makes a number and its text; p is 2 to the power 60. */
    private void number(int most) {
        StringBuilder made = new StringBuilder("(");
        value = BigInteger.ZERO;
        int bits = most;
        for (int k = 0; k < 3; k++) {
            bits = k == 0 ? most : random.nextInt(bits + 1);
            if (random.nextInt(2) == 0) {
                bits -= bits % 30;
            }
            boolean minus = k > 0 && random.nextInt(2) == 0;
            made.append(k == 0 ? "" : minus ? "-" : "+").append("p*".repeat(bits / 60)).append("2^").append(bits % 60);
            value = minus ? value.subtract(TWO.pow(bits)) : value.add(TWO.pow(bits));
        }
        text = made.append(")").toString();
    }

    private boolean divide() {
        int most = 2 + random.nextInt(196);
        number(most);
        String left = text;
        BigInteger a = value;
        number(1 + random.nextInt(most));
        BigInteger b = value;
        if (b.signum() == 0 || left.length() + text.length() > 59) {
            return true;
        }
        Rankwise desk = new Rankwise();
        put(desk, "2^60");
        desk.let('p', 0);
        BigInteger common = a.gcd(b).max(BigInteger.ONE);
        common = b.signum() < 0 ? common.negate() : common;
        boolean right = desk.evaluate(put(desk, left + "%" + text)) == 0
            && answer(desk, 0).equals(a.mod(b.abs())) && answer(desk, 1).equals(BigInteger.ONE);
        boolean lowest = desk.evaluate(put(desk, left + "/" + text)) == 0
            && answer(desk, 0).equals(a.divide(common)) && answer(desk, 1).equals(b.divide(common));
        if (!right || !lowest) {
            System.out.println(left + " and " + text + ": " + (right ? "" : "remainder ") + (lowest ? "" : "lowest terms"));
        }
        return right && lowest;
    }

    /** A fraction whose parts have a great divisor in common, so that their quotients by it are wanted. */
    private boolean shorten() {
        int most = 31 + random.nextInt(130);
        number(most);
        String divisor = text;
        BigInteger common = value;
        number(1 + random.nextInt(199 - most));
        String factor = text;
        BigInteger a = value;
        number(1 + random.nextInt(199 - most));
        BigInteger b = value;
        if (common.signum() == 0 || b.signum() == 0 || divisor.length() > 60 || factor.length() > 60 || text.length() > 60) {
            return true;
        }
        Rankwise desk = new Rankwise();
        put(desk, "2^60");
        desk.let('p', 0);
        desk.let('c', put(desk, divisor));
        desk.let('a', put(desk, factor));
        desk.let('b', put(desk, text));
        BigInteger shared = a.gcd(b);
        shared = b.signum() < 0 ? shared.negate() : shared;
        boolean right = desk.evaluate(put(desk, "a*c/(b*c)")) == 0
            && answer(desk, 0).equals(a.divide(shared)) && answer(desk, 1).equals(b.divide(shared));
        if (!right) {
            System.out.println("a*c/(b*c) with c " + divisor + ", a " + factor + ", b " + text);
        }
        return right;
    }

    private static int put(Rankwise desk, String typed) {
        for (char c : typed.toCharArray()) {
            desk.type(c);
        }
        return desk.read();
    }

    private static BigInteger answer(Rankwise desk, int part) {
        int length = desk.answer(part, 32);
        StringBuilder digits = new StringBuilder();
        for (int place = 0; place < length; place++) {
            digits.append((char) desk.out(place));
        }
        return new BigInteger(digits.toString(), 32);
    }
}
