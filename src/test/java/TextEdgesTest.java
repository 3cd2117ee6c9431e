/** The edges of typing and of texts: words, operators, the grammar, fault() and read(), sentence by sentence. */
public final class TextEdgesTest {
    private static final String SIXTY = "1+".repeat(29) + "11";

    public static void main(String[] args) {
        typed();
        dropped();
        blanks();
        decimalNumbers();
        basedNumbers();
        longestRuns();
        zeroAndLetter();
        names();
        everyCharacter();
        arguments();
        ranksBefore();
        ranksBehind();
        ranksBetween();
        sides();
        neither();
        faults();
        reads();
        Bench.end("TextEdgesTest");
    }

    private static void typed() {
        Bench.sentence("Characters are typed, at most 60.");
        Rankwise desk = new Rankwise();
        for (int k = 0; k < 60; k++) {
            Bench.due("type " + k, desk.type(SIXTY.charAt(k)), k + 1);
        }
        Bench.due("read of 60 characters", desk.read(), 0);
        Bench.due("nodes of 60 characters", Bench.nodes(desk, 0), 59);
        Bench.due("type behind it", desk.type('1'), 1);
        Bench.refused("type of a 61st", Bench.STATE, one -> Bench.type(one, SIXTY), one -> one.type('1'));
        Bench.refused("type of a 61st blank", Bench.STATE, one -> Bench.type(one, " ".repeat(60)),
            one -> one.type(' '));

        Bench.sentence("Types a character .. any character .. Returns how many there are then.");
        Rankwise odd = new Rankwise();
        char[] any = {0, 1, '\n', 127, 128, 255, 256, 0xd800, 65535};
        for (int k = 0; k < any.length; k++) {
            Bench.due("type " + (int) any[k], odd.type(any[k]), k + 1);
        }
    }

    private static void dropped() {
        Bench.sentence("Drops what was typed; returns how many characters there were.");
        Rankwise desk = new Rankwise();
        Bench.due("drop of nothing", desk.drop(), 0);
        Bench.type(desk, SIXTY);
        Bench.due("drop of all", desk.drop(), 60);
        Bench.due("drop again", desk.drop(), 0);
        Bench.due("fault then", desk.fault(), 0);
        Bench.type(desk, " ");
        Bench.due("drop of a blank", desk.drop(), 1);
        Bench.type(desk, "7");
        Bench.due("what is typed behind it", Bench.shape(desk, desk.read()), "7");
    }

    private static void blanks() {
        Bench.sentence("Blanks part words and are none.");
        Rankwise desk = new Rankwise();
        Bench.faults(desk, "", 0, " ", 1, "   ", 3, " 1 ", -1, "1 ", -1, "1 2", 2, "a b", 2, "1 +", 3, "0x1 f", 4, " x",
            -1,
            "1\t", 1, "\t1", 0, "1\n+1", 1, "1\u00a0", 1);
        Bench.shapes(desk, " 1 + 2 ", "(1+2)", "f (x)", "f(x)", "f ( x , y )", "f(x,y)", "- - 1 !", "(-(-(1!)))",
            "( 1 )", "1");
    }

    private static void decimalNumbers() {
        Bench.sentence("A number is a run of 1 to 9 digits 0 to 9");
        Rankwise desk = new Rankwise();
        Bench.shapes(desk, "0", "0", "9", "9", "00", "0", "007", "7", "123456789", "123456789", "999999999",
            "999999999",
            "000000001", "1", "000000000", "0", "(0)", "0");
        Bench.faults(desk, "9999999999", 9, "0000000001", 9, "000000000", -1, "1+9999999999", 11, "9999999999999", 9,
            "1a", 1, "1:", 1, "1/", 2);
    }

    private static void basedNumbers() {
        Bench.sentence("0, then x, o or b, then a run of 1 to 7 digits of base 16 (0 to 9, a to f), 8 or 2");
        Rankwise desk = new Rankwise();
        Bench.shapes(desk, "0x0", "0", "0xf", "15", "0xa", "10", "0x9", "9", "0xfffffff", "268435455", "0x0000001", "1",
            "0x1234567", "19088743", "0x89abcde", "144358622", "0o7", "7", "0o10", "8", "0o7777777", "2097151", "0b1",
            "1",
            "0b10", "2", "0b1111111", "127", "0b0000000", "0");
        Bench.faults(desk, "0xfffffff", -1, "0xfffffff0", 9, "0xfffffffa", 9, "0o7777777", -1, "0o77777770", 9,
            "0b1111111", -1, "0b11111110", 9);
        Bench.faults(desk, "0x", 2, "0o", 2, "0b", 2, "0xg", 2, "0o8", 2, "0b2", 2, "0x 1", 2, "0x+", 2, "0xA", 2,
            "0X1", 1,
            "0o17", -1, "0o18", 3, "0b12", 3, "0b1a", 3, "0x1g", 3, "0b01", -1, "1+0x", 4, "1+0xz", 4, "(0b", 3, "0x`",
            2,
            "0o/", 2, "0b/", 2, "0x:", 2, "0x@", 2);
    }

    private static void longestRuns() {
        Bench.sentence("each run is as long as it can be, but for its greatest length, and a digit behind that begins another word");
        Rankwise desk = new Rankwise();
        Bench.shapes(desk, "12", "12", "0x1f", "31", "0xdef", "3567", "123456789+1", "(123456789+1)", "0b1010-1",
            "(10-1)");
        Bench.faults(desk, "1234567890", 9, "1234567890x", 9, "0x12345678", 9, "0xabcdefab", 9, "0b11111111", 9,
            "0o12345670", 9);
    }

    private static void zeroAndLetter() {
        Bench.sentence("A 0 that begins a word, with x, o or b right behind it, always begins such a number.");
        Rankwise desk = new Rankwise();
        Bench.faults(desk, "0x", 2, "0x*2", 2, "0b+1", 2, "0o!", 2, "00x1", 2, "10x1", 2, "0 x", 2, "0x1", -1, "00", -1,
            "1*0b", 4, "1*0b1", -1, "0y", 1, "0a", 1, "123456789 0x", 10, "5 0x1", 2, "a0x1", 1, "0x0x1", 3, "0b0b", 3);
    }

    private static void names() {
        Bench.sentence("A name is one letter a to z.");
        Rankwise desk = new Rankwise();
        for (char name = 'a'; name <= 'z'; name++) {
            Bench.shapes(desk, "" + name, "" + name, name + "(1)", name + "(1)");
        }
        Bench.faults(desk, "`", 0, "{", 0, "A", 0, "Z", 0, "aa", 1, "a1", 1, "_", 0, "\u00e4", 0, "\u0161", 0);
    }

    /** What a character is ahead of all, and behind a number; such a desk knows the operators told at first. */
    private static void everyCharacter() {
        Bench.sentence("A word is a number, a name, a sign, a bracket ( or ), or a comma. .. A sign is one of the 16 characters");
        Rankwise desk = new Rankwise();
        for (int c = 0; c < 65536; c++) {
            if (c % 100 == 0) {
                desk = new Rankwise();
            }
            boolean digit = c >= '0' && c <= '9';
            boolean letter = c >= 'a' && c <= 'z';
            int ahead = digit || letter ? -1 : " (-~".indexOf(c) >= 0 ? 1 : 0;
            int behind = digit || c == ' ' || c == '!' ? -1 : "+-*/%^&|<>=".indexOf(c) >= 0 ? 2 : 1;
            Bench.due("fault of character " + c, Bench.fault(desk, "" + (char) c), ahead);
            Bench.due("fault of 1 and character " + c, Bench.fault(desk, "1" + (char) c), behind);
        }
        Rankwise told = new Rankwise();
        for (char sign : Bench.SIGNS.toCharArray()) {
            told.tell(sign, Rankwise.BEFORE, 9, Rankwise.LEFT, Rankwise.NEGATE);
            Bench.shapes(told, sign + "1", "(" + sign + "1)");
        }
    }

    private static void arguments() {
        Bench.sentence("a name, ( , one to four texts T(1) parted by commas, and ) , which is a call");
        Rankwise desk = new Rankwise();
        Bench.faults(desk, "f()", 2, "f(", 2, "f(1", 3, "f(1,", 4, "f(1,2,3,4", 9, "f(1,2,3,4)", -1, "f(1,2,3,4,", 9,
            "f(1,2,3,4,5)", 9, "f(,1)", 2, "f(1,)", 4, "f(1,,2)", 4, "(1,2)", 2, "f((1,2))", 4, "1,2", 1, "f(1))", 4,
            "f(1)(2)", 4, "1(2)", 1, "(f)(2)", 3, "f(g(1,2),h(3,4,5,6))", -1, "f(g(1,2,3,4,5))", 11, "s(1)", -1,
            "i(1,2)", -1);
        Bench.shapes(desk, "f(1)", "f(1)", "f(1,2)", "f(1,2)", "f(1,2,3)", "f(1,2,3)", "f(1,2,3,4)", "f(1,2,3,4)",
            "f((1),g(2|3))", "f(1,g((2|3)))", "f(1|2,3)", "f((1|2),3)", "f", "f", "f+g(1)", "(f+g(1))");
    }

    private static void ranksBefore() {
        Bench.sentence("an operator BEFORE of any rank q and behind it T(q + 1)");
        for (int rank = 1; rank <= 9; rank++) {
            Rankwise desk = new Rankwise();
            desk.tell('@', Rankwise.BEFORE, rank, Rankwise.LEFT, Rankwise.NEGATE);
            desk.tell('#', Rankwise.BETWEEN, 9, Rankwise.LEFT, Rankwise.ADD);
            String[] betweens = {"|", "&", "<", "+", "*", "", "^", "", "#"};
            for (int other = 1; other <= 9; other++) {
                String sign = betweens[other - 1];
                String want = other > rank ? "(@(a" + sign + "b))" : "((@a)" + sign + "b)";
                if (!sign.isEmpty()) {
                    Bench.shapes(desk, "@a" + sign + "b", want, "b^@a" + sign + "b",
                        other > rank ? "(b^(@(a" + sign + "b)))"
                        : other < 7 ? "((b^(@a))" + sign + "b)" : "(b^((@a)" + sign + "b))");
                }
            }
            Bench.shapes(desk, "@a!", rank == 8 || rank == 9 ? "((@a)!)" : "(@(a!))", "@@a", "(@(@a))", "-@a",
                "(-(@a))");
        }
    }

    private static void ranksBehind() {
        Bench.sentence("As long as what comes next is an operator BEHIND, or BETWEEN, of a rank q of r or more");
        for (int rank = 1; rank <= 9; rank++) {
            Rankwise desk = new Rankwise();
            desk.tell('#', Rankwise.BEHIND, rank, Rankwise.LEFT, Rankwise.FACTORIAL);
            Bench.shapes(desk, "a|b#", rank >= 2 ? "(a|(b#))" : "((a|b)#)", "a<b#", rank >= 4 ? "(a<(b#))" : "((a<b)#)",
                "a*b#", rank >= 6 ? "(a*(b#))" : "((a*b)#)", "a^b#", rank >= 7 ? "(a^(b#))" : "((a^b)#)",
                "-b#", rank >= 7 ? "(-(b#))" : "((-b)#)", "b##", "((b#)#)", "b!#", "((b!)#)", "b#!", "((b#)!)",
                "f(a|b#)", rank >= 2 ? "f((a|(b#)))" : "f(((a|b)#))", "(a)#", "(a#)");
        }
    }

    private static void ranksBetween() {
        Bench.sentence("behind one that is BETWEEN comes its right operand, T(q) if its side is RIGHT, otherwise T(q + 1)");
        for (int rank = 1; rank <= 9; rank++) {
            for (int side = Rankwise.LEFT; side <= Rankwise.NEITHER; side++) {
                Rankwise desk = alone(rank);
                desk.tell('#', Rankwise.BETWEEN, rank, side, Rankwise.ADD);
                desk.tell('?', Rankwise.BETWEEN, rank, side, Rankwise.ADD);
                chain(desk, side);
                Bench.shapes(desk, "a#b", "(a#b)", "(a)#b", "(a#b)", "f(1)#b", "(f(1)#b)", "a!#b", "((a!)#b)",
                    "(a#b)?c", "((a#b)?c)", "a#(b?c)", "(a#(b?c))", "f(a#b,(c?d))", "f((a#b),(c?d))", "-a#b",
                    rank < 7 ? "((-a)#b)" : "(-(a#b))");
                for (int other = 1; other <= 9; other++) {
                    char sign = "|&<+*_^_@".charAt(other - 1);
                    if (desk.told(sign, Rankwise.BETWEEN, 0) == other && other != rank) {
                        Bench.shapes(desk, "a#b" + sign + "c",
                            rank < other ? "(a#(b" + sign + "c))" : "((a#b)" + sign + "c)",
                            "a" + sign + "b#c", rank > other ? "(a" + sign + "(b#c))" : "((a" + sign + "b)#c)");
                    }
                }
            }
        }
    }

    /** A desk on which no operator BETWEEN has a rank. */
    private static Rankwise alone(int rank) {
        Rankwise desk = new Rankwise();
        for (char sign : Bench.SIGNS.toCharArray()) {
            if (desk.told(sign, Rankwise.BETWEEN, 0) == rank) {
                int side = desk.told(sign, Rankwise.BETWEEN, 1);
                int to = side == Rankwise.LEFT ? (rank == 1 ? 2 : 1) : rank + 1 + side / 2 * 2;
                desk.tell(sign, Rankwise.BETWEEN, to, side, desk.told(sign, Rankwise.BETWEEN, 2));
            }
        }
        if (rank != 9) {
            desk.tell('@', Rankwise.BETWEEN, 9, Rankwise.LEFT, Rankwise.ADD);
        }
        return desk;
    }

    /** Two operators with one rank behind one another. */
    private static void chain(Rankwise desk, int side) {
        if (side == Rankwise.NEITHER) {
            Bench.faults(desk, "a#b?c", 3, "a#b#c", 3, "(a#b?c)", 4, "f(a#b#", 5);
            return;
        }
        String left = "((a#b)?c)";
        String right = "(a#(b?c))";
        Bench.shapes(desk, "a#b?c", side == Rankwise.LEFT ? left : right, "(a#b?c)",
            side == Rankwise.LEFT ? left : right,
            "f(1,a#b?c)", "f(1," + (side == Rankwise.LEFT ? left : right) + ")", "f(a#b?c,1)",
            "f(" + (side == Rankwise.LEFT ? left : right) + ",1)");
    }

    private static void sides() {
        Bench.sentence("At first there are .. (as they are read)");
        Bench.shapes(new Rankwise(), "a-b-c", "((a-b)-c)", "a^b^c", "(a^(b^c))", "a*b%c/d", "(((a*b)%c)/d)", "-a^b",
            "(-(a^b))",
            "-a*b", "((-a)*b)", "a^-b^c", "(a^(-(b^c)))", "a^-b*c", "((a^(-b))*c)", "~a=b", "((~a)=b)", "-a!",
            "(-(a!))",
            "a^b!", "(a^(b!))", "a--b", "(a-(-b))", "a<b+c", "(a<(b+c))", "a&b<c|d", "((a&(b<c))|d)", "a|b|c",
            "((a|b)|c)",
            "a&b&c", "((a&b)&c)", "(a-b)-c", "((a-b)-c)", "a-(b-c)", "(a-(b-c))", "((a))", "a");
    }

    private static void neither() {
        Bench.sentence("No operator BETWEEN can have a left operand that is, without brackets, one BETWEEN with the same rank and the side NEITHER");
        Rankwise desk = new Rankwise();
        Bench.faults(desk, "a<b<c", 3, "a<b=c", 3, "a=b>c", 3, "a>b<", 3, "(a<b)<c", -1, "a<(b<c)", -1, "a<b&c<d", -1,
            "a<b+c<d", 5,
            "a<-b<c", 4, "(a<b<c)", 4, "f(a<b,c<d)", -1, "f(a<b<c)", 5, "((a<b))<c", -1, "a&b<c<d", 5, "a<b!<c", 4);
        desk.tell('@', Rankwise.BEFORE, 2, Rankwise.LEFT, Rankwise.NOT);
        Bench.faults(desk, "a<@b<c", -1, "a<@b<c<d", 6, "@a<b<c", 4, "a<@b&c<d", -1);
        Bench.shapes(desk, "a<@b<c", "(a<(@(b<c)))");
        desk.tell('@', Rankwise.BEFORE, 3, Rankwise.LEFT, Rankwise.NOT);
        Bench.faults(desk, "a<@b<c", 4, "@a<b", -1, "@a<b<c", 4);
        for (int rank = 1; rank <= 9; rank++) {
            desk.tell('#', Rankwise.BEHIND, rank, Rankwise.LEFT, Rankwise.NOT);
            Bench.faults(desk, "a<b#<c", rank <= 3 ? -1 : 4);
            Bench.due("nothing to be undone is left of it", desk.undo(), Rankwise.TABLE);
        }
        desk.tell('?', Rankwise.BETWEEN, 8, Rankwise.NEITHER, Rankwise.LESS);
        Bench.faults(desk, "a?b<c", -1, "a<b?c", -1, "a?b?c", 3, "a?b<c?d", -1, "a<b?c<d", 5);
    }

    private static void faults() {
        Bench.sentence("Tells where what was typed is no text, by the operators as they are told now.");
        Rankwise desk = new Rankwise();
        Bench.type(desk, "1@2");
        Bench.due("fault", desk.fault(), 1);
        desk.tell('@', Rankwise.BETWEEN, 4, Rankwise.LEFT, Rankwise.ADD);
        Bench.due("fault as told", desk.fault(), Rankwise.NONE);
        desk.undo();
        Bench.due("fault as told no longer", desk.fault(), 1);
        desk.tell('@', Rankwise.BEFORE, 4, Rankwise.LEFT, Rankwise.NOT);
        Bench.due("fault as told BEFORE", desk.fault(), 1);
        desk.tell('@', Rankwise.BEHIND, 4, Rankwise.LEFT, Rankwise.NOT);
        Bench.due("fault as told BEHIND", desk.fault(), 2);
        Bench.due("it is typed still", desk.drop(), 3);

        Bench.sentence("the place of the first character with which no text goes on there, however long");
        Rankwise other = new Rankwise();
        Bench.faults(other, "+", 0, "!", 0, "*1", 0, ")", 0, ",", 0, "1)", 1, "1+)", 2, "()", 1, "(1+)", 3, "1++1", 2,
            "1+!", 2, "1~", 1,
            "1~2", 1, "1!2", 2, "1!!", -1, "1-!", 2, "1 @", 2, "@", 0, "1+1)+A", 3, "A)", 0, "1=2=", 3, "(1))", 3);
        Bench.faults(other, "1" + "+1".repeat(29) + ")", 59, "1+".repeat(30), 60, "(".repeat(60), 60, "-".repeat(60),
            60);

        Bench.sentence("how many characters there are, if it is just not complete (so, too, if nothing was typed)");
        Bench.faults(other, "", 0, "  ", 2, "1+", 2, "1+ ", 3, "-", 1, "(", 1, "(1", 2, "(1 ", 3, "f(", 2, "0x", 2,
            "((1)", 4, "~", 1);

        Bench.sentence("NONE if it is a text.");
        Bench.faults(other, "1", -1, "x", -1, "-1", -1, "1!", -1, "(1)", -1, "f(1)", -1, SIXTY, -1,
            " ".repeat(59) + "1", -1);
    }

    private static void reads() {
        Bench.sentence("Reads what was typed, and puts its tree on the shelf; nothing is typed then.");
        Rankwise desk = new Rankwise();
        Bench.due("read", Bench.put(desk, "1"), 0);
        Bench.due("drop then", desk.drop(), 0);
        Bench.due("read again", Bench.put(desk, "2"), 1);
        Bench.due("trees", desk.trees(), 2);

        Bench.sentence("Throws IllegalStateException if it is no text, or the shelf is full (30)");
        for (String text : new String[] {"", " ", "1+", "1)", "@", "0x", "f()", "1<2<3", "1 2"}) {
            Bench.refused("read of [" + text + "]", Bench.STATE, one -> Bench.type(one, text), one -> one.read());
        }
        Rankwise full = new Rankwise();
        for (int k = 0; k < 30; k++) {
            Bench.due("read of the next", Bench.put(full, "x"), k);
        }
        Bench.refused("read on a full shelf", Bench.STATE, one -> {
            Bench.fill(one);
            Bench.type(one, "1");
        }, one -> one.read());
        Bench.type(full, "1");
        full.undo();
        Bench.due("read where there is room again", full.read(), 29);
    }
}
