/** Promises 6 and 44, and what Terms 1 say of THE RULE: each sentence that names an edge, by itself. */
public final class RuleEdgesTest {
    private static final String LETTERS = "atrhfin";
    private static final String SIGNS = "+-*/<>=";
    /** 39 signs: one more sign, or less, of a sum of ones. */
    private static final String LONG = "1+1+1+1+1+1+1+1+1+1+1+1+1+1+1+1+1+1+1+1";

    public static void main(String[] args) {
        firstSigns();
        signsBehind();
        numbersHaveThreeDigits();
        comparedOnce();
        brackets();
        manyLess();
        endsTooEarly();
        moreThanForty();
        emptyRules();
        fortyThings();
        refusedRulesStay();
        divisions();
        bindings();
        asInts();
        putToThree();
        things();
        throwsBySeven();
        Check.end("RuleEdgesTest");
    }

    /** Both calls that read a rule tell the same place, each in its own way. */
    private static void at(String text, int place) {
        HopCourts x = Check.made("1", "45");
        Check.due("6: " + text, Check.rule(x, text), place < 0 ? 0 : -1 - place);
        Check.due("6: THE TEXT is empty", x.count(11), 0);
        HopCourts none = new HopCourts();
        Check.due("44: " + text, Check.law(none, text), place < 0 ? -2 : -10000 - place);
        Check.due("44: THE TEXT is empty", none.count(11), 0);
    }

    private static void fine(String text) {
        at(text, -1);
    }

    /** OFF of the player of REACH 4 and AIM 5, alone in a court of one SQUARE, behind no THROW. */
    private static void off(String text, int off) {
        HopCourts x = Check.made("1", "45");
        Check.due("6: " + text, Check.rule(x, text), 0);
        Check.due("OFF by " + text, x.player(0, 7), 10 + off);
    }

    private static boolean isDigit(int sign) {
        return sign >= '0' && sign <= '9';
    }

    private static boolean isThing(int sign) {
        return isDigit(sign) || LETTERS.indexOf(sign) >= 0;
    }

    /** 6: "the sign at p can't stand there (its end, if it ends too early ..)", of each first sign. */
    private static void firstSigns() {
        for (int sign = 0; sign < 256; sign++) {
            boolean opens = sign == '(' || sign == '-';
            at("" + (char) sign, isThing(sign) ? -1 : opens ? 1 : 0);
            at("1+" + (char) sign, isThing(sign) ? -1 : opens ? 3 : 2);
            at("n*" + (char) sign, isThing(sign) ? -1 : opens ? 3 : 2);
            at("1<" + (char) sign, isThing(sign) ? -1 : opens ? 3 : 2);
            at("-" + (char) sign, isThing(sign) ? -1 : opens ? 2 : 1);
            at("(" + (char) sign + ")", isThing(sign) ? -1 : opens ? 2 : 1);
        }
    }

    private static void signsBehind() {
        for (int sign = 0; sign < 256; sign++) {
            char c = (char) sign;
            boolean joins = SIGNS.indexOf(c) >= 0;
            at("a" + c, joins ? 2 : 1);
            at("1" + c, isDigit(sign) ? -1 : joins ? 2 : 1);
            at("(a)" + c, joins ? 4 : 3);
            at("(a" + c, joins || c == ')' ? c == ')' ? -1 : 3 : 2);
            at("a" + c + "n", joins ? -1 : 1);
        }
    }

    /** Terms 1: "a NUMBER of 1 to 3 digits". */
    private static void numbersHaveThreeDigits() {
        fine("0");
        fine("00");
        fine("000");
        fine("999");
        at("0000", 3);
        at("1234", 3);
        at("a+1234", 5);
        at("(1234)", 4);
        at("12345", 3);
        off("003", 3);
        off("999-997", 2);
        off("010-9", 1);
    }

    /** Terms 1: "< > = bind least (two; 1 or 0; not one behind the other)". */
    private static void comparedOnce() {
        for (char one : "<>=".toCharArray()) {
            fine("a" + one + "n");
            fine("(a" + one + "n)");
            for (char other : "<>=".toCharArray()) {
                at("a" + one + "n" + other + "r", 3);
                at("a" + one + "n" + other, 3);
                at("(a" + one + "n" + other + "r)", 4);
                at("a" + one + other + "n", 2);
                at("1+a" + one + "n+1" + other + "r", 7);
                fine("(a" + one + "n)" + other + "r");
                fine("a" + one + "(n" + other + "r)");
                fine("(a" + one + "n)" + other + "(n" + one + "r)");
                at("(a" + one + "n)" + other + "1" + one + "r", 7);
            }
        }
        off("4<5", 1);
        off("5<5", 0);
        off("6<5", 0);
        off("4>5", 0);
        off("5>5", 0);
        off("6>5", 1);
        off("4=5", 0);
        off("5=5", 1);
        off("6=5", 0);
        off("-1<0", 1);
        off("-1>0", 0);
        off("1+1=2", 1);
        off("2*2>1+2", 1);
        off("(3>2)+(2>1)+(1>2)", 2);
        off("2-(3>2)*2", 0);
    }

    /** Terms 1: "an EXPRESSION in ( ) (at most 4 in one another)". */
    private static void brackets() {
        fine("((((1))))");
        at("(((((1)))))", 4);
        at("(((((", 4);
        at("((((", 4);
        at("1+((((2+(3)))))", 8);
        fine("((((1))))+((((1))))");
        fine("(1)+(1)+(1)+(1)+(1)+(1)+(1)");
        fine("((((1)+(1))+(1))+(1))");
        fine("-(-(-(-(-1))))");
        at("-(-(-(-(-(1)))))", 9);
        at("((((1)))))", 9);
        at(")", 0);
        at("()", 1);
        at("(1", 2);
        at("(1))", 3);
        at("1)", 1);
        at("(1)(1)", 3);
        at("2(1)", 1);
        at("(1)2", 3);
        at("a(1)", 1);
    }

    /** Terms 1: "then - ahead of a thing (any many)". */
    private static void manyLess() {
        fine("-".repeat(39) + "1");
        at("-".repeat(40), 40);
        at("-".repeat(40) + "1", 40);
        off("-".repeat(39) + "1", -1);
        off("-".repeat(38) + "2", 2);
        off("3--1", 3);
        off("1--1", 2);
        off("1---1", 0);
        off("2*-1", -2);
        off("-1*-2", 2);
        off("4/-2", -2);
        off("-(1+1)", -2);
        off("--(1+1)", 2);
        off("0-2+1", -1);
        off("-2+1", -1);
        at("1+-", 3);
        at("-+1", 1);
        at("1*--", 4);
    }

    /** 6: "its end, if it ends too early". */
    private static void endsTooEarly() {
        String whole = "(a+12)*-(3<n)";
        for (int length = 1; length < whole.length(); length++) {
            String text = whole.substring(0, length);
            at(text, length == 6 ? -1 : length);
        }
        fine(whole);
        at(LONG + "+", 40);
        at("(" + LONG, 40);
        at("-".repeat(37) + "((", 39);
    }

    /** 6: "40, if it has more and the first 40 could go on or end". */
    private static void moreThanForty() {
        Check.due("39 signs", LONG.length(), 39);
        fine(LONG);
        fine("-" + LONG);
        fine(LONG + "2");
        for (char c : "1az+()<;\u0000".toCharArray()) {
            at("-" + LONG + c, 40);
            at("-" + LONG + c + "1", 40);
            at("-" + LONG + "23" + c, 40);
            at(LONG + "+" + c, 40);
            at("(" + LONG + c, 40);
            at("-(" + LONG.substring(1) + c, 2);
        }
        at("-" + LONG + "1".repeat(40), 40);
        at(LONG.substring(0, 38) + "z1", 38);
        at(LONG.substring(0, 37) + "z111", 37);
        at(LONG + "z" + "1", 39);
        at(LONG + ")+1", 39);
        at(LONG + "a+1", 39);
        at(LONG.substring(0, 36) + "+1+1+1", 36);
        at(LONG.substring(0, 35) + "1111+1+1", 37);
        at("1<" + LONG.substring(0, 37) + "<1", 39);
        at("1<" + LONG.substring(0, 37) + "+<1", 40);
        at("z" + LONG + LONG, 0);
        at("(((((" + LONG, 4);
    }

    /** 6: "an empty one: none". */
    private static void emptyRules() {
        HopCourts x = Check.made("1", "40");
        Check.rule(x, "2");
        Check.due("6: 2", x.player(0, 7), 12);
        Check.due("6: none", Check.rule(x, ""), 0);
        Check.due("6: n>a by 0", x.player(0, 7), 10);
        x.throwsOne();
        Check.due("6: n>a by 1", x.player(0, 7), 11);
        x.sheet(2, 1, 1, 0);
        Check.due("6: n>a, 1 > 1", x.player(0, 7), 10);
        Check.rule(x, "1");
        // THROWS 1 to 30 by 7: 1, five of 2 to 6, then thrice 0 and 1 and five others, then 0, 1, 2.
        Check.due("44: none is n>a", x, Check.law(x, ""), 9, 9, 0, 21, 30);
    }

    /** Each of 40 signs may count, and nothing is left of a former rule. */
    private static void fortyThings() {
        String forty = "-1" + "+1-1".repeat(9) + "+0";
        Check.due("40 signs", forty.length(), 40);
        off(forty, -1);
        HopCourts x = Check.made("1", "40");
        for (int i = 0; i < 3; i++) {
            Check.due("6: 40", Check.rule(x, forty), 0);
            Check.due("OFF by 40", x.player(0, 7), 9);
        }
        for (int i = 0; i < 3; i++) {
            Check.due("6: none behind 40", Check.rule(x, ""), 0);
            Check.due("OFF by n>a", x.player(0, 7), 10);
        }
        Check.rule(x, forty);
        Check.rule(x, forty);
        Check.due("6: a short one behind 40", Check.rule(x, "3-1"), 0);
        Check.due("OFF by 3-1", x.player(0, 7), 12);
        Check.due("44: none behind 40", Check.law(x, ""), 5);
    }

    private static void refusedRulesStay() {
        HopCourts x = Check.made("1", "40");
        Check.rule(x, "2");
        x.fits();
        for (String wrong : new String[] {"1+", "0<", "(0", "z", "0000", "((((0))))0", "0" + "+0".repeat(20)}) {
            Check.due("6: " + wrong, x, Check.rule(x, wrong) < 0 ? 1 : 0, 1, 1);
            Check.due("6: THE RULE stays", x.player(0, 7), 12);
            Check.due("44: " + wrong, x, Check.law(x, wrong) <= -10000 ? 1 : 0, 1, 1);
            Check.due("44: THE RULE stays", x.player(0, 7), 12);
        }
        Check.due("44: another one", Check.law(x, "1"), 0);
        Check.due("44: THE RULE stays", x.player(0, 7), 12);
    }

    /** Terms 1: "/ (from the left; by 0: 0; cut to 0)". */
    private static void divisions() {
        off("1/0", 0);
        off("0/0", 0);
        off("-1/0", 0);
        off("a/0+2", 2);
        off("9/(a-5)", 0);
        off("7/0*2+1", 1);
        off("1/2", 0);
        off("-1/2", 0);
        off("7/3", 2);
        off("-7/3", -2);
        off("(0-7)/3", -2);
        off("7/-3", -2);
        off("(0-7)/-3", 2);
        off("5/3", 1);
        off("-5/3", -1);
        off("8/4/2", 1);
        off("8/(4/2)-2", 2);
        off("6/4*2", 2);
        off("2*6/4", 3);
        off("0/a", 0);
    }

    private static void bindings() {
        off("1+1*2", 3);
        off("(1+1)*1", 2);
        off("5-3-1", 1);
        off("5-(3-1)", 3);
        off("1-2+3", 2);
        off("1-2*2", -3);
        off("9-4*2", 1);
        off("6/2-1", 2);
        off("6-4/2-2", 2);
        off("1<2+1", 1);
        off("1+2<2", 0);
        off("2*1=1*2", 1);
        off("-1+2", 1);
        off("-1-1", -2);
        off("-1*2+1", -1);
    }

    /** Terms 1: "As ints". */
    private static void asInts() {
        String two31 = "256*256*256*128";
        off(two31, -3);
        off(two31 + "-1", 3);
        off("-(" + two31 + ")", -3);
        off("(" + two31 + ")/-1", -3);
        off("(" + two31 + ")*-1<0", 1);
        off(two31 + "<0", 1);
        off("256*256*256*256", 0);
        off("256*256*256*256+2", 2);
        off("999*999*999*999/999", -2147483648 / 999 < -3 ? -3 : 3);
        off("999*999*999*3<0", 1);
        off("999*999*999*2>0", 1);
    }

    /** Terms 1: "put to -3 .. 3: OFF". */
    private static void putToThree() {
        int[] values = {-999, -5, -4, -3, -2, -1, 0, 1, 2, 3, 4, 5, 999};
        for (int value : values) {
            String text = value < 0 ? "0-" + -value : "" + value;
            off(text, Math.max(-3, Math.min(3, value)));
        }
        // Only the last value is put: in between it is what it is.
        off("9-8", 1);
        off("0-9+8", -1);
        off("99/50", 1);
    }

    /** Terms 1: "a AIM, t GOAL, r ROW of GOAL (how many ROWS there are, if GOAL is no SQUARE), h, f, i, n". */
    private static void things() {
        HopCourts x = Check.made("221", "40;43;49");
        Check.rule(x, "0");
        x.plays(4);
        value(x, 0, "t", 4);
        value(x, 0, "r", 2);
        value(x, 1, "t", 0);
        value(x, 1, "r", 0);
        value(x, 0, "a", 0);
        value(x, 1, "a", 3);
        value(x, 2, "a", 9);
        value(x, 0, "i", 0);
        value(x, 1, "i", 1);
        value(x, 2, "i", 2);
        value(x, 0, "n", 4);
        value(x, 2, "n", 4);
        // Player 1 takes SQUARE 4, in which alone player 0 has not thrown: his GOAL is no SQUARE.
        Check.rule(x, "0");
        x.passes();
        x.plays(5);
        x.takes(1, 4);
        value(x, 0, "t", 5);
        value(x, 0, "r", 3);
        value(x, 0, "h", 0);
        value(x, 1, "h", 1);
        // He takes SQUARES 0 and 1, too: the first ROW is no GOAL of player 2.
        Check.rule(x, "0");
        x.plays(10);
        x.takes(1, 0);
        x.takes(1, 1);
        value(x, 2, "t", 2);
        value(x, 2, "r", 1);
        value(x, 1, "t", 0);
        value(x, 1, "h", 3);
        x.leaves(1, 0);
        value(x, 1, "h", 2);
        value(x, 0, "f", 0);
        Check.rule(x, "1");
        x.plays(6);
        value(x, 0, "f", 2);
        value(x, 1, "f", 2);
        value(x, 2, "f", 2);
    }

    private static void value(HopCourts x, int player, String thing, int value) {
        Check.due(thing, Check.rule(x, "(" + thing + "=" + value + ")*2"), 0);
        Check.due(thing + " of " + player + " is " + value, x.player(player, 7), 12);
    }

    /** Terms 1: "n THROWS by 7 (rest)". */
    private static void throwsBySeven() {
        HopCourts x = Check.made("1", "45");
        for (int made = 0; made <= 22; made++) {
            value(x, 0, "n", made % 7);
            Check.rule(x, "1");
            x.throwsOne();
        }
        x.plays(60);
        value(x, 0, "n", 83 % 7);
        value(x, 0, "f", 83);
        Check.rule(x, "1");
        x.plays(60);
        value(x, 0, "f", 99);
    }
}
