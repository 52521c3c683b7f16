import java.util.Set;
import java.util.function.Supplier;

/** The sentences of 'Terms' II that name a bound: the TAPE, TOKENS, FAULTS, what is BROKEN, LAWS and ORDERS. */
public final class BoundsOfTextsTest {
    private static final int NONE = AnswerDays.NONE;
    private static final String[] WORDS = ("doer sign kind worth place date week mood day done latest even balance clock "
        + "answers owes bars do pay wind pass by to at times if or and not").split(" ");
    private static final Set<String> OF_LAWS = Set.of("doer", "sign", "kind", "worth", "place", "date", "week", "mood");
    private static final Set<String> OF_ORDERS = Set.of("day", "done", "latest", "even");

    private static final Check C = new Check("BoundsOfTextsTest");
    private static final Twins T = new Twins(C);

    public static void main(String[] args) {
        tape400();
        tokens();
        everyByte();
        blanks();
        clauses12();
        grammar();
        everyWord();
        numbers1000();
        parts50();
        brackets8();
        faultAtTheEnd();
        beyondMilliard();
        wrapAround();
        dividedByZero();
        cutTowardsZero();
        brokenTests();
        askedOnlyIfItMatters();
        C.close();
    }

    private static void due(String call, long got, long want) {
        C.due(call, got, want);
    }

    /** A text as a law or as orders: its FAULT, and all that comes of that. */
    private static void faultAt(boolean asOrders, String text, int place) {
        AnswerDays x = new AnswerDays();
        String name = (asOrders ? "orders <" : "law <") + text + ">";
        int answer = asOrders ? Check.orders(x, text) : Check.law(x, text);
        due(name + ": its fault", x.fault(), place);
        due(name + ": is it refused by -6", answer == -6 ? 1 : 0, place == NONE ? 0 : 1);
        due(name + ": count(11)", x.count(11), place == NONE ? 0 : 1);
        due(name + ": the tape is empty then", x.count(6), 0);
        due(name + ": laws", x.count(4), place == NONE && !asOrders ? 1 : 0);
        if (place != NONE) {
            due(name + ": status()", x.status(), -6);
        }
    }

    private static void lawFault(String text, int place) {
        faultAt(false, text, place);
    }

    private static void ordersFault(String text, int place) {
        faultAt(true, text, place);
    }

    private static String many(String first, String next, int n) {
        return first + next.repeat(n - 1);
    }

    /** "TEXTS are on a TAPE of at most 400 bytes." */
    private static void tape400() {
        AnswerDays x = new AnswerDays();
        for (int i = 1; i <= 20; i++) {
            due("400 bytes", x.feed(0, 0, 0, 0, 0), 20 * i);
        }
        Supplier<AnswerDays> fullTape = () -> fed(20, 400);
        T.asked("400 bytes: twenty more", fullTape, y -> y.feed(1, 2, 3, 4, 5), NONE);
        T.asked("400 bytes: 381 and twenty", () -> fed(20, 381), y -> y.feed(1, 2, 3, 4, 5), NONE);
        T.asked("400 bytes: 399 and twenty", () -> fed(20, 399), y -> y.feed(1, 2, 3, 4, 5), NONE);
        due("400 bytes: 380 and twenty", fed(19, 380).feed(0, 0, 0, 0, 0), 400);
        due("400 bytes: 379 and twenty", fed(19, 379).feed(0, 0, 0, 0, 0), 399);
        lawFault("owes 12" + " ".repeat(391) + "+3", NONE);
        lawFault("owes 12" + " ".repeat(392) + "+", 400);
        lawFault("owes 12" + " ".repeat(392) + "!", 399);
        lawFault(" ".repeat(396) + "bars", NONE);
        lawFault(" ".repeat(400), 400);
        ordersFault(" ".repeat(396) + "pass", NONE);
        ordersFault(" ".repeat(400), 400);
        // The longest rows: one token of 400 bytes, 400 tokens of one byte.
        lawFault("a".repeat(400), 0);
        lawFault("0".repeat(400), 0);
        lawFault("owes " + "0".repeat(395), NONE);
        lawFault("owes " + "0".repeat(391) + "1000", NONE);
        lawFault("owes " + "9".repeat(395), 5);
        lawFault("[".repeat(400), 0);
        lawFault(";".repeat(400), 0);
        lawFault(";".repeat(399) + "1", 0);
        AnswerDays again = new AnswerDays();
        for (int i = 0; i < 3; i++) {
            due("400 tokens, text by text", Check.law(again, ";".repeat(400)), -6);
            due("400 tokens, text by text", again.fault(), 0);
            due("400 tokens, text by text", Check.law(again, "owes " + "9".repeat(395)), -6);
            due("400 tokens, text by text", again.fault(), 5);
        }
        lawFault("bars if" + "(".repeat(393), 15);
        lawFault("owes" + "[".repeat(396), 12);
        lawFault("bars if " + "not ".repeat(97) + "1=1", NONE);
        lawFault("bars if " + "not ".repeat(98), 400);
    }

    private static AnswerDays fed(int times, int bytes) {
        AnswerDays x = Lands.of(2, 2);
        for (int i = 0; i < times; i++) {
            x.feed(0, 0, 0, 0, 0);
        }
        x.end(bytes);
        return x;
    }

    /** "TOKENS: longest rows of letters a .. z, of digits, single other bytes, any blanks (32) between." */
    private static void tokens() {
        lawFault("answers0if1=1", NONE);
        lawFault("answers 0 if 1 = 1", NONE);
        lawFault("answers0if1=1andnot2<1", 13);
        lawFault("answers0if1=1and not2<1", NONE);
        lawFault("answers0if1=1 andnot 2<1", 14);
        lawFault("owes 1 2", 7);
        lawFault("owes 12", NONE);
        lawFault("ow es 1", 0);
        lawFault("owesdoer", 0);
        lawFault("owes doer1", 9);
        lawFault("owes 1doer", 6);
        lawFault("owes 1if1=1", NONE);
        lawFault("owes[[1]]", NONE);
        lawFault("bars if((1=1))", NONE);
        lawFault("bars if 1==1", 10);
        lawFault("bars if 1<=1", 10);
        lawFault("owes 1--1", 7);
        lawFault("owes-1", 4);
        lawFault("bars;;", 5);
        lawFault("Bars", 0);
        lawFault("bArs", 0);
        lawFault("bars if 1=1 OR 1=1", 12);
        ordersFault("wind clock3", NONE);
        ordersFault("wind clock 3", NONE);
        ordersFault("wind clock\0003", 10);
        ordersFault("pass times20if1=1", NONE);
        ordersFault("passtimes20", 0);
        ordersFault("do0by0at0", NONE);
        ordersFault("do0by 0at 0;pay0to1;wind[0]", NONE);
    }

    /** Each of the 256 bytes behind a clause, within a sum and within a test. */
    private static void everyByte() {
        for (int b = 0; b < 256; b++) {
            String sign = "" + (char) b;
            boolean letter = b >= 'a' && b <= 'z';
            boolean digit = b >= '0' && b <= '9';
            boolean joins = "+-*/%".indexOf(b) >= 0;
            boolean compares = "<>=".indexOf(b) >= 0;
            lawFault("bars" + sign, b == ' ' ? NONE : letter ? 0 : b == ';' ? 5 : 4);
            ordersFault("pass" + sign, b == ' ' ? NONE : letter ? 0 : b == ';' ? 5 : 4);
            lawFault("owes 1" + sign + "1", joins || digit ? NONE : b == ' ' || b == ';' ? 7 : 6);
            lawFault("bars if 1" + sign + "1", compares ? NONE : joins || digit ? 11 : b == ' ' ? 10 : 9);
            lawFault("bars if 1=1" + sign + "1=1", joins || digit ? 13 : b == ' ' || b == ';' ? 12 : 11);
            lawFault(sign, b == ' ' ? 1 : 0);
        }
    }

    /** "any blanks (32) between": as many as there is room for, ahead and behind, too. */
    private static void blanks() {
        lawFault("   owes   doer   +   1   if   1   <   2   ", NONE);
        ordersFault("   do   0   by   1   at   2   times   3   ;   pass   ", NONE);
        lawFault("   owes   doer   +   x", 21);
        lawFault("bars\t", 4);
        lawFault("bars\n;bars", 4);
        lawFault("bars\u00a0", 4);
        lawFault("\0bars", 0);
        for (int n : new int[] {1, 2, 20, 399, 400}) {
            lawFault(" ".repeat(n), n);
            ordersFault(" ".repeat(n), n);
        }
        lawFault("", 0);
        ordersFault("", 0);
    }

    /** "CLAUSE {";" CLAUSE}, 12 at most (FAULT at the 13th's first TOKEN)" */
    private static void clauses12() {
        lawFault(many("bars", ";bars", 12), NONE);
        lawFault(many("bars", ";bars", 13), 60);
        lawFault(many("bars", ";bars", 14), 60);
        lawFault(many("bars", ";bars", 12) + ";  bars", 62);
        lawFault(many("bars", ";bars", 12) + ";x", 60);
        lawFault(many("bars", ";bars", 12) + ";;", 60);
        lawFault(many("bars", ";bars", 12) + ";", 60);
        lawFault(many("bars", ";bars", 12) + ";  ", 62);
        lawFault(many("bars", ";bars", 11) + ";x;bars", 55);
        ordersFault(many("pass", ";pass", 12), NONE);
        ordersFault(many("pass", ";pass", 13), 60);
        ordersFault(many("pass", ";pass", 12) + " ;   pass", 64);
        ordersFault(many("pass", ";pass", 12) + ";", 60);
        AnswerDays x = new AnswerDays();
        due("12 clauses are run", Check.orders(x, many("pass", ";pass", 12)), 12);
        due("12 clauses are run", x.count(13), 12);
        due("13 clauses are not", Check.orders(x, many("pass", ";pass", 13)), -6);
        due("13 clauses are not", x.count(13), 12);
        AnswerDays y = Lands.of(1, 1, many("owes 1", ";owes 1", 11) + ";owes 12");
        due("the 12th clause is the last", y.asks(0, 0, 0, 0), 12);
    }

    /**
     * "FAULT: the first TOKEN that can't go on there": in a good text each token in turn is another one that can't go
     * on anywhere, and the text ends behind each one; it may where "|" stands.
     */
    private static void grammar() {
        everyToken(false, "answers doer | + sign | * kind | / worth | % place | - date | if week = mood | and not ( date < 3 or [ 1 ] > 2 ) | "
            + "or 1 = 1 | + 2 | ; owes 7 | ; bars | if not not 1 > 0 | ; bars | ; answers [ [ 1 ] * 2 ] | - 1 |");
        everyToken(true, "do day by done at latest | + 1 | times 20 | if even = balance 5 | and ( clock 3 < 1 or not 1 = 1 ) | ; pay [ clock 0 ] to 1 | % 2 | ; "
            + "wind [ 1 + 2 ] | * 3 | times 1 | ; pass | times 2 | if 1 < 2 | ; pass | ; wind 0 | if 1 = 1 |");
    }

    private static void everyToken(boolean asOrders, String marked) {
        String[] tokens = marked.split(" ");
        StringBuilder ahead = new StringBuilder();
        for (int i = 0; i < tokens.length; i++) {
            if (tokens[i].equals("|")) {
                faultAt(asOrders, ahead.toString(), NONE);
                continue;
            }
            boolean mayEnd = i > 0 && tokens[i - 1].equals("|");
            if (!mayEnd) {
                faultAt(asOrders, ahead.toString(), ahead.length());
            }
            for (String wrong : new String[] {"zz", "@", "]", ")", ":", "1001"}) {
                boolean fits = wrong.equals("]") && tokens[i].equals("]") || wrong.equals(")") && tokens[i].equals(")");
                boolean closes = (wrong.equals("]") || wrong.equals(")")) && within(ahead, wrong) && mayClose(ahead, wrong);
                if (!fits && !closes) {
                    faultAt(asOrders, ahead + wrong + " " + rest(tokens, i + 1), ahead.length());
                }
            }
            ahead.append(tokens[i]).append(' ');
        }
    }

    private static boolean within(CharSequence text, String closing) {
        long open = text.chars().filter(c -> c == (closing.equals("]") ? '[' : '(')).count();
        return open > text.chars().filter(c -> c == closing.charAt(0)).count();
    }

    /** Behind a part: a bracket that is open may be closed there. */
    private static boolean mayClose(CharSequence text, String closing) {
        String[] tokens = text.toString().trim().split(" ");
        String last = tokens[tokens.length - 1];
        return last.matches("[0-9]+|[\\])]") || OF_LAWS.contains(last) || OF_ORDERS.contains(last);
    }

    private static String rest(String[] tokens, int from) {
        StringBuilder rest = new StringBuilder();
        for (int i = from; i < tokens.length; i++) {
            rest.append(tokens[i].equals("|") ? "" : tokens[i] + " ");
        }
        return rest.toString();
    }

    /** Each word where a clause begins, where a part stands, behind a sum: it goes on just where it is told. */
    private static void everyWord() {
        for (String word : WORDS) {
            int end = word.length();
            boolean summed = word.equals("answers") || word.equals("owes");
            boolean ordered = word.equals("do") || word.equals("pay") || word.equals("wind");
            lawFault(word, word.equals("bars") ? NONE : summed ? end : 0);
            ordersFault(word, word.equals("pass") ? NONE : ordered ? end : 0);
            lawFault("owes " + word, OF_LAWS.contains(word) ? NONE : 5);
            boolean told = word.equals("balance") || word.equals("clock");
            ordersFault("wind " + word, OF_ORDERS.contains(word) ? NONE : told ? 5 + end : 5);
            ordersFault("wind " + word + " 3", OF_ORDERS.contains(word) ? 6 + end : told ? NONE : 5);
            lawFault("owes 1 " + word, word.equals("if") ? 7 + end : 7);
            ordersFault("wind 1 " + word, word.equals("if") || word.equals("times") ? 7 + end : 7);
            ordersFault("do 1 " + word, word.equals("by") ? 5 + end : 5);
            ordersFault("do 1 by 1 " + word, word.equals("at") ? 10 + end : 10);
            ordersFault("pay 1 " + word, word.equals("to") ? 6 + end : 6);
            ordersFault("pass times 2 " + word, word.equals("if") ? 13 + end : 13);
            lawFault("bars if 1 = 1 " + word, word.equals("and") || word.equals("or") ? 14 + end : 14);
            lawFault("bars if " + word, OF_LAWS.contains(word) || word.equals("not") ? 8 + end : 8);
            lawFault("owes 1 + " + word + "s", 9);
        }
    }

    /** "PART: NUMBER (to 1,000)" */
    private static void numbers1000() {
        for (int number : new int[] {0, 1, 999, 1000}) {
            lawFault("owes " + number, NONE);
            lawFault("bars if 1 = " + number, NONE);
        }
        for (String number : new String[] {"1001", "9999", "10000", "2147483648", "4294967297", "18446744073709551617"}) {
            lawFault("owes " + number, 5);
            lawFault("bars if 1 = " + number, 12);
            ordersFault("wind 1 + " + number, 9);
        }
        lawFault("owes 01000", NONE);
        lawFault("owes 01001", 5);
        AnswerDays x = Lands.of(1, 1, "owes 1000 / 11");
        due("a number of 1000", x.asks(0, 0, 0, 0), 90);
        AnswerDays y = Lands.of(1, 1, "owes 0");
        due("a number of 0", y.asks(0, 0, 0, 0), 0);
    }

    /** "50 PARTS that are NUMBERS and words (FAULT at the 51st)" */
    private static void parts50() {
        lawFault(many("owes 1", "+1", 50), NONE);
        lawFault(many("owes 1", "+1", 51), 105);
        lawFault(many("owes doer", "+doer", 50), NONE);
        lawFault(many("owes doer", "+doer", 51), 5 + 50 * 5);
        lawFault(many("owes doer", "+1", 51) + "+x", 8 + 50 * 2);
        lawFault(many("owes 1", "+1", 50) + " if 1=1", 108);
        lawFault(many("owes 1", "+1", 48) + " if 1=1", NONE);
        lawFault(many("owes 1", "+1", 49) + " if 1=1", 108);
        lawFault(many("owes 1;owes 1", ";owes 1", 11), NONE);
        lawFault(many("bars if 1", "+1", 49) + "=1", NONE);
        lawFault(many("bars if 1", "+1", 50) + "=1", 8 + 50 * 2);
        lawFault(many("bars if 1", "+1", 51) + "=1", 8 + 50 * 2);
        // Where the 51st would stand, what is no part can't go on either.
        lawFault(many("owes 1", "+1", 50) + "+", 105);
        lawFault(many("owes 1", "+1", 50) + "+;bars", 105);
        lawFault(many("owes 1", "+1", 50) + "+if 1=1", 105);
        lawFault(many("owes 1", "+1", 50) + "++1", 105);
        lawFault(many("owes 1", "+1", 50) + "+[1]", 106);
        lawFault(many("owes 1", "+1", 50) + ";owes", 109);
        lawFault(many("owes 1", "+1", 50) + ";owes;bars", 109);
        lawFault(many("owes 1", "+1", 50) + " if", 107);
        lawFault(many("owes 1", "+1", 50) + " if;bars", 107);
        lawFault(many("bars if 1", "+1", 50) + "=;bars", 108);
        lawFault(many("bars if 1", "+1", 49) + "=1 and;bars", 8 + 97 + 2 + 4);
        ordersFault(many("wind 1", "+1", 50) + "+times 2", 105);
        ordersFault(many("wind 1", "+1", 50) + ";wind;pass", 109);
        ordersFault(many("do 1", "+1", 50) + "by at 1", 3 + 99 + 3);
        // Of all clauses together.
        lawFault(many("owes 1", "+1", 49) + ";owes 1", NONE);
        lawFault(many("owes 1", "+1", 50) + ";bars", NONE);
        lawFault(many("owes 1", "+1", 50) + ";owes 1", 104 + 6);
        // Brackets are no such parts; the 51st is one within a bracket, too.
        lawFault("owes " + many("[1]", "+[1]", 50), NONE);
        lawFault("owes " + many("[1]", "+[1]", 51), 5 + 50 * 4 + 1);
        // A second text begins anew.
        AnswerDays x = new AnswerDays();
        due("50 parts, then 50 more", Check.law(x, many("owes 1", "+1", 50)), 0);
        due("50 parts, then 50 more", Check.law(x, many("owes 1", "+1", 50)), 1);
        due("51 parts, then 50 more", Check.law(x, many("owes 1", "+1", 51)), -6);
        due("51 parts, then 50 more", Check.law(x, many("owes 1", "+1", 50)), 2);
        AnswerDays y = new AnswerDays();
        for (int day = 0; day < 20; day++) {
            due("50 parts, text by text", Check.orders(y, many("wind 1", "+1-1", 24) + ";pass if day=" + day), 2);
        }
        // "P, Q, TIMES aside, NUMBERS and words count as PARTS."
        ordersFault(many("wind day", "+day", 50), NONE);
        ordersFault(many("wind day", "+day", 51), 5 + 50 * 4);
        ordersFault(many("wind clock0", "+clock0", 50), NONE);
        ordersFault(many("wind clock0", "+clock0", 51), 5 + 50 * 7);
        ordersFault(many("wind clock9", "+clock0", 50), 10);
        ordersFault(many("wind 1", "+1", 49) + "+balance5", NONE);
        ordersFault(many("wind 1", "+1", 50) + "+balance5", 105);
        ordersFault(many("wind 1", "+1", 50) + "times20", NONE);
        ordersFault(many("wind 1", "+1", 50) + "times20if1=1", 5 + 99 + 9);
        ordersFault(many("wind 1", "+1", 47) + "times 9;do 1 by 1 at 1 times 9", NONE);
        ordersFault(many("wind 1", "+1", 48) + "times 9;do 1 by 1 at 1 times 9", 5 + 95 + 7 + 1 + 13);
    }

    /** "8 brackets of both kinds within one another (FAULT at the 9th) at most" */
    private static void brackets8() {
        for (int square = 0; square <= 9; square++) {
            String open = "[".repeat(square);
            String shut = "]".repeat(square);
            lawFault("owes " + open + "1" + shut, square <= 8 ? NONE : 13);
            ordersFault("wind " + open + "1" + shut, square <= 8 ? NONE : 13);
            for (int round = 0; round <= 9; round++) {
                String text = "bars if " + "(".repeat(round) + open + "1" + shut + "=1" + ")".repeat(round);
                lawFault(text, round + square <= 8 ? NONE : 16);
                String other = "bars if " + "(".repeat(round) + "1=" + open + "1" + shut + ")".repeat(round);
                lawFault(other, round + square <= 8 ? NONE : round > 8 ? 16 : 18);
            }
        }
        // Side by side there may be more.
        lawFault("owes " + many("[[[[[[[[1]]]]]]]]", "+[[[[[[[[1]]]]]]]]", 3), NONE);
        lawFault("bars if " + many("((((((((1=1))))))))", "or((((((((1=1))))))))", 3), NONE);
        lawFault("bars if (((((((([1]=1))))))))", 16);
        // As many numbers as can be waiting for one another.
        String deep = "1+2*[".repeat(8) + "1+2*3" + "]".repeat(8);
        AnswerDays x = Lands.of(1, 1, "owes 0;owes 5 if 1000+25+" + 2 * 256 + "=" + deep);
        // 7, then 1 + 2 * that eight times: 256 * 7 + 255.
        due("the deepest sum", x.asks(0, 0, 0, 0), 0);
        AnswerDays y = Lands.of(1, 1, "owes 0;owes 5 if 1000+1000+47=" + deep);
        due("the deepest sum", y.asks(0, 0, 0, 0), 5);
        String tests = "1=2 or 1=1 and(".repeat(8) + "1+2*3=7" + ")".repeat(8);
        due("the deepest test", Lands.of(1, 1, "bars if " + tests).asks(0, 0, 0, 1), 1);
    }

    /** "(the end's: the TEXT's length)" */
    private static void faultAtTheEnd() {
        lawFault("owes", 4);
        lawFault("owes ", 5);
        lawFault("owes 1 +", 8);
        lawFault("owes 1 +   ", 11);
        lawFault("bars if 1 =", 11);
        lawFault("bars if (1 = 1", 14);
        lawFault("owes [1", 7);
        lawFault("bars;", 5);
        ordersFault("do 0 by 0", 9);
        ordersFault("pass times", 10);
        ordersFault("wind clock ", 11);
        AnswerDays x = new AnswerDays();
        Check.put(x, Check.bytesOf("owes 12 + 34"));
        x.end(9);
        due("what was cut off is not the text's", x.law(), -6);
        due("what was cut off is not the text's", x.fault(), 9);
    }

    /** What a sum is told to be: what asks() tells of a law that owes it, 77 if it is BROKEN. */
    private static void owes(String sum, int want) {
        AnswerDays x = Lands.of(2, 2, "owes 77;owes " + sum);
        due("a good law: owes " + sum, x.fault(), NONE);
        due("owes " + sum, x.asks(1, 1, 2, 0), want);
    }

    /** Whether a test is so (1), is not so (0), is BROKEN (NONE). */
    private static void test(String test, int want) {
        AnswerDays x = Lands.of(2, 2, "owes 77;owes 1 if " + test + ";owes 0 if not(" + test + ")");
        int owed = x.asks(1, 1, 2, 0);
        due("a good law: if " + test, x.fault(), NONE);
        due("a test: " + test, owed == 77 ? NONE : owed, want);
        AnswerDays y = Lands.of(1, 0);
        due("a test of orders: " + test, Check.orders(y, "pass if " + test), want == 1 ? 1 : 0);
    }

    private static final String MILLIARD = "1000 * 1000 * 1000";

    /** "Beyond 1,000,000,000 either way ... a SUM, a TEST is BROKEN" */
    private static void beyondMilliard() {
        test(MILLIARD + " > 0", 1);
        test("0 - " + MILLIARD + " < 0", 1);
        test(MILLIARD + " + 1 > 0", NONE);
        test("1 + " + MILLIARD + " > 0", NONE);
        test("0 - " + MILLIARD + " - 1 < 0", NONE);
        test("[0 - 1] * " + MILLIARD + " < 0", 1);
        test("[0 - 1000 - 1] * 1000 * 1000 < 0", NONE);
        test("1000 * 1000 * [1000 + 1] > 0", NONE);
        test("1000 * 1000 * 999 + 1000 * 1000 - " + MILLIARD + " = 0", 1);
        test("1000 * 1000 * 999 + 1000 * 1000 + 1 > 0", NONE);
        test("1 < " + MILLIARD + " + 1", NONE);
        test("[" + MILLIARD + "] / 1 > 0", 1);
        test("0 * [" + MILLIARD + " + 1] = 0", NONE);
        test(MILLIARD + " + 1 - 1 = 0", NONE);
        test(MILLIARD + " - 1 + 1 > 0", 1);
        test("999 * 999 * 1000 + 999 * 1000 + 999 * 1000 + 1000 > 0", 1);
        owes(MILLIARD, 99);
        owes("0 - " + MILLIARD, 0);
        owes(MILLIARD + " + 1", 77);
        owes("0 - " + MILLIARD + " - 1", 77);
        owes(MILLIARD + " - " + MILLIARD + " + 3", 3);
        owes(MILLIARD + " * 0 + 3", 3);
        owes(MILLIARD + " * 2 / 2 / 1000 / 1000 / 100", 77);
    }

    /** What is beyond by far is not near again. */
    private static void wrapAround() {
        owes("256 * 256 * 256 * 256", 77);
        owes("256 * 256 * [256 * 256] + 3", 77);
        owes("[" + MILLIARD + "] * [" + MILLIARD + "]", 77);
        owes("[" + MILLIARD + "] * [" + MILLIARD + "] * [" + MILLIARD + "]", 77);
        owes("[0 - " + MILLIARD + "] * [" + MILLIARD + "]", 77);
        owes("512 * 512 * 512 * 32 + 3", 77);
        owes("512 * 512 * 1000 * 16 + 3", 77);
        test("256 * 256 * 256 * 256 = 0", NONE);
        test("[" + MILLIARD + "] * 5 < 0", NONE);
    }

    /** "or divided by 0 ... a SUM, a TEST is BROKEN" */
    private static void dividedByZero() {
        for (String op : new String[] {"/", "%"}) {
            owes("7 " + op + " 0", 77);
            owes("0 " + op + " 0", 77);
            owes("7 " + op + " [3 - 3]", 77);
            owes("3 + 7 " + op + " mood", 77);
            owes("0 * [7 " + op + " 0]", 77);
            owes("7 " + op + " 1 * 0 + 3", 3);
            test("7 " + op + " 0 = 0", NONE);
            test("0 = 7 " + op + " 0", NONE);
            test("7 " + op + " 0 < 7 " + op + " 0", NONE);
            test("not 7 " + op + " 0 = 0", NONE);
            AnswerDays x = Lands.of(2, 1);
            due("an order's sum is broken", Check.orders(x, "pass;wind 3 " + op + " clock 0"), -3);
            due("an order's sum is broken", x.stopped(), 1);
            due("an order's test is broken", Check.orders(x, "pass if 3 " + op + " day = 0;wind 3"), 1);
        }
    }

    /** "(/ cut towards 0, % what is left then)" */
    private static void cutTowardsZero() {
        test("7 / 2 = 3", 1);
        test("[0 - 7] / 2 = 0 - 3", 1);
        test("7 / [0 - 2] = 0 - 3", 1);
        test("[0 - 7] / [0 - 2] = 3", 1);
        test("7 % 2 = 1", 1);
        test("[0 - 7] % 2 = 0 - 1", 1);
        test("7 % [0 - 2] = 1", 1);
        test("[0 - 7] % [0 - 2] = 0 - 1", 1);
        test("6 % 7 = 6", 1);
        test("7 % 7 = 0", 1);
        test("[0 - 6] / 7 = 0", 1);
        test("1 / 1000 = 0", 1);
        test("1000 / 1000 = 1", 1);
        test("[" + MILLIARD + "] / [0 - 1] = 0 - " + MILLIARD, 1);
        test("[0 - " + MILLIARD + "] / [0 - 1] = " + MILLIARD, 1);
        test("[0 - " + MILLIARD + "] % [0 - 1] = 0", 1);
    }

    /** "a TEST is BROKEN": on either side, within brackets, behind "not". */
    private static void brokenTests() {
        test("1 / 0 = 1 and 1 = 1", NONE);
        test("1 = 1 and 1 / 0 = 1", NONE);
        test("1 / 0 = 1 or 1 = 1", NONE);
        test("1 = 2 or 1 / 0 = 1", NONE);
        test("not not 1 / 0 = 1", NONE);
        test("((1 / 0 = 1))", NONE);
        test("(1 / 0 = 1) or 1 = 1", NONE);
        test("1 / 0 = 1 and 1 = 2", NONE);
        test("1 / 0 = 1 and 1 = 2 or 1 = 1", NONE);
        test("1 = 1 or 1 = 1", 1);
        test("1 = 2 or 1 = 2", 0);
    }

    /** "("or", "and" ask what stands behind only if it can still matter)" */
    private static void askedOnlyIfItMatters() {
        test("1 = 1 or 1 / 0 = 1", 1);
        test("1 = 2 and 1 / 0 = 1", 0);
        test("1 = 1 or 1 / 0 = 1 or 1 / 0 = 1", 1);
        test("1 = 2 and 1 / 0 = 1 and 1 / 0 = 1", 0);
        test("1 = 2 or 1 = 1 or 1 / 0 = 1", 1);
        test("1 = 1 and 1 = 2 and 1 / 0 = 1", 0);
        test("1 = 1 or 1 / 0 = 1 and 1 / 0 = 1", 1);
        test("1 = 2 and 1 / 0 = 1 or 1 = 1", 1);
        test("1 = 2 and 1 / 0 = 1 or 1 = 2", 0);
        test("1 = 2 and 1 / 0 = 1 or 1 / 0 = 1", NONE);
        test("1 = 1 and 1 = 1 or 1 / 0 = 1", 1);
        test("(1 = 1 or 1 / 0 = 1) and 1 = 1", 1);
        test("not (1 = 1 or 1 / 0 = 1)", 0);
        test("not (1 = 2 and 1 / 0 = 1)", 1);
        test("1 = 1 or not (1 / 0 = 1)", 1);
        test("1 = 2 and (1 / 0 = 1 or 1 = 1)", 0);
        test("1 = 2 and 1 = 1 or 1 = 1 and 1 = 1", 1);
        test("not 1 = 2 or 1 / 0 = 1", 1);
        test("not 1 = 1 and 1 / 0 = 1", 0);
    }
}
