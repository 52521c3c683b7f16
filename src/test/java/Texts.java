import java.util.Random;

/** Makes texts of both languages by draws: good ones, ones at the limits, ones with something wrong in them. */
final class Texts {
    private static final String[] LAW_WORDS = {"doer", "sign", "kind", "worth", "place", "date", "week", "mood"};
    private static final String[] ORDER_WORDS = {"day", "done", "latest", "even", "balance", "clock"};
    private static final String[] ANY = {"answers", "owes", "bars", "if", "do", "by", "at", "pay", "to", "wind", "pass",
        "times", "or", "and", "not", "(", ")", "[", "]", "<", ">", "=", "+", "-", "*", "/", "%", ";", "0", "7", "1000",
        "1001", "21", "doer", "day", "balance", "clock", "x", "A", "!", "\n", "\u00e9", "answer", "dos"};

    private final Random draw;
    private boolean orders;

    Texts(Random draw) {
        this.draw = draw;
    }

    String law() {
        orders = false;
        return finish(body(1 + draw.nextInt(draw.nextInt(8) == 0 ? 13 : 5)));
    }

    String orders() {
        orders = true;
        return finish(body(1 + draw.nextInt(draw.nextInt(8) == 0 ? 13 : 5)));
    }

    private String body(int clauses) {
        StringBuilder text = new StringBuilder();
        for (int i = 0; i < clauses; i++) {
            text.append(i == 0 ? "" : " ; ").append(orders ? order() : lawClause());
        }
        return text.toString();
    }

    /** Blanks come and go where they may, a token now and then is another one, the tape is 400 long. */
    private String finish(String text) {
        if (draw.nextInt(6) == 0) {
            text = spoil(text);
        }
        StringBuilder out = new StringBuilder();
        for (String token : text.trim().split(" +")) {
            boolean letters = out.length() > 0 && token.length() > 0
                && kind(out.charAt(out.length() - 1)) == kind(token.charAt(0)) && kind(token.charAt(0)) != 0;
            out.append(letters || draw.nextInt(4) == 0 ? " ".repeat(draw.nextInt(15) == 0 ? 3 : 1) : "").append(token);
        }
        if (draw.nextInt(10) == 0) {
            out.append(" ".repeat(1 + draw.nextInt(3)));
        }
        return out.length() > 400 ? out.substring(0, 400) : out.toString();
    }

    private static int kind(char c) {
        return c >= 'a' && c <= 'z' ? 1 : c >= '0' && c <= '9' ? 2 : 0;
    }

    private String spoil(String text) {
        String[] tokens = text.trim().split(" +");
        int at = draw.nextInt(tokens.length);
        switch (draw.nextInt(5)) {
            case 0:
                tokens[at] = "";
                break;
            case 1:
                tokens[at] = ANY[draw.nextInt(ANY.length)];
                break;
            case 2:
                tokens[at] = tokens[at] + " " + ANY[draw.nextInt(ANY.length)];
                break;
            case 3:
                return String.join(" ", java.util.Arrays.copyOf(tokens, at));
            default:
                tokens[at] = tokens[at] + tokens[at];
        }
        return String.join(" ", tokens);
    }

    private String lawClause() {
        int of = draw.nextInt(7);
        String head = of < 3 ? "answers " + who() : of < 5 ? "owes " + sum(2, 0) : "bars";
        return head + (of >= 5 || draw.nextInt(3) > 0 ? " if " + test(draw.nextInt(3), 0) : "");
    }

    private String who() {
        switch (draw.nextInt(4)) {
            case 0: return number(7);
            case 1: return "[ " + sum(1, 1) + " ] % " + number(8);
            case 2: return "[ doer + " + LAW_WORDS[draw.nextInt(8)] + " ] % " + number(7);
            default: return sum(2, 0);
        }
    }

    private String order() {
        String head;
        switch (draw.nextInt(4)) {
            case 0:
                head = "do " + small(5) + " by " + small(5) + " at " + small(4);
                break;
            case 1:
                head = "pay " + small(5) + " to " + small(5);
                break;
            case 2:
                head = "wind " + small(4);
                break;
            default:
                head = "pass";
        }
        String times = draw.nextInt(3) == 0 ? " times " + (draw.nextInt(20) == 0 ? number(30) : 1 + draw.nextInt(20)) : "";
        return head + times + (draw.nextInt(2) == 0 ? " if " + test(draw.nextInt(3), 0) : "");
    }

    private String small(int most) {
        return draw.nextInt(5) == 0 ? "[ " + sum(1, 1) + " ] % " + number(most + 1) : number(most);
    }

    private String number(int most) {
        return (draw.nextInt(20) == 0 ? "0" : "") + draw.nextInt(most);
    }

    String test(int size, int depth) {
        int of = draw.nextInt(size > 0 ? 7 : 2);
        String not = draw.nextInt(6) == 0 ? "not ".repeat(1 + draw.nextInt(3)) : "";
        switch (of) {
            case 2:
            case 3: return test(size - 1, depth) + " and " + test(size - 1, depth);
            case 4:
            case 5: return test(size - 1, depth) + " or " + test(size - 1, depth);
            case 6: return not + "( " + test(size - 1, depth + 1) + " )";
            default: return not + sum(size, depth) + " " + "<>=".charAt(draw.nextInt(3)) + " " + sum(1, depth);
        }
    }

    String sum(int size, int depth) {
        if (size <= 0 || draw.nextInt(3) == 0) {
            return part();
        }
        if (draw.nextInt(4) == 0) {
            return "[ " + sum(size - 1, depth + 1) + " ]";
        }
        return sum(size - 1, depth) + " " + "+-*/%".charAt(draw.nextInt(5)) + " " + sum(size - 1, depth);
    }

    private String part() {
        if (draw.nextInt(2) == 0) {
            return number(draw.nextInt(5) == 0 ? 1002 : 10);
        }
        if (!orders) {
            return LAW_WORDS[draw.nextInt(8)];
        }
        String word = ORDER_WORDS[draw.nextInt(6)];
        return word.equals("balance") ? word + " " + number(draw.nextInt(9) == 0 ? 7 : 6)
            : word.equals("clock") ? word + " " + number(draw.nextInt(9) == 0 ? 5 : 4) : word;
    }

    /** A text that stands at, or one beyond, one of the limits. */
    String edge(boolean ofOrders) {
        orders = ofOrders;
        String head = ofOrders ? "wind " : "owes ";
        int more = draw.nextInt(3) - 1;
        StringBuilder text = new StringBuilder();
        switch (draw.nextInt(4)) {
            case 0:
                text.append("1");
                for (int i = 1; i < 50 + more; i++) {
                    text.append("+-*".charAt(draw.nextInt(3))).append(draw.nextInt(4) == 0 ? ofOrders ? "clock 2" : "mood" : "2");
                }
                return cut(head + text);
            case 1:
                for (int i = 0; i < 12 + more; i++) {
                    text.append(i == 0 ? "" : ";").append(ofOrders ? "pass" : "bars");
                }
                return cut(text + (draw.nextInt(3) == 0 ? ";" : ""));
            case 2:
                text.append(ofOrders ? "pass if " : "bars if ");
                int tests = draw.nextInt(10);
                text.append("not(".repeat(tests));
                text.append("[".repeat(Math.max(0, 8 + more - tests))).append("1").append("]".repeat(Math.max(0, 8 + more - tests)));
                return cut(text + "=1" + ")".repeat(tests));
            default:
                text.append(ofOrders ? "pass if " : "bars if ").append("not ".repeat(80 + draw.nextInt(15)));
                return cut(text + "(1=" + draw.nextInt(2) + ")");
        }
    }

    private static String cut(String text) {
        return text.length() > 400 ? text.substring(0, 400) : text;
    }
}
