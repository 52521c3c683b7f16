import java.math.BigInteger;
import java.util.ArrayDeque;
import java.util.ArrayList;
import java.util.Arrays;
import java.util.Deque;
import java.util.List;

/**
 * The document once more, as slow and as plain as can be and written apart from the class: texts are trees,
 * what is BROKEN is an exception, plans, walks and heaps are tried out one by one, images are copies.
 * RandomRunsTest lets it answer the same calls as AnswerDays.
 */
final class Oracle {
    static final int NONE = -1;
    static final int NOTHING = -10000;

    /** A SUM or a TEST is BROKEN. */
    private static final class Broken extends Exception {
        private static final long serialVersionUID = 1;
    }

    /** A FAULT in a text. */
    private static final class Fault extends Exception {
        private static final long serialVersionUID = 1;
        final int place;

        Fault(int place) {
            this.place = place;
        }
    }

    private interface Words {
        long value(String word, int which);
    }

    private interface Tree {
        long value(Words words) throws Broken;
    }

    private record Clause(String head, List<Tree> sums, int times, Tree test) { }

    private record Token(String text, int place) { }

    private record Deed(int kind, int worth) { }

    private record Sight(int day, int deed, int place, int who) { }

    private record Undo(int kind, int[] balances, int[] clocks, int day) { }

    private static final class State {
        List<Integer> signs = new ArrayList<>();
        int[] balances = new int[6];
        int[] clocks = new int[4];
        boolean[][] roads = new boolean[4][4];
        List<Deed> deeds = new ArrayList<>();
        List<Sight> sights = new ArrayList<>();
        int[] terms = {0, 1, 0};
        List<List<Clause>> laws = new ArrayList<>();
        int force = NONE;

        State copy() {
            State s = new State();
            s.signs = new ArrayList<>(signs);
            s.balances = balances.clone();
            s.clocks = clocks.clone();
            for (int i = 0; i < 4; i++) {
                s.roads[i] = roads[i].clone();
            }
            s.deeds = new ArrayList<>(deeds);
            s.sights = new ArrayList<>(sights);
            s.terms = terms.clone();
            s.laws = new ArrayList<>(laws);
            s.force = force;
            return s;
        }
    }

    private State s = new State();
    private Deque<Undo> undos = new ArrayDeque<>();
    private final State[] images = new State[2];
    private List<Integer> tape = new ArrayList<>();
    private final int[] refused = new int[7];
    private int status;
    private int fault = NONE;
    private int blots;
    private int stopped = NONE;
    private int[] drawn = {};

    private int no(int by) {
        status = by;
        refused[-by]++;
        return by;
    }

    private int yes(int answer) {
        status = 0;
        return answer;
    }

    private boolean isPerson(long p) {
        return p >= 0 && p < s.signs.size();
    }

    private boolean isDeed(long d) {
        return d >= 0 && d < s.deeds.size();
    }

    private static boolean in(long v, long least, long most) {
        return v >= least && v <= most;
    }

    int person(int sign) {
        if (!in(sign, 0, 9)) {
            return no(-1);
        }
        if (s.signs.size() == 6) {
            return no(-5);
        }
        s.signs.add(sign);
        undos.clear();
        return yes(s.signs.size() - 1);
    }

    int of(int p, int what) {
        return !isPerson(p) ? NOTHING : what == 0 ? s.signs.get(p) : what == 1 ? s.balances[p] : NOTHING;
    }

    int deed(int kind, int worth) {
        if (!in(kind, 0, 3) || !in(worth, 1, 9)) {
            return no(-1);
        }
        if (s.deeds.size() == 6) {
            return no(-5);
        }
        s.deeds.add(new Deed(kind, worth));
        return yes(s.deeds.size() - 1);
    }

    int at(int d, int what) {
        return !isDeed(d) ? NONE : what == 0 ? s.deeds.get(d).kind : what == 1 ? s.deeds.get(d).worth : NONE;
    }

    int place(int p, int what) {
        if (!in(p, 0, 3)) {
            return NONE;
        }
        if (what == 0) {
            return s.clocks[p];
        }
        if (what == 1) {
            return s.terms[0] + s.clocks[p];
        }
        if (what == 2) {
            int bits = 0;
            for (int o = 0; o < 4; o++) {
                bits += s.roads[p][o] ? 1 << o : 0;
            }
            return bits;
        }
        return NONE;
    }

    int road(int one, int other, int is) {
        if (!in(one, 0, 3) || !in(other, 0, 3) || one == other || !in(is, 0, 1)) {
            return no(-1);
        }
        int was = s.roads[one][other] ? 1 : 0;
        s.roads[one][other] = is == 1;
        s.roads[other][one] = is == 1;
        return yes(was);
    }

    int asks(int d, int p, int place, int what) {
        if (!isDeed(d) || !isPerson(p) || !in(place, 0, 3) || !in(what, 0, 1)) {
            return NONE;
        }
        Words words = lawWords(s, d, p, place, s.terms[0] + s.clocks[place]);
        return what == 0 ? owes(s, force(s), d, words) : barred(force(s), words) ? 1 : 0;
    }

    int terms(int what, int value) {
        if (!in(what, 0, 2) || !in(value, 0, what == 0 ? 999 : what == 1 ? 10 : 9)) {
            return no(-1);
        }
        int was = s.terms[what];
        s.terms[what] = value;
        undos.clear();
        return yes(was);
    }

    int feed(int a, int b, int c, int d, int e) {
        if (tape.size() > 380) {
            return NONE;
        }
        for (int v : new int[] {a, b, c, d, e}) {
            tape.add(v >>> 24);
            tape.add(v >>> 16 & 255);
            tape.add(v >>> 8 & 255);
            tape.add(v & 255);
        }
        return tape.size();
    }

    int end(int n) {
        if (n < 0 || n > tape.size()) {
            return NONE;
        }
        tape = new ArrayList<>(tape.subList(0, n));
        return n;
    }

    int row() {
        if (tape.isEmpty()) {
            return no(-6);
        }
        blots = 0;
        int came = 0;
        while (!tape.isEmpty()) {
            int kind = tape.remove(0);
            if (tape.isEmpty()) {
                blots++;
                break;
            }
            int worth = tape.remove(0);
            if (kind > 3 || worth < 1 || worth > 9 || s.deeds.size() == 6) {
                blots++;
            } else {
                s.deeds.add(new Deed(kind, worth));
                came++;
            }
        }
        return yes(came);
    }

    int blots() {
        return blots;
    }

    int law() {
        StringBuilder text = takeTape();
        if (s.laws.size() == 6) {
            return no(-5);
        }
        try {
            s.laws.add(new Parser(text.toString(), false).text());
            fault = NONE;
            return yes(s.laws.size() - 1);
        } catch (Fault f) {
            fault = f.place;
            return no(-6);
        }
    }

    private StringBuilder takeTape() {
        StringBuilder text = new StringBuilder();
        for (int b : tape) {
            text.append((char) b);
        }
        tape.clear();
        return text;
    }

    int orders() {
        StringBuilder text = takeTape();
        stopped = NONE;
        List<Clause> clauses;
        try {
            clauses = new Parser(text.toString(), true).text();
            fault = NONE;
        } catch (Fault f) {
            fault = f.place;
            return no(-6);
        }
        State before = s.copy();
        Deque<Undo> undosBefore = new ArrayDeque<>(undos);
        int[] run = {0, -1};
        for (int c = 0; c < clauses.size(); c++) {
            for (int t = 0; t < clauses.get(c).times; t++) {
                if (!runOne(clauses.get(c), run)) {
                    s = before;
                    undos = undosBefore;
                    stopped = c;
                    return no(-3);
                }
            }
        }
        return yes(run[0]);
    }

    private boolean runOne(Clause clause, int[] run) {
        Words words = (word, which) -> {
            switch (word) {
                case "day": return s.terms[0];
                case "done": return run[0];
                case "latest": return run[1];
                case "even": return evens();
                case "balance": return isPerson(which) ? s.balances[which] : -1;
                case "clock": return s.clocks[which];
                default: throw new IllegalStateException(word);
            }
        };
        try {
            if (clause.test != null && clause.test.value(words) == 0) {
                return true;
            }
        } catch (Broken b) {
            return true;
        }
        int[] v = new int[3];
        try {
            for (int i = 0; i < clause.sums.size(); i++) {
                v[i] = (int) clause.sums.get(i).value(words);
            }
        } catch (Broken b) {
            return false;
        }
        int answer;
        switch (clause.head) {
            case "do":
                answer = tryCommit(s, v[0], v[1], v[2], undos);
                run[1] = answer;
                break;
            case "pay":
                answer = tryPay(v[0], v[1], 1);
                break;
            case "wind":
                answer = in(v[0], 0, 3) ? tryWind(v[0], s.clocks[v[0]] == 6 ? 0 : s.clocks[v[0]] + 1) : -1;
                break;
            default:
                answer = tryPass();
        }
        run[0]++;
        return answer >= 0;
    }

    private int evens() {
        int n = 0;
        for (int p = 0; p < s.signs.size(); p++) {
            n += s.balances[p] == 0 ? 1 : 0;
        }
        return n;
    }

    int fault() {
        return fault;
    }

    int stopped() {
        return stopped;
    }

    int force(int law) {
        if (law < -1 || law >= s.laws.size()) {
            return no(-2);
        }
        int was = s.force;
        s.force = law;
        return yes(was);
    }

    private void remember(Deque<Undo> into, State of, int kind) {
        into.push(new Undo(kind, of.balances.clone(), of.clocks.clone(), of.terms[0]));
        if (into.size() > 16) {
            into.removeLast();
        }
    }

    private int tryCommit(State on, int d, int p, int place, Deque<Undo> into) {
        if (!in(place, 0, 3)) {
            return -1;
        }
        if (!isDeed(d) || !isPerson(p)) {
            return -2;
        }
        Words words = lawWords(on, d, p, place, on.terms[0] + on.clocks[place]);
        if (barred(force(on), words)) {
            return -3;
        }
        int who = answerer(on, force(on), p, words);
        int owes = owes(on, force(on), d, words);
        int[] then = on.balances.clone();
        if (who != 6 && who != p) {
            then[who] -= owes;
            then[p] += owes;
            if (then[who] < -9999 || then[p] > 9999) {
                return -3;
            }
        }
        remember(into, on, 0);
        on.balances = then;
        return who;
    }

    private int tryPay(int one, int other, int n) {
        if (!in(n, 1, 99) || one == other) {
            return -1;
        }
        if (!isPerson(one) || !isPerson(other)) {
            return -2;
        }
        if (s.balances[one] + n > 9999 || s.balances[other] - n < -9999) {
            return -3;
        }
        remember(undos, s, 1);
        s.balances[one] += n;
        s.balances[other] -= n;
        return s.balances[one] + 9999;
    }

    private int tryWind(int place, int clock) {
        if (!in(place, 0, 3) || !in(clock, 0, 6)) {
            return -1;
        }
        if (s.clocks[place] == clock) {
            return -3;
        }
        remember(undos, s, 2);
        int was = s.clocks[place];
        s.clocks[place] = clock;
        return was;
    }

    private int tryPass() {
        if (s.terms[0] == 999) {
            return -3;
        }
        remember(undos, s, 3);
        return ++s.terms[0];
    }

    private int told(int answer) {
        return answer < 0 ? no(answer) : yes(answer);
    }

    int commit(int d, int p, int place) {
        return told(tryCommit(s, d, p, place, undos));
    }

    int pay(int one, int other, int n) {
        return told(tryPay(one, other, n));
    }

    int wind(int place, int clock) {
        return told(tryWind(place, clock));
    }

    int pass() {
        return told(tryPass());
    }

    int undo() {
        if (undos.isEmpty()) {
            return no(-3);
        }
        Undo u = undos.pop();
        s.balances = u.balances.clone();
        s.clocks = u.clocks.clone();
        s.terms[0] = u.day;
        return yes(u.kind);
    }

    private List<Clause> force(State on) {
        return on.force == NONE ? List.of() : on.laws.get(on.force);
    }

    private static Words lawWords(State on, int d, int p, int place, int date) {
        return (word, which) -> {
            switch (word) {
                case "doer": return p;
                case "sign": return on.signs.get(p);
                case "kind": return on.deeds.get(d).kind;
                case "worth": return on.deeds.get(d).worth;
                case "place": return place;
                case "date": return date;
                case "week": return date % 7;
                case "mood": return on.terms[2];
                default: throw new IllegalStateException(word);
            }
        };
    }

    private static boolean holds(Clause c, Words words) {
        try {
            if (c.test != null && c.test.value(words) == 0) {
                return false;
            }
            for (Tree sum : c.sums) {
                sum.value(words);
            }
            return true;
        } catch (Broken b) {
            return false;
        }
    }

    private static Long last(List<Clause> law, String head, Words words) {
        for (int i = law.size() - 1; i >= 0; i--) {
            if (law.get(i).head.equals(head) && holds(law.get(i), words)) {
                try {
                    return law.get(i).sums.isEmpty() ? Long.valueOf(1) : Long.valueOf(law.get(i).sums.get(0).value(words));
                } catch (Broken b) {
                    throw new IllegalStateException(b);
                }
            }
        }
        return null;
    }

    private static boolean barred(List<Clause> law, Words words) {
        return last(law, "bars", words) != null;
    }

    private static int answerer(State on, List<Clause> law, int doer, Words words) {
        Long told = last(law, "answers", words);
        return told == null ? doer : in(told, 0, on.signs.size() - 1) ? told.intValue() : 6;
    }

    private static int owes(State on, List<Clause> law, int d, Words words) {
        Long told = last(law, "owes", words);
        return told == null ? on.deeds.get(d).worth : (int) Math.max(0, Math.min(99, told));
    }

    private int whoBy(List<Clause> law, int d, int p, int place, int date) {
        Words words = lawWords(s, d, p, place, date);
        return barred(law, words) ? 7 : answerer(s, law, p, words);
    }

    private int whoOn(int d, int p, int place, int n) {
        return whoBy(force(s), d, p, place, s.terms[0] + s.clocks[place] + n);
    }

    private boolean isQuestion(int d, int p, int place) {
        return isDeed(d) && isPerson(p) && in(place, 0, 3);
    }

    int who(int d, int p, int place, int n) {
        return isQuestion(d, p, place) && in(n, 0, 99) ? whoOn(d, p, place, n) : NONE;
    }

    int first(int d, int p, int place, int who) {
        if (isQuestion(d, p, place) && in(who, 0, 7)) {
            for (int n = 0; n <= 60; n++) {
                if (whoOn(d, p, place, n) == who) {
                    return n;
                }
            }
        }
        return NONE;
    }

    int period(int d, int p, int place) {
        if (!isQuestion(d, p, place)) {
            return NONE;
        }
        StringBuilder row = new StringBuilder();
        for (int n = 0; n <= 119; n++) {
            row.append(whoOn(d, p, place, n));
        }
        for (int i = 1; i <= 60; i++) {
            if (row.substring(i).equals(row.substring(0, 120 - i))) {
                return i;
            }
        }
        return NONE;
    }

    int loopholes(int place, int n, int i) {
        if (!in(place, 0, 3) || !in(n, 0, 99)) {
            return NONE;
        }
        List<Integer> all = new ArrayList<>();
        for (int d = 0; d < s.deeds.size(); d++) {
            for (int p = 0; p < s.signs.size(); p++) {
                if (whoOn(d, p, place, n) == 6) {
                    all.add(10 * d + p);
                }
            }
        }
        return i == NONE ? all.size() : in(i, 0, all.size() - 1) ? all.get(i) : NONE;
    }

    int plan(int p, int place, int not, int what) {
        if (!isPerson(p) || !in(place, 0, 3) || !isPerson(not) || !in(what, 0, s.deeds.size())) {
            return NONE;
        }
        boolean[][] open = new boolean[s.deeds.size()][10];
        for (int d = 0; d < s.deeds.size(); d++) {
            for (int n = 0; n < 10; n++) {
                int who = whoOn(d, p, place, n);
                open[d][n] = who != not && who != 7;
            }
        }
        int[][] best = {null};
        tryPlans(open, new int[s.deeds.size()], 0, best);
        if (best[0] == null) {
            return NONE;
        }
        return what == 0 ? lastOf(best[0]) : best[0][what - 1];
    }

    private static int lastOf(int[] plan) {
        return Arrays.stream(plan).max().orElse(0);
    }

    /** All plans in the order of their rows: a later one only wins if its last day is less. */
    private static void tryPlans(boolean[][] open, int[] row, int d, int[][] best) {
        if (d == row.length) {
            if (best[0] == null || lastOf(row) < lastOf(best[0])) {
                best[0] = row.clone();
            }
            return;
        }
        for (int n = 0; n < 10; n++) {
            boolean free = open[d][n];
            for (int e = 0; e < d; e++) {
                free &= row[e] != n;
            }
            if (free && (best[0] == null || n < lastOf(best[0]))) {
                row[d] = n;
                tryPlans(open, row, d + 1, best);
            }
        }
    }

    int walk(int d, int p, int from, int n, int what) {
        if (!isQuestion(d, p, from) || !in(n, 1, 20) || !in(what, 0, n)) {
            return NONE;
        }
        // Of each place the best row that ends there; "04" is 4 days that bind, then the places.
        String[] best = new String[4];
        best[from] = bind(d, p, from, 0, "00") + from;
        for (int day = 1; day < n; day++) {
            String[] next = new String[4];
            for (int a = 0; a < 4; a++) {
                for (int b = 0; b < 4; b++) {
                    if (best[a] != null && (a == b || s.roads[a][b])) {
                        String row = bind(d, p, b, day, best[a].substring(0, 2)) + best[a].substring(2) + b;
                        if (next[b] == null || row.compareTo(next[b]) < 0) {
                            next[b] = row;
                        }
                    }
                }
            }
            best = next;
        }
        String first = null;
        for (String row : best) {
            first = first == null || row != null && row.compareTo(first) < 0 ? row : first;
        }
        return what == 0 ? Integer.parseInt(first.substring(0, 2)) : first.charAt(1 + what) - '0';
    }

    private String bind(int d, int p, int place, int day, String so) {
        return String.format("%02d", Integer.parseInt(so) + (whoOn(d, p, place, day) == p ? 1 : 0));
    }

    int quits() {
        List<Integer> open = new ArrayList<>();
        for (int p = 0; p < s.signs.size(); p++) {
            if (s.balances[p] != 0) {
                open.add(s.balances[p]);
            }
        }
        return open.size() - heaps(open, new ArrayList<>());
    }

    /** Each number goes to each heap there is or to a new one. */
    private static int heaps(List<Integer> rest, List<Integer> heaps) {
        if (rest.isEmpty()) {
            return heaps.stream().allMatch(h -> h == 0) ? heaps.size() : -100;
        }
        int most = -100;
        for (int i = 0; i <= heaps.size(); i++) {
            List<Integer> then = new ArrayList<>(heaps);
            if (i == heaps.size()) {
                then.add(rest.get(0));
            } else {
                then.set(i, then.get(i) + rest.get(0));
            }
            most = Math.max(most, heaps(rest.subList(1, rest.size()), then));
        }
        return most;
    }

    int seen(int day, int d, int place, int who) {
        if (!in(day, 0, 999) || !in(place, 0, 3) || !in(who, 0, 6)) {
            return no(-1);
        }
        if (!isDeed(d) || who < 6 && !isPerson(who)) {
            return no(-2);
        }
        if (s.sights.size() == 6) {
            return no(-5);
        }
        s.sights.add(new Sight(day, d, place, who));
        return yes(s.sights.size());
    }

    int forget() {
        int was = s.sights.size();
        s.sights.clear();
        return was;
    }

    private List<Integer> doerList() {
        List<Integer> list = new ArrayList<>();
        for (int p = 0; p < s.signs.size(); p++) {
            boolean can = true;
            for (Sight t : s.sights) {
                can &= whoBy(force(s), t.deed, p, t.place, t.day + s.clocks[t.place]) == t.who;
            }
            if (can) {
                list.add(p);
            }
        }
        return list;
    }

    int doers() {
        return doerList().stream().mapToInt(p -> 1 << p).sum();
    }

    int look(int d, int place, int what) {
        if (!isDeed(d) || !in(place, 0, 3) || !in(what, 0, 1) || doerList().isEmpty()) {
            return NONE;
        }
        int[] most = new int[31];
        for (int n = 0; n <= 30; n++) {
            for (int who = 0; who <= 7; who++) {
                int alike = 0;
                for (int p : doerList()) {
                    alike += whoOn(d, p, place, n) == who ? 1 : 0;
                }
                most[n] = Math.max(most[n], alike);
            }
        }
        int least = Arrays.stream(most).min().getAsInt();
        for (int n = 0; n <= 30; n++) {
            if (most[n] == least) {
                return what == 0 ? n : least;
            }
        }
        throw new IllegalStateException();
    }

    int fair(int d, int place, int what) {
        if (!isDeed(d) || !in(place, 0, 3) || !in(what, 0, 1) || s.signs.isEmpty()) {
            return NONE;
        }
        int best = NONE;
        int by = Integer.MAX_VALUE;
        for (int clock = 0; clock <= 6; clock++) {
            int[] times = new int[8];
            for (int n = 0; n <= 27; n++) {
                for (int p = 0; p < s.signs.size(); p++) {
                    times[whoBy(force(s), d, p, place, s.terms[0] + clock + n)]++;
                }
            }
            int[] ofPeople = Arrays.copyOf(times, s.signs.size());
            int differ = Arrays.stream(ofPeople).max().getAsInt() - Arrays.stream(ofPeople).min().getAsInt();
            if (differ < by) {
                by = differ;
                best = clock;
            }
        }
        return what == 0 ? best : by;
    }

    long few(int k, int n) {
        if (!in(k, 1, 20) || !in(n, 0, 99)) {
            return NONE;
        }
        BigInteger w = BigInteger.valueOf(s.terms[1]);
        BigInteger all = BigInteger.ZERO;
        BigInteger ways = BigInteger.ONE;
        for (int i = 0; i < k && i <= n; i++) {
            all = all.add(ways.multiply(w.pow(i)).multiply(BigInteger.TEN.subtract(w).pow(n - i))
                .multiply(BigInteger.TEN.pow(12)).divide(BigInteger.TEN.pow(n)));
            ways = ways.multiply(BigInteger.valueOf(n - i)).divide(BigInteger.valueOf(i + 1));
        }
        return all.longValueExact();
    }

    int compare(int law, int d, int p, int place) {
        if (law < -1 || law >= s.laws.size() || !isQuestion(d, p, place)) {
            return NONE;
        }
        int days = 0;
        for (int n = 0; n <= 59; n++) {
            List<Clause> by = law == NONE ? List.of() : s.laws.get(law);
            days += whoBy(by, d, p, place, s.terms[0] + s.clocks[place] + n) == 6 ? 1 : 0;
        }
        return days;
    }

    int years(int seed, int n) {
        if (!in(seed, 0, 1000000) || !in(n, 1, 60)) {
            return no(-1);
        }
        if (s.signs.isEmpty() || s.deeds.isEmpty()) {
            return no(-3);
        }
        State on = s.copy();
        long[] draw = {seed};
        int nobody = 0;
        for (int i = 0; i < n; i++) {
            if (on.terms[0] == 999) {
                break;
            }
            int d = draw(draw, on.deeds.size());
            int p = draw(draw, on.signs.size());
            int place = draw(draw, 4);
            if (tryCommit(on, d, p, place, new ArrayDeque<>()) == 6) {
                nobody++;
            }
            on.terms[0]++;
        }
        drawn = Arrays.copyOf(on.balances, on.signs.size());
        return yes(nobody);
    }

    private static int draw(long[] seed, int m) {
        seed[0] = (seed[0] * 1103 + 12345) % 1000003;
        return (int) (seed[0] % m);
    }

    int drawn(int p) {
        return in(p, 0, drawn.length - 1) ? drawn[p] : NOTHING;
    }

    int image(int k) {
        if (!in(k, 0, 1)) {
            return no(-1);
        }
        images[k] = s.copy();
        return yes(0);
    }

    int back(int k) {
        if (!in(k, 0, 1)) {
            return no(-1);
        }
        if (images[k] == null) {
            return no(-2);
        }
        s = images[k].copy();
        undos.clear();
        return yes(0);
    }

    int count(int what) {
        switch (what) {
            case 0: return s.signs.size();
            case 1: return evens();
            case 2: return s.deeds.size();
            case 3: return s.sights.size();
            case 4: return s.laws.size();
            case 5: return undos.size();
            case 6: return tape.size();
            case 7: return refused[1];
            case 8: return refused[2];
            case 9: return refused[3];
            case 10: return refused[5];
            case 11: return refused[6];
            case 12: return s.force;
            case 13: return s.terms[0];
            case 14: return s.terms[1];
            case 15: return s.terms[2];
            default: return NONE;
        }
    }

    int status() {
        return status;
    }

    /** Reads a text into trees. */
    private static final class Parser {
        final boolean orders;
        final List<Token> tokens = new ArrayList<>();
        int at;
        int parts;

        Parser(String text, boolean orders) {
            this.orders = orders;
            java.util.regex.Matcher m = java.util.regex.Pattern.compile("[a-z]+|[0-9]+|[^ ]", java.util.regex.Pattern.DOTALL)
                .matcher(text);
            while (m.find()) {
                tokens.add(new Token(m.group(), m.start()));
            }
            tokens.add(new Token("", text.length()));
        }

        String next() {
            return tokens.get(at).text;
        }

        Fault fault() {
            return new Fault(tokens.get(at).place);
        }

        boolean got(String word) {
            if (next().equals(word)) {
                at++;
                return true;
            }
            return false;
        }

        void want(String word) throws Fault {
            if (!got(word)) {
                throw fault();
            }
        }

        List<Clause> text() throws Fault {
            List<Clause> clauses = new ArrayList<>();
            do {
                if (clauses.size() == 12) {
                    throw fault();
                }
                clauses.add(clause());
            } while (got(";"));
            want("");
            return clauses;
        }

        Clause clause() throws Fault {
            String head = next();
            List<Tree> sums = new ArrayList<>();
            if (!(orders ? List.of("do", "pay", "wind", "pass") : List.of("answers", "owes", "bars")).contains(head)) {
                throw fault();
            }
            at++;
            if (!head.equals("bars") && !head.equals("pass")) {
                sums.add(sum(0));
            }
            if (head.equals("do")) {
                want("by");
                sums.add(sum(0));
                want("at");
                sums.add(sum(0));
            }
            if (head.equals("pay")) {
                want("to");
                sums.add(sum(0));
            }
            int times = orders && got("times") ? number(1, 20) : 1;
            return new Clause(head, sums, times, got("if") ? test(0) : null);
        }

        int number(int least, int most) throws Fault {
            if (!next().matches("[0-9]+") || !in(new BigInteger(next()).min(BigInteger.valueOf(5000)).intValue(), least, most)) {
                throw fault();
            }
            return Integer.parseInt(tokens.get(at++).text);
        }

        Tree test(int depth) throws Fault {
            Tree left = both(depth);
            while (got("or")) {
                Tree one = left;
                Tree other = both(depth);
                left = w -> one.value(w) != 0 ? 1 : other.value(w);
            }
            return left;
        }

        Tree both(int depth) throws Fault {
            Tree left = plain(depth);
            while (got("and")) {
                Tree one = left;
                Tree other = plain(depth);
                left = w -> one.value(w) == 0 ? 0 : other.value(w);
            }
            return left;
        }

        Tree plain(int depth) throws Fault {
            if (got("not")) {
                Tree of = plain(depth);
                return w -> of.value(w) == 0 ? 1 : 0;
            }
            if (next().equals("(")) {
                if (depth == 8) {
                    throw fault();
                }
                at++;
                Tree of = test(depth + 1);
                want(")");
                return of;
            }
            Tree one = sum(depth);
            String sign = next();
            if (!List.of("<", ">", "=").contains(sign)) {
                throw fault();
            }
            at++;
            Tree other = sum(depth);
            return w -> {
                int c = Long.compare(one.value(w), other.value(w));
                return (sign.equals("<") ? c < 0 : sign.equals(">") ? c > 0 : c == 0) ? 1 : 0;
            };
        }

        Tree sum(int depth) throws Fault {
            Tree left = term(depth);
            while (List.of("+", "-").contains(next())) {
                left = join(left, tokens.get(at++).text, term(depth));
            }
            return left;
        }

        Tree term(int depth) throws Fault {
            Tree left = part(depth);
            while (List.of("*", "/", "%").contains(next())) {
                left = join(left, tokens.get(at++).text, part(depth));
            }
            return left;
        }

        static Tree join(Tree one, String sign, Tree other) {
            return w -> {
                long a = one.value(w);
                long b = other.value(w);
                if (b == 0 && (sign.equals("/") || sign.equals("%"))) {
                    throw new Broken();
                }
                long v = sign.equals("+") ? a + b : sign.equals("-") ? a - b : sign.equals("*") ? a * b
                    : sign.equals("/") ? a / b : a % b;
                if (Math.abs(v) > 1_000_000_000L) {
                    throw new Broken();
                }
                return v;
            };
        }

        Tree part(int depth) throws Fault {
            if (next().equals("[")) {
                if (depth == 8) {
                    throw fault();
                }
                at++;
                Tree of = sum(depth + 1);
                want("]");
                return of;
            }
            boolean word = (orders ? List.of("day", "done", "latest", "even", "balance", "clock")
                : List.of("doer", "sign", "kind", "worth", "place", "date", "week", "mood")).contains(next());
            if (parts == 50) {
                throw fault();
            }
            parts++;
            if (!word) {
                int v = number(0, 1000);
                return w -> v;
            }
            String name = tokens.get(at++).text;
            int which = name.equals("balance") ? number(0, 5) : name.equals("clock") ? number(0, 3) : 0;
            return w -> w.value(name, which);
        }
    }
}
