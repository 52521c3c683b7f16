import java.util.function.Supplier;

/** The sentences of 'Terms' II on LAWS and ORDERS that name a bound, one behind the other. */
public final class BoundsOfLawsTest {
    private static final int NONE = AnswerDays.NONE;

    private static final Check C = new Check("BoundsOfLawsTest");
    private static final Twins T = new Twins(C);

    public static void main(String[] args) {
        laws6();
        inForce();
        words();
        weeks();
        holds();
        answersNobody();
        answersTheDoerWithout();
        owesTheNearest();
        owesWorthWithout();
        barred();
        orderedClauses();
        clockBehindSix();
        times20();
        personsAndPlacesOfWords();
        runAsOften();
        testsAskedEachTime();
        ordersWords();
        endedByWhatCannotBe();
        endedAtAnyClause();
        C.close();
    }

    private static void due(String call, long got, long want) {
        C.due(call, got, want);
    }

    private static AnswerDays ordered(AnswerDays x, String text) {
        Check.orders(x, text);
        return x;
    }

    /** "LAWS, 6 at most" */
    private static void laws6() {
        AnswerDays x = Lands.of(2, 1);
        due("6 laws: none at first", x.count(4), 0);
        for (int i = 0; i < 6; i++) {
            due("6 laws: not yet there", x.force(i), -2);
            due("6 laws: its number", Check.law(x, "owes " + (10 + i)), i);
            due("6 laws: how many", x.count(4), i + 1);
        }
        for (int i = 0; i < 6; i++) {
            x.force(i);
            due("6 laws: by each", x.asks(0, 0, 0, 0), 10 + i);
        }
        for (String text : new String[] {"bars", "owes", "", "   "}) {
            T.refusedAsReader("6 laws: a 7th <" + text + ">", () -> Lands.with(Lands.crowded(), text), AnswerDays::law, -5);
            AnswerDays y = Lands.with(ordered(Lands.crowded(), "pass x"), text);
            y.law();
            due("6 laws: a 7th is not read", y.fault(), 5);
            due("6 laws: the tape is empty then, too", y.count(6), 0);
        }
        T.granted("6 laws: the 6th", () -> Lands.with(fiveLaws(), "bars"), AnswerDays::law, 5);
    }

    private static AnswerDays fiveLaws() {
        AnswerDays x = Lands.of(1, 1);
        for (int i = 0; i < 5; i++) {
            Check.law(x, "owes 1");
        }
        return x;
    }

    /** "one is in FORCE (NONE at first: no CLAUSE)" */
    private static void inForce() {
        AnswerDays x = Lands.of(2, 1);
        due("in force: none at first", x.count(12), NONE);
        Check.law(x, "answers 9;owes 50;bars");
        due("in force: not by itself", x.count(12), NONE);
        due("in force: no clause: the doer", x.who(0, 1, 0, 0), 1);
        due("in force: no clause: worth", x.asks(0, 1, 0, 0), 1);
        due("in force: no clause: not barred", x.asks(0, 1, 0, 1), 0);
        due("in force: it is", x.force(0), NONE);
        due("in force: by it", x.who(0, 1, 0, 0), 7);
        due("in force: by it", x.asks(0, 1, 0, 0), 50);
        due("in force: none again", x.force(NONE), 0);
        due("in force: the doer again", x.who(0, 1, 0, 0), 1);
    }

    private static int owed(AnswerDays x, int deed, int doer, int place, String sum) {
        x.force(Check.law(x, "owes " + sum));
        return x.asks(deed, doer, place, 0);
    }

    /** "All are asked of a PERSON that would do a DEED at a PLACE on a DAY": each word at its least and most. */
    private static void words() {
        for (int most = 0; most < 2; most++) {
            AnswerDays x = Lands.of(6, 0);
            for (int i = 0; i < 6; i++) {
                x.deed(i == 0 ? 0 : 3, i == 0 ? 1 : 9);
            }
            int last = most * 5;
            x.terms(2, most * 9);
            x.terms(0, most * 999);
            if (most == 1) {
                x.wind(3, 6);
            }
            due("doer", owed(x, last, last, 3, "doer"), last);
            due("kind", owed(x, last, last, 3, "kind"), most * 3);
            due("worth", owed(x, last, last, 3, "worth * 10"), most == 0 ? 10 : 90);
            due("place", owed(x, last, last, most * 3, "place"), most * 3);
            due("mood", owed(x, last, last, 3, "mood"), most * 9);
            due("date", owed(x, last, last, 3, "date - " + most * 999), most * 6);
            x.back(0);
        }
        AnswerDays y = new AnswerDays();
        y.person(0);
        y.person(9);
        y.deed(0, 1);
        due("sign", owed(y, 0, 0, 0, "sign"), 0);
        due("sign", owed(y, 0, 1, 0, "sign"), 9);
        y.terms(0, 999);
        y.wind(0, 6);
        due("date", owed(y, 0, 0, 0, "date / 11"), 91);
        due("a date beyond 999", Lands.byLaw(y, "answers 1 if date = 1000 + 104").who(0, 0, 0, 99), 1);
    }

    /** "week: that modulo 7" */
    private static void weeks() {
        AnswerDays x = Lands.of(2, 1, "owes week");
        for (int day : new int[] {0, 1, 6, 7, 8, 13, 14, 994, 999}) {
            x.terms(0, day);
            due("week of date " + day, x.asks(0, 0, 0, 0), day % 7);
        }
        x.wind(0, 6);
        due("week of date 1005", x.asks(0, 0, 0, 0), 1005 % 7);
        x.terms(0, 1);
        due("week of date 7", x.asks(0, 0, 0, 0), 0);
        due("week of date 1", x.asks(0, 0, 1, 0), 1);
        AnswerDays y = Lands.of(2, 1, "answers 1 if week = 6");
        due("the first of a week's last days", y.first(0, 0, 0, 1), 6);
        y.terms(0, 7);
        due("the next one", y.first(0, 0, 0, 1), 6);
    }

    /** "A CLAUSE HOLDS, if its "if" (if it has one) is so, and neither that nor its SUM is BROKEN." */
    private static void holds() {
        String[][] laws = {
            {"", "1"}, {" if 1 = 1", "1"}, {" if 1 = 2", "0"}, {" if 1 / 0 = 1", "0"}, {" if not 1 / 0 = 1", "0"},
            {" if 1 / 0 = 1 or 1 = 1", "0"}, {" if 1 = 1 or 1 / 0 = 1", "1"}, {" if 1 = 1 and 1 / 0 = 1", "0"},
        };
        for (String[] law : laws) {
            boolean so = law[1].equals("1");
            AnswerDays x = Lands.of(2, 1, "answers 1" + law[0]);
            due("answers 1" + law[0], x.who(0, 0, 0, 0), so ? 1 : 0);
            AnswerDays y = Lands.of(2, 1, "owes 50" + law[0]);
            due("owes 50" + law[0], y.asks(0, 0, 0, 0), so ? 50 : 1);
            AnswerDays z = Lands.of(2, 1, "bars" + law[0]);
            due("bars" + law[0], z.asks(0, 0, 0, 1), so ? 1 : 0);
            AnswerDays v = Lands.of(2, 1, "answers 1;answers 0" + law[0]);
            due("the last that holds: answers 0" + law[0], v.who(0, 1, 0, 0), so ? 0 : 1);
            AnswerDays w = Lands.of(2, 1, "answers 1 / 0" + law[0] + ";owes 1 / 0" + law[0]);
            due("a broken sum" + law[0], w.who(0, 1, 0, 0), 1);
            due("a broken sum" + law[0], w.asks(0, 1, 0, 0), 1);
        }
        AnswerDays x = Lands.of(3, 1, "answers 2;answers 1 / 0;answers 1 if 1 = 2");
        due("the last that holds is not the last one", x.who(0, 0, 0, 0), 2);
        AnswerDays y = Lands.of(3, 1, "owes 20;owes 1000 * 1000 * 1000 * 2;owes 1 if 1 = 2");
        due("the last that holds is not the last one", y.asks(0, 0, 0, 0), 20);
        AnswerDays z = Lands.of(3, 1, "bars;bars if 1 = 2");
        due("one that bars is enough", z.asks(0, 0, 0, 1), 1);
    }

    /** "that PERSON ANSWERS whose number the last "answers" that HOLDS tells (nobody, if there is none such)" */
    private static void answersNobody() {
        for (int people = 1; people <= 6; people++) {
            for (int told = 0; told <= 7; told++) {
                AnswerDays x = Lands.of(people, 1, "answers " + told);
                due("answers " + told + " of " + people, x.who(0, 0, 0, 0), told < people ? told : 6);
            }
        }
        for (String told : new String[] {"0 - 1", "0 - 1000 * 1000 * 1000", "1000", "1000 * 1000 * 1000", "256", "6", "7"}) {
            AnswerDays x = Lands.of(6, 1, "answers " + told);
            due("answers " + told, x.who(0, 3, 0, 0), 6);
            due("commit where one answers " + told, x.commit(0, 3, 0), 6);
            due("nothing is owed", x.of(3, 1), 0);
        }
        AnswerDays x = Lands.of(1, 1, "answers 1");
        due("nobody yet", x.who(0, 0, 0, 0), 6);
        x.person(0);
        due("one that came", x.who(0, 0, 0, 0), 1);
    }

    /** "the doer without" */
    private static void answersTheDoerWithout() {
        for (int doer = 0; doer < 6; doer++) {
            due("the doer, without a law", Lands.of(6, 1).who(0, doer, 0, 0), doer);
            due("the doer, without answers", Lands.of(6, 1, "owes 5").who(0, doer, 0, 0), doer);
            due("the doer, if none holds", Lands.of(6, 1, "answers 1 if 1 = 2;answers 1 / 0").who(0, doer, 0, 0), doer);
        }
    }

    /** "one that ANSWERS OWES 0 .. 99 as the last "owes" that HOLDS tells (else the nearest)" */
    private static void owesTheNearest() {
        String[][] sums = {
            {"0", "0"}, {"1", "1"}, {"98", "98"}, {"99", "99"}, {"100", "99"}, {"1000", "99"}, {"1000 * 1000 * 1000", "99"},
            {"0 - 1", "0"}, {"0 - 99", "0"}, {"0 - 100", "0"}, {"0 - 1000 * 1000 * 1000", "0"},
        };
        for (String[] sum : sums) {
            int want = Integer.parseInt(sum[1]);
            AnswerDays x = Lands.of(2, 1, "answers 1;owes " + sum[0]);
            due("owes " + sum[0], x.asks(0, 0, 0, 0), want);
            x.commit(0, 0, 0);
            due("the doer's for " + sum[0], x.of(0, 1), want);
            due("the other's for " + sum[0], x.of(1, 1), -want);
        }
    }

    /** "WORTH without" */
    private static void owesWorthWithout() {
        for (int worth : new int[] {1, 9}) {
            for (String law : new String[] {"answers 1", "answers 1;owes 5 if 1 = 2", "answers 1;owes 5 / 0"}) {
                AnswerDays x = Lands.of(2, 0, law);
                x.deed(0, worth);
                due("worth without, by " + law, x.asks(0, 0, 0, 0), worth);
                x.commit(0, 0, 0);
                due("worth without, by " + law, x.of(0, 1), worth);
            }
        }
    }

    /** "a DEED is BARRED, if "bars" HOLDS": it can't be committed, and is told so. */
    private static void barred() {
        Supplier<AnswerDays> atTwo = () -> Lands.byLaw(Lands.some(), "answers 1;bars if place = 2");
        T.refused("barred: commit()", atTwo, x -> x.commit(0, 0, 2), -3);
        T.granted("not barred: commit()", atTwo, x -> x.commit(0, 0, 1), 1);
        AnswerDays x = Lands.of(1, 1, "bars");
        due("barred: who()", x.who(0, 0, 0, 0), 7);
        due("barred: asks()", x.asks(0, 0, 0, 1), 1);
        due("barred: first() to be so", x.first(0, 0, 0, 7), 0);
        due("barred: the doer never", x.first(0, 0, 0, 0), NONE);
    }

    /** "(a DEED, a PERSON, a PLACE; a PERSON, another one: 1; a PLACE: its CLOCK is 1 more ..; a DAY.)" */
    private static void orderedClauses() {
        AnswerDays x = Lands.of(6, 6, "answers 0;owes worth * 10 + place");
        due("do, the last of each", Check.orders(x, "do 5 by 5 at 3"), 1);
        due("do: the doer's", x.of(5, 1), 63);
        due("do: the other's", x.of(0, 1), -63);
        due("pay, the last to the first", Check.orders(x, "pay 5 to 0"), 1);
        due("pay: 1 is paid", x.of(5, 1), 64);
        due("pay: 1 is paid", x.of(0, 1), -64);
        due("wind, the last", Check.orders(x, "wind 3"), 1);
        due("wind: 1 more", x.place(3, 0), 1);
        due("wind: the others stay", x.place(0, 0) + x.place(1, 0) + x.place(2, 0), 0);
        due("pass", Check.orders(x, "pass"), 1);
        due("pass: a day", x.count(13), 1);
        due("four can be undone", x.count(5), 4);
    }

    /** "its CLOCK is 1 more, 0 behind 6" */
    private static void clockBehindSix() {
        for (int place = 0; place < 4; place++) {
            AnswerDays x = new AnswerDays();
            for (int i = 1; i <= 15; i++) {
                due("wind " + place, Check.orders(x, "wind " + place), 1);
                due("wind " + place + " from " + (i - 1) % 7, x.place(place, 0), i % 7);
            }
        }
        AnswerDays x = Lands.after(new AnswerDays(), y -> y.wind(2, 6));
        Check.orders(x, "wind 2");
        due("undone behind 6", x.undo(), 2);
        due("undone behind 6", x.place(2, 0), 6);
    }

    private static void ordersFault(String text, int place) {
        AnswerDays x = new AnswerDays();
        int answer = Check.orders(x, text);
        due("fault of " + text, x.fault(), place);
        due("fault of " + text, answer == -6 ? 1 : 0, place == NONE ? 0 : 1);
    }

    /** "TIMES: a NUMBER 1 .. 20." */
    private static void times20() {
        for (int times = 1; times <= 20; times++) {
            due("times " + times, Check.orders(new AnswerDays(), "pass times " + times), times);
        }
        for (String wrong : new String[] {"0", "21", "1000", "1001", "99999999999", "day", "[1]", "-1", "00", "1.", "if"}) {
            ordersFault("pass times " + wrong, wrong.equals("1.") ? 12 : 11);
            ordersFault("wind 0 times " + wrong + ";pass", wrong.equals("1.") ? 14 : 13);
        }
        ordersFault("pass times 1 + 1", 13);
        ordersFault("pass times 1 times 1", 13);
        ordersFault("pass times 0020", NONE);
        ordersFault("times 2", 0);
    }

    /** "balance" P | "clock" Q (P: a NUMBER 0 .. 5, Q: 0 .. 3)" */
    private static void personsAndPlacesOfWords() {
        for (int i = 0; i <= 9; i++) {
            ordersFault("wind balance " + i, i <= 5 ? NONE : 13);
            ordersFault("wind clock " + i, i <= 3 ? NONE : 11);
        }
        for (String wrong : new String[] {"1000", "1001", "99999999999", "day", "[1]", "-1"}) {
            ordersFault("wind balance " + wrong, 13);
            ordersFault("wind clock " + wrong, 11);
        }
        ordersFault("wind balance 05", NONE);
        ordersFault("wind balance 5 5", 15);
        ordersFault("wind clock 03", NONE);
    }

    /** "Run CLAUSE by CLAUSE, each as often as TIMES tell (once without)": none, and as many as there may be. */
    private static void runAsOften() {
        due("run once without", Check.orders(new AnswerDays(), "pass"), 1);
        due("run none", Check.orders(new AnswerDays(), "pass times 20 if 1 = 2"), 0);
        AnswerDays x = new AnswerDays();
        due("run 240 times", Check.orders(x, "pass times 20" + ";pass times 20".repeat(11)), 240);
        due("run 240 times", x.count(13), 240);
        due("16 of them can be undone", x.count(5), 16);
        for (int i = 0; i < 16; i++) {
            x.undo();
        }
        due("16 of them can be undone", x.undo(), -3);
        due("16 of them were undone", x.count(13), 224);
        AnswerDays y = Lands.of(2, 1);
        due("one clause behind the other", Check.orders(y, "wind 0 times 3;pass times clock 0"), -6);
        due("one clause behind the other", Check.orders(y, "wind 0 times 3;pass times 5 if clock 0 = 3;wind 0 times 4"), 12);
        due("one clause behind the other", y.place(0, 0), 0);
    }

    /** "each time its "if" is asked (not run, if it is not so or BROKEN), then its SUMS from the left" */
    private static void testsAskedEachTime() {
        AnswerDays x = Lands.of(2, 1);
        due("asked each time", Check.orders(x, "pass times 20 if day < 7"), 7);
        due("asked each time", Check.orders(x, "pass times 20 if not day = 9"), 2);
        due("broken each time but one", Check.orders(x, "wind 0 times 20 if 7 / clock 0 > 0;pass"), 1);
        due("not so: its sums are not asked", Check.orders(x, "wind 1 / 0 if 1 = 2"), 0);
        due("broken: its sums are not asked", Check.orders(x, "wind 1 / 0 if 1 / 0 = 2"), 0);
        due("so: its sums are asked", Check.orders(x, "wind 1 / 0 if 1 = 1"), -3);
        due("sums asked each time", Check.orders(x, "wind done times 4"), 4);
        for (int place = 0; place < 4; place++) {
            due("sums asked each time", x.place(place, 0), 1);
        }
        due("sums asked each time", Check.orders(x, "wind done times 5"), -3);
        due("none of them was", x.place(0, 0), 1);
        due("from its own time's if", Check.orders(x, "wind 0 times 3 if clock 0 < 3"), 2);
    }

    /** "done: how many were run in this TEXT, latest: .. (-1: none), even: .., balance: -1 without such a PERSON" */
    private static void ordersWords() {
        AnswerDays x = Lands.of(3, 2, "answers 2;answers 9 if kind = 1");
        due("done: none yet", Check.orders(x, "pass if done = 0"), 1);
        due("done: of this text", Check.orders(x, "pass if done = 0"), 1);
        due("done: not those that were not run", Check.orders(x, "pass if 1 = 2;pass if done = 0;pass if done = 1"), 2);
        due("latest: none", Check.orders(x, "pass;pass if latest = 0 - 1"), 2);
        due("latest: it itself", Check.orders(x, "do 0 by 2 at 0;pass if latest = 2"), 2);
        due("latest: nobody", Check.orders(x, "do 0 by 2 at 0;do 1 by 1 at 0;pass if latest = 6"), 3);
        due("latest: of a do alone", Check.orders(x, "do 0 by 2 at 0;wind 1;pass;pay 0 to 1;pass if latest = 2"), 5);
        due("latest: none again", Check.orders(x, "pass if latest = 0 - 1"), 1);
        due("latest: not of one that is not run", Check.orders(x, "do 0 by 2 at 0 if 1 = 2;pass if latest = 0 - 1"), 1);
        due("even: no people", Check.orders(new AnswerDays(), "pass if even = 0"), 1);
        due("even: all of six", Check.orders(Lands.of(6, 0), "pass if even = 6"), 1);
        AnswerDays y = Lands.of(6, 0);
        due("even: less by payments", Check.orders(y, "pay 0 to 1;pass if even = 4;pay 2 to 3;pay 4 to 5;pass if even = 0"), 5);
        due("even: again", Check.orders(y, "pay 1 to 0;pass if even = 2"), 2);
        for (int person = 0; person < 6; person++) {
            due("balance: 0", Check.orders(Lands.of(person + 1, 0), "pass if balance " + person + " = 0"), 1);
            due("balance: none such", Check.orders(Lands.of(person, 0), "pass if balance " + person + " = 0 - 1"), 1);
        }
        AnswerDays z = Lands.richest();
        due("balance: the most", Check.orders(z, "pass if balance 0 = 10 * 1000 - 1"), 1);
        due("balance: the least", Check.orders(z, "pass if balance 1 = 1 - 10 * 1000"), 1);
        z.terms(0, 999);
        due("day: the last", Check.orders(z, "wind 0 if day = 999"), 1);
        z.terms(0, 0);
        due("day: the first", Check.orders(z, "wind 0 if day = 0"), 1);
        for (int place = 0; place < 4; place++) {
            AnswerDays v = Lands.after(new AnswerDays(), w -> w.pass());
            v.wind(place, 6);
            due("clock: the last", Check.orders(v, "pass if clock " + place + " = 6"), 1);
            due("clock: others", Check.orders(v, "pass if clock " + (place + 1) % 4 + " = 0"), 1);
        }
    }

    private static Supplier<AnswerDays> before(Supplier<AnswerDays> maker, String text) {
        return () -> {
            AnswerDays x = maker.get();
            x.end(0);
            return Lands.with(x, text);
        };
    }

    private static void cannotBe(String why, Supplier<AnswerDays> maker, String text, int clause) {
        T.refusedAsReader(why + " <" + text + ">", before(maker, text), AnswerDays::orders, -3);
        AnswerDays x = before(maker, text).get();
        x.orders();
        due(why + ": stopped", x.stopped(), clause);
        due(why + ": no fault", x.fault(), NONE);
        due(why + ": the tape is empty then", x.count(6), 0);
    }

    /** "One that can't be (a BROKEN SUM, as commit(), pay(), wind(), pass() are REFUSED) ends it: all is as it was" */
    private static void endedByWhatCannotBe() {
        for (String ahead : new String[] {"", "pass;wind 1;pay 0 to 1;do 0 by 0 at 0;", "pass times 20;wind 1 times 20;"}) {
            int clause = (int) ahead.chars().filter(c -> c == ';').count();
            for (String sums : new String[] {"do 1/0 by 0 at 0", "do 0 by 1/0 at 0", "do 0 by 0 at 1/0", "pay 1/0 to 0", "pay 0 to 1/0",
                "wind 1/0", "wind 1%0", "wind 1000*1000*1000+1"}) {
                cannotBe("a broken sum", Lands::some, ahead + sums, clause);
            }
            for (String wrong : new String[] {"do 0-1 by 0 at 0", "do 3 by 0 at 0", "do 0 by 0-1 at 0", "do 0 by 3 at 0", "do 0 by 0 at 0-1",
                "do 0 by 0 at 4", "do 1000*1000*1000 by 0 at 0", "do 2 by 0 at 3"}) {
                cannotBe("as commit()", Lands::some, ahead + wrong, clause);
            }
            for (String wrong : new String[] {"pay 0-1 to 0", "pay 3 to 0", "pay 0 to 0-1", "pay 0 to 3", "pay 0 to 0", "pay 2 to 2",
                "pay 1000*1000*1000 to 0"}) {
                cannotBe("as pay()", Lands::some, ahead + wrong, clause);
            }
            for (String wrong : new String[] {"wind 0-1", "wind 4", "wind 1000*1000*1000", "wind 0-1000*1000*1000"}) {
                cannotBe("as wind()", Lands::some, ahead + wrong, clause);
            }
        }
        cannotBe("as pass()", () -> Lands.after(Lands.some(), x -> x.terms(0, 999)), "pass", 0);
        cannotBe("as pass()", () -> Lands.after(Lands.some(), x -> x.terms(0, 998)), "wind 0;pass times 2", 1);
        cannotBe("as pass()", () -> Lands.after(Lands.some(), x -> x.terms(0, 980)), "pass times 20", 0);
        due("as pass()", Check.orders(Lands.after(new AnswerDays(), x -> x.terms(0, 979)), "pass times 20"), 20);
        cannotBe("a balance beyond 9999", Lands::richest, "pay 0 to 2", 0);
        cannotBe("a balance below -9999", Lands::richest, "pay 2 to 1", 0);
        cannotBe("a balance beyond 9999 by turns", Lands::richest, "pay 1 to 0 times 3;pay 0 to 1 times 4", 1);
        due("just to its bounds", Check.orders(Lands.richest(), "pay 1 to 0 times 3;pay 0 to 1 times 3"), 6);
        cannotBe("a deed beyond 9999", () -> Lands.byLaw(Lands.richest(), "answers 2;owes 1"), "do 0 by 0 at 0", 0);
        cannotBe("a deed below -9999", () -> Lands.byLaw(Lands.richest(), "answers 1;owes 1"), "do 0 by 2 at 0", 0);
        cannotBe("without people", () -> Lands.of(0, 1), "do 0 by 0 at 0", 0);
        cannotBe("without deeds", () -> Lands.of(1, 0), "pass;do 0 by 0 at 0", 1);
        cannotBe("one that would be undone", Lands::crowded, "pass times 2;wind 0 times 20;wind 9", 2);
    }

    /** "ends it": at the clause that can't be, whichever of the twelve; what stands behind is not run. */
    private static void endedAtAnyClause() {
        for (int clause = 0; clause < 12; clause++) {
            String text = "pass;".repeat(clause) + "wind 4" + ";pass".repeat(11 - clause);
            AnswerDays x = new AnswerDays();
            due("ended at " + clause, Check.orders(x, text), -3);
            due("ended at " + clause, x.stopped(), clause);
            due("ended at " + clause + ": all is as it was", x.count(13) + x.count(5), 0);
            due("ended at " + clause + ": refused once", x.count(7) + x.count(8) + 10 * x.count(9), 10);
        }
        for (int time = 1; time <= 20; time++) {
            AnswerDays x = Lands.after(new AnswerDays(), y -> y.terms(0, 900));
            int last = time;
            due("ended at time " + time, Check.orders(x, "wind " + "4 * [done / " + last + "] times 20"), last == 20 ? 20 : -3);
            due("ended at time " + time, x.place(0, 0), last == 20 ? 20 % 7 : 0);
        }
    }
}
