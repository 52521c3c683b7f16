import java.util.LinkedHashMap;
import java.util.Map;
import java.util.function.Supplier;
import java.util.function.ToLongFunction;

/** The sentences of the promises 1 to 43 that name a bound, promise by promise. */
public final class BoundsOfPromisesTest {
    private static final int NONE = AnswerDays.NONE;
    private static final int NOTHING = AnswerDays.NOTHING;
    private static final int LOW = Integer.MIN_VALUE;
    private static final int HIGH = Integer.MAX_VALUE;
    private static final Supplier<AnswerDays> SOME = Lands::some;
    private static final Supplier<AnswerDays> CROWDED = Lands::crowded;

    private static final Check C = new Check("BoundsOfPromisesTest");
    private static final Twins T = new Twins(C);

    public static void main(String[] args) {
        newObject();
        peopleAndDeeds();
        questionsOfPeopleAndDeeds();
        questionsOfWhat();
        fed();
        ended();
        rowsAndBlots();
        lawsRead();
        ordersRead();
        faults();
        stops();
        forced();
        committed();
        paid();
        woundAndPassed();
        undone();
        undoneNotAheadOf();
        whoOnDays();
        firstDays();
        loopholesOnDays();
        plans();
        walks();
        seenAndForgotten();
        fewOf();
        compared();
        drawn();
        counted();
        statusOfCalls();
        statusOfOthers();
        C.close();
    }

    private static void due(String call, long got, long want) {
        C.due(call, got, want);
    }

    /** Promise 1: "A land without people", whatever was done to other objects. */
    private static void newObject() {
        AnswerDays other = Lands.crowded();
        AnswerDays x = new AnswerDays();
        for (int what = 0; what <= 11; what++) {
            due("p1 count(" + what + ")", x.count(what), 0);
        }
        due("p1 force", x.count(12), NONE);
        due("p1 terms", 100 * x.count(13) + 10 * x.count(14) + x.count(15), 10);
        T.asked("p1 of()", AnswerDays::new, y -> y.of(0, 0), NOTHING);
        T.asked("p1 at()", AnswerDays::new, y -> y.at(0, 0), NONE);
        T.asked("p1 asks()", AnswerDays::new, y -> y.asks(0, 0, 0, 0), NONE);
        T.asked("p1 who()", AnswerDays::new, y -> y.who(0, 0, 0, 0), NONE);
        T.asked("p1 first()", AnswerDays::new, y -> y.first(0, 0, 0, 0), NONE);
        T.asked("p1 period()", AnswerDays::new, y -> y.period(0, 0, 0), NONE);
        T.asked("p1 loopholes()", AnswerDays::new, y -> y.loopholes(0, 0, NONE), 0);
        T.asked("p1 plan()", AnswerDays::new, y -> y.plan(0, 0, 0, 0), NONE);
        T.asked("p1 walk()", AnswerDays::new, y -> y.walk(0, 0, 0, 1, 0), NONE);
        T.asked("p1 quits()", AnswerDays::new, AnswerDays::quits, 0);
        T.asked("p1 doers()", AnswerDays::new, AnswerDays::doers, 0);
        T.asked("p1 look()", AnswerDays::new, y -> y.look(0, 0, 0), NONE);
        T.asked("p1 fair()", AnswerDays::new, y -> y.fair(0, 0, 0), NONE);
        T.asked("p1 compare()", AnswerDays::new, y -> y.compare(NONE, 0, 0, 0), NONE);
        T.asked("p1 drawn()", AnswerDays::new, y -> y.drawn(0), NOTHING);
        T.asked("p1 blots()", AnswerDays::new, AnswerDays::blots, 0);
        T.asked("p1 fault()", AnswerDays::new, AnswerDays::fault, NONE);
        T.asked("p1 stopped()", AnswerDays::new, AnswerDays::stopped, NONE);
        T.asked("p1 status()", AnswerDays::new, AnswerDays::status, 0);
        T.asked("p1 forget()", AnswerDays::new, AnswerDays::forget, 0);
        T.refused("p1 row()", AnswerDays::new, AnswerDays::row, -6);
        T.refused("p1 force()", AnswerDays::new, y -> y.force(0), -2);
        T.refused("p1 commit()", AnswerDays::new, y -> y.commit(0, 0, 0), -2);
        T.refused("p1 pay()", AnswerDays::new, y -> y.pay(0, 1, 1), -2);
        T.refused("p1 undo()", AnswerDays::new, AnswerDays::undo, -3);
        T.refused("p1 seen()", AnswerDays::new, y -> y.seen(0, 0, 0, 6), -2);
        due("p1 the other one stays", other.count(0), 6);
    }

    /** Promises 2, 4: "the number. -1; -5." */
    private static void peopleAndDeeds() {
        T.refusedBeyond("p2 person()", SOME, AnswerDays::person, 0, 9, -1);
        T.refusedBeyond("p4 deed() of a kind", SOME, (x, kind) -> x.deed(kind, 9), 0, 3, -1);
        T.refusedBeyond("p4 deed() of a worth", SOME, (x, worth) -> x.deed(0, worth), 1, 9, -1);
        for (int sign : new int[] {0, 9}) {
            T.refused("p2 person() without room", CROWDED, x -> x.person(sign), -5);
        }
        T.refused("p4 deed() without room", CROWDED, x -> x.deed(0, 1), -5);
        T.refused("p4 deed() without room", CROWDED, x -> x.deed(3, 9), -5);
        T.granted("p2 person()", SOME, x -> x.person(0), 3);
        T.granted("p4 deed()", SOME, x -> x.deed(0, 1), 3);
    }

    /** Promises 3, 5, 8, 24 .. 29, 34, 35, 37: no such PERSON, DEED: NOTHING, NONE. */
    private static void questionsOfPeopleAndDeeds() {
        Map<String, Twins.Numbered> deeds = new LinkedHashMap<>();
        deeds.put("p5 at()", (x, d) -> x.at(d, 0));
        deeds.put("p8 asks()", (x, d) -> x.asks(d, 0, 0, 0));
        deeds.put("p24 who()", (x, d) -> x.who(d, 0, 0, 0));
        deeds.put("p25 first()", (x, d) -> x.first(d, 0, 0, 0));
        deeds.put("p26 period()", (x, d) -> x.period(d, 0, 0));
        deeds.put("p29 walk()", (x, d) -> x.walk(d, 0, 0, 3, 0));
        deeds.put("p34 look()", (x, d) -> x.look(d, 0, 0));
        deeds.put("p35 fair()", (x, d) -> x.fair(d, 0, 0));
        deeds.put("p37 compare()", (x, d) -> x.compare(NONE, d, 0, 0));
        Map<String, Twins.Numbered> people = new LinkedHashMap<>();
        people.put("p8 asks()", (x, p) -> x.asks(0, p, 0, 0));
        people.put("p24 who()", (x, p) -> x.who(0, p, 0, 0));
        people.put("p25 first()", (x, p) -> x.first(0, p, 0, 0));
        people.put("p26 period()", (x, p) -> x.period(0, p, 0));
        people.put("p28 plan(), the doer", (x, p) -> x.plan(p, 0, 0, 0));
        people.put("p28 plan(), the other", (x, p) -> x.plan(0, 0, p, 0));
        people.put("p29 walk()", (x, p) -> x.walk(0, p, 0, 3, 0));
        people.put("p37 compare()", (x, p) -> x.compare(NONE, 0, p, 0));
        for (int many : new int[] {1, 3, 6}) {
            // All of them ANSWER in turn, so that each question has an answer.
            Supplier<AnswerDays> maker = () -> Lands.of(many, many, "answers date % " + (many + 1));
            deeds.forEach((call, made) -> T.noneBeyond(call + " of a deed of " + many, maker, made, 0, many - 1));
            people.forEach((call, made) -> T.noneBeyond(call + " of a person of " + many, maker, made, 0, many - 1));
            T.askedBeyond("p3 of() of a person of " + many, maker, (x, p) -> x.of(p, 0), 0, many - 1, NOTHING);
            T.askedBeyond("p3 of() of a person of " + many, maker, (x, p) -> x.of(p, 1), 0, many - 1, NOTHING);
        }
        T.asked("p34 look() without people", () -> Lands.of(0, 1), x -> x.look(0, 0, 0), NONE);
        T.asked("p35 fair() without people", () -> Lands.of(0, 1), x -> x.fair(0, 0, 0), NONE);
        T.asked("p28 plan() without people", () -> Lands.of(0, 1), x -> x.plan(0, 0, 0, 0), NONE);
    }

    /** Promises 3, 5, 6, 8, 28, 29, 34, 35: what is asked. */
    private static void questionsOfWhat() {
        T.askedBeyond("p3 of()", SOME, (x, what) -> x.of(2, what), 0, 1, NOTHING);
        T.noneBeyond("p5 at()", SOME, (x, what) -> x.at(2, what), 0, 1);
        T.noneBeyond("p6 place()", SOME, (x, what) -> x.place(3, what), 0, 2);
        T.noneBeyond("p8 asks()", SOME, (x, what) -> x.asks(2, 2, 3, what), 0, 1);
        T.noneBeyond("p28 plan()", () -> Lands.of(2, 3), (x, what) -> x.plan(0, 0, 1, what), 0, 3);
        T.noneBeyond("p28 plan() of six", () -> Lands.of(2, 6), (x, what) -> x.plan(0, 0, 1, what), 0, 6);
        T.noneBeyond("p28 plan() of none", () -> Lands.of(2, 0), (x, what) -> x.plan(0, 0, 1, what), 0, 0);
        for (int n : new int[] {1, 2, 19, 20}) {
            T.noneBeyond("p29 walk() of " + n, SOME, (x, what) -> x.walk(0, 0, 0, n, what), 0, n);
        }
        Supplier<AnswerDays> unseen = () -> Lands.after(Lands.some(), AnswerDays::forget);
        T.noneBeyond("p34 look()", unseen, (x, what) -> x.look(0, 0, what), 0, 1);
        T.noneBeyond("p35 fair()", SOME, (x, what) -> x.fair(0, 0, what), 0, 1);
    }

    /** Promise 10: "four of each number, the highest first: how many it has. NONE, if there would be more than 400." */
    private static void fed() {
        int[][] numbers = {{LOW, 0x80000000}, {HIGH, 0x7fffffff}, {-1, 0xffffffff}, {0, 0}, {0x01020304, 0x01020304}, {0x03090001, 0x03090001}};
        for (int[] number : numbers) {
            for (int at = 0; at < 5; at++) {
                // Four bytes by twos: two deeds or blots; all others are blots, for kind 9 can't be.
                int[] five = {0x09090909, 0x09090909, 0x09090909, 0x09090909, 0x09090909};
                five[at] = number[0];
                AnswerDays x = new AnswerDays();
                due("p10 feed()", x.feed(five[0], five[1], five[2], five[3], five[4]), 20);
                int came = 0;
                for (int half : new int[] {number[1] >>> 16, number[1] & 0xffff}) {
                    boolean good = half >>> 8 <= 3 && (half & 255) >= 1 && (half & 255) <= 9;
                    came += good ? 1 : 0;
                }
                due("p10 the bytes of " + number[0], x.row(), came);
                due("p10 the bytes of " + number[0], x.blots(), 10 - came);
            }
        }
        AnswerDays x = new AnswerDays();
        x.feed(0x62617273, 0x3b6f7765, 0x73203132, 0x20696620, 0x313d3120);
        due("p10 the highest first", x.law(), 0);
        T.asked("p10 feed() beyond 400", () -> Lands.with(Lands.of(1, 1), "x".repeat(400)), y -> y.feed(0, 0, 0, 0, 0), NONE);
        T.asked("p10 feed() beyond 400", () -> Lands.with(Lands.of(1, 1), "x".repeat(381)), y -> y.feed(0, 0, 0, 0, 0), NONE);
        due("p10 feed() to 400", Lands.with(new AnswerDays(), "x".repeat(380)).feed(0, 0, 0, 0, 0), 400);
        due("p10 feed() from 1", Lands.with(new AnswerDays(), "x").feed(0, 0, 0, 0, 0), 21);
    }

    /** Promise 11: "The TAPE has its first n bytes alone: n. NONE, if it has not so many, or n is below 0." */
    private static void ended() {
        for (int bytes : new int[] {0, 1, 20, 399, 400}) {
            Supplier<AnswerDays> maker = () -> Lands.with(Lands.of(1, 1), "x".repeat(bytes));
            T.noneBeyond("p11 end() of " + bytes, maker, AnswerDays::end, 0, bytes);
            due("p11 all stay", Lands.after(maker.get(), x -> x.end(bytes)).count(6), bytes);
            due("p11 none stay", Lands.after(maker.get(), x -> x.end(0)).count(6), 0);
        }
        AnswerDays x = Lands.with(new AnswerDays(), "bars;bars");
        due("p11 the first ones", x.end(4), 4);
        due("p11 not so many now", x.end(5), NONE);
        due("p11 the first ones", x.law(), 0);
        AnswerDays y = Lands.with(new AnswerDays(), "bars;");
        y.end(4);
        y.feed(0x20696620, 0x313d3120, 0x20202020, 0x20202020, 0x20202020);
        due("p11 more comes behind those", y.count(6), 24);
        due("p11 more comes behind those", y.law(), 0);
    }

    /** Promises 12, 13: "-6 the TAPE is empty", "the latest row() .. that was not REFUSED (0 ahead of any)" */
    private static void rowsAndBlots() {
        Supplier<AnswerDays> empty = () -> Lands.after(Lands.some(), x -> x.end(0));
        T.refused("p12 row() of nothing", empty, AnswerDays::row, -6);
        T.granted("p12 row() of one byte", () -> Lands.with(new AnswerDays(), "x"), AnswerDays::row, 0);
        T.granted("p12 row() of a full tape", () -> Lands.with(new AnswerDays(), "\3\t".repeat(200)), AnswerDays::row, 6);
        AnswerDays x = new AnswerDays();
        due("p13 ahead of any", x.blots(), 0);
        x.row();
        due("p13 ahead of any that was not refused", x.blots(), 0);
        Lands.with(x, "\1\1\1").row();
        due("p13 one", x.blots(), 1);
        x.row();
        due("p13 one still", x.blots(), 1);
        Check.law(x, "bars");
        Check.orders(x, "pass");
        due("p13 texts do not matter", x.blots(), 1);
        Lands.with(x, "\1\1").row();
        due("p13 none", x.blots(), 0);
        Lands.with(x, "x".repeat(400)).row();
        due("p13 two hundred", x.blots(), 200);
        due("p12 undone as before", Lands.after(Lands.some(), AnswerDays::row).count(5), 4);
    }

    private static Supplier<AnswerDays> with(Supplier<AnswerDays> maker, String text) {
        return () -> Lands.with(Lands.after(maker.get(), x -> x.end(0)), text);
    }

    /** Promise 14: "-5 (ahead of reading it; the TAPE is empty then, too); -6 (blanks alone: FAULT at the end)" */
    private static void lawsRead() {
        for (String text : new String[] {"", " ", "   ", "owes", "bars x", "pass", " ".repeat(400), "x".repeat(400)}) {
            T.refusedAsReader("p14 law() <" + text + ">", with(SOME, text), AnswerDays::law, -6);
            AnswerDays x = with(SOME, text).get();
            x.law();
            due("p14 the tape is empty then", x.count(6), 0);
            due("p14 stopped() stays", x.stopped(), 1);
            due("p14 blots() stays", x.blots(), 1);
            boolean blank = text.trim().isEmpty();
            due("p14 fault of <" + text + ">", x.fault(), blank || text.equals("owes") ? text.length() : text.equals("bars x") ? 5 : 0);
            T.refusedAsReader("p14 law() without room <" + text + ">", with(CROWDED, text), AnswerDays::law, -5);
            AnswerDays y = with(CROWDED, text).get();
            y.law();
            due("p14 without room the tape is empty, too", y.count(6), 0);
            due("p14 without room it is not read", y.fault(), NONE);
        }
        T.granted("p14 law()", with(SOME, "bars"), AnswerDays::law, 2);
        due("p14 undone as before", Lands.after(with(SOME, "bars").get(), AnswerDays::law).count(5), 4);
        due("p14 in force as before", Lands.after(with(SOME, "bars").get(), AnswerDays::law).count(12), 0);
    }

    /** Promise 15: "how many were run. -3 one can't be; -6 (as for law())" */
    private static void ordersRead() {
        for (String text : new String[] {"", " ", "   ", "wind", "pass x", "bars", " ".repeat(400), "x".repeat(400)}) {
            T.refusedAsReader("p15 orders() <" + text + ">", with(SOME, text), AnswerDays::orders, -6);
            AnswerDays x = with(SOME, text).get();
            x.orders();
            due("p15 the tape is empty then", x.count(6), 0);
            due("p15 none stopped", x.stopped(), NONE);
            boolean blank = text.trim().isEmpty();
            due("p15 fault of <" + text + ">", x.fault(), blank || text.equals("wind") ? text.length() : text.equals("pass x") ? 5 : 0);
        }
        T.refusedAsReader("p15 orders() that can't be", with(SOME, "pass;wind 4"), AnswerDays::orders, -3);
        T.granted("p15 orders() of none", with(SOME, "pass if 1 = 2"), AnswerDays::orders, 0);
        T.granted("p15 orders()", with(SOME, "pass times 20"), AnswerDays::orders, 20);
        T.granted("p15 orders() where no law has room", with(CROWDED, "wind 0"), AnswerDays::orders, 1);
    }

    /** Promise 16: "of the latest law(), orders() that read a TEXT: its place; NONE without" */
    private static void faults() {
        AnswerDays x = Lands.of(2, 1);
        Check.orders(x, "pass if x");
        due("p16 orders' fault", x.fault(), 8);
        x.row();
        due("p16 a row does not matter", x.fault(), 8);
        Check.law(x, "answers x");
        due("p16 a law's fault", x.fault(), 8);
        Check.orders(x, "wind 4");
        due("p16 without, though it can't be", x.fault(), NONE);
        Check.law(x, "x");
        due("p16 the first token", x.fault(), 0);
        for (int i = 0; i < 6; i++) {
            Check.law(x, "bars");
            due("p16 without", x.fault(), NONE);
        }
        Check.orders(x, "");
        due("p16 an empty text", x.fault(), 0);
        Check.law(x, "bars");
        due("p16 a law without room reads none", x.fault(), 0);
        Check.law(x, "bars x");
        due("p16 a law without room reads none", x.fault(), 0);
        Check.orders(x, "pass");
        due("p16 without", x.fault(), NONE);
        Check.law(x, "bars x");
        due("p16 a law without room reads none", x.fault(), NONE);
    }

    /** Promise 17: "Which CLAUSE of the latest orders() could not be. NONE." */
    private static void stops() {
        AnswerDays x = new AnswerDays();
        Check.orders(x, "pass");
        due("p17 all could be", x.stopped(), NONE);
        Check.orders(x, "wind 4");
        due("p17 the first", x.stopped(), 0);
        Check.law(x, "x");
        x.row();
        x.wind(9, 9);
        due("p17 other calls do not matter", x.stopped(), 0);
        Check.orders(x, "pass;".repeat(11) + "wind 4");
        due("p17 the last", x.stopped(), 11);
        Check.orders(x, "pass if 1 = 2");
        due("p17 none was run", x.stopped(), NONE);
        Check.orders(x, "pass;wind 4");
        x.orders();
        due("p17 of an empty text none", x.stopped(), NONE);
    }

    /** Promise 18: "A LAW is in FORCE (NONE: none): which was. -2." */
    private static void forced() {
        T.refusedBeyond("p18 force() of two", SOME, AnswerDays::force, NONE, 1, -2);
        T.refusedBeyond("p18 force() of six", CROWDED, AnswerDays::force, NONE, 5, -2);
        T.refused("p18 force() of none", AnswerDays::new, x -> x.force(0), -2);
        T.refused("p18 force() of none", AnswerDays::new, x -> x.force(-2), -2);
        T.granted("p18 force() of NONE at first", AnswerDays::new, x -> x.force(NONE), NONE);
        T.granted("p18 force() as it is", SOME, x -> x.force(0), 0);
        due("p18 undone as before", Lands.after(Lands.some(), x -> x.force(1)).count(5), 4);
    }

    /** Promise 19: "who ANSWERS (6: nobody). -1 (the PLACE); -2; -3." */
    private static void committed() {
        T.refusedBeyond("p19 commit() of a deed", SOME, (x, deed) -> x.commit(deed, 0, 0), 0, 2, -2);
        T.refusedBeyond("p19 commit() by a doer", SOME, (x, doer) -> x.commit(0, doer, 0), 0, 2, -2);
        T.refusedBeyond("p19 commit() at a place", SOME, (x, place) -> x.commit(0, 0, place), 0, 3, -1);
        T.refused("p19 commit() that is barred", SOME, x -> x.commit(2, 0, 3), -3);
        T.refused("p19 commit() without people", () -> Lands.of(0, 1), x -> x.commit(0, 0, 0), -2);
        T.refused("p19 commit() without deeds", () -> Lands.of(1, 0), x -> x.commit(0, 0, 0), -2);
        T.granted("p19 commit() for which nobody answers", () -> Lands.of(1, 1, "answers 9"), x -> x.commit(0, 0, 0), 6);
        for (int who = 0; who < 6; who++) {
            int one = who;
            T.granted("p19 commit() for which one answers", () -> Lands.of(6, 1, "answers " + one), x -> x.commit(0, 0, 0), one);
        }
    }

    /** Promise 20: "To PAY 1 .. 99: the one's BALANCE then and 9999. -1 (how much; itself); -2; -3." */
    private static void paid() {
        T.refusedBeyond("p20 pay() of n", SOME, (x, n) -> x.pay(0, 1, n), 1, 99, -1);
        T.refusedBeyond("p20 pay() by one", SOME, (x, one) -> x.pay(one, 1, 5), 0, 2, -2);
        T.refusedBeyond("p20 pay() to another", SOME, (x, other) -> x.pay(1, other, 5), 0, 2, -2);
        for (int one = 0; one < 3; one++) {
            int itself = one;
            T.refused("p20 pay() to itself", SOME, x -> x.pay(itself, itself, 5), -1);
        }
        due("p20 from the least", Lands.richest().pay(1, 2, 1), 1);
        due("p20 to the most", Lands.after(Lands.richest(), x -> x.pay(2, 0, 1)).pay(0, 2, 1), 19998);
        due("p20 to 0", Lands.after(Lands.of(2, 0), x -> x.pay(0, 1, 9)).pay(1, 0, 9), 9999);
    }

    /** Promises 21, 22: "what it was. -1; -3 (it is so already)", "its number. -3" */
    private static void woundAndPassed() {
        T.refusedBeyond("p21 wind() at a place", SOME, (x, place) -> x.wind(place, 5), 0, 3, -1);
        T.refusedBeyond("p21 wind() to a clock", SOME, (x, clock) -> x.wind(1, clock), 0, 6, -1);
        T.refused("p21 wind() as it is", SOME, x -> x.wind(1, 3), -3);
        T.refused("p21 wind() as it is at first", SOME, x -> x.wind(0, 0), -3);
        T.granted("p21 wind() from what it was", SOME, x -> x.wind(1, 0), 3);
        T.granted("p22 pass()", SOME, AnswerDays::pass, 502);
        T.granted("p22 pass() to the last day", () -> Lands.after(new AnswerDays(), x -> x.terms(0, 998)), AnswerDays::pass, 999);
        T.refused("p22 pass() on the last day", () -> Lands.after(Lands.some(), x -> x.terms(0, 999)), AnswerDays::pass, -3);
    }

    /** Promise 23: "The latest .. (by ORDERS, too; 16 are kept) is undone: 0 .. 3. -3 there is none" */
    private static void undone() {
        for (int many = 0; many <= 18; many++) {
            AnswerDays x = new AnswerDays();
            for (int i = 0; i < many; i++) {
                x.pass();
            }
            int kept = Math.min(many, 16);
            due("p23 kept of " + many, x.count(5), kept);
            for (int i = 1; i <= kept; i++) {
                due("p23 undone of " + many, x.undo(), 3);
                due("p23 undone of " + many, x.count(13), many - i);
                due("p23 left of " + many, x.count(5), kept - i);
            }
            due("p23 none is left of " + many, x.undo(), -3);
            due("p23 too old ones stay of " + many, x.count(13), many - kept);
        }
        T.refused("p23 undo() of none", () -> Lands.after(Lands.some(), x -> x.terms(0, 5)), AnswerDays::undo, -3);
        // Sixteen undone and done again, more than once around.
        AnswerDays x = Lands.of(2, 0);
        for (int round = 0; round < 5; round++) {
            for (int i = 0; i < 11; i++) {
                x.pay(0, 1, 1 + i);
            }
            for (int i = 0; i < 5; i++) {
                due("p23 round " + round, x.undo(), 1);
            }
            due("p23 round " + round, x.of(0, 1), 21 * (round + 1));
            due("p23 round " + round, x.count(5), Math.min(6 * (round + 1), 11));
        }
        // Of twenty at several places and by several people the latest sixteen.
        AnswerDays turns = Lands.of(4, 0);
        for (int i = 0; i < 10; i++) {
            turns.wind(i % 4, 1 + i / 4);
            turns.pay(i % 3, 3, 1 + i);
        }
        for (int i = 9; i >= 2; i--) {
            due("p23 of twenty", turns.undo(), 1);
            due("p23 of twenty: its balance", turns.of(i % 3, 1), paidAhead(i));
            due("p23 of twenty", turns.undo(), 2);
            due("p23 of twenty: its clock", turns.place(i % 4, 0), i / 4);
        }
        due("p23 of twenty no more", turns.undo(), -3);
        due("p23 of twenty: what stays", turns.of(0, 1), 1);
        due("p23 of twenty: what stays", turns.of(3, 1), -3);
        AnswerDays y = Lands.of(2, 1, "answers 1 - doer;owes 3");
        Check.orders(y, "do 0 by 0 at 0;pay 1 to 0;wind 3;pass");
        int[] kinds = {3, 2, 1, 0};
        for (int kind : kinds) {
            due("p23 by orders", y.undo(), kind);
        }
        due("p23 by orders", y.of(0, 1), 0);
        due("p23 what is not run can't be undone", Lands.after(Lands.with(Lands.of(1, 1), "pass if 1 = 2"), AnswerDays::orders).undo(), -3);
        due("p23 years can't be undone", Lands.after(Lands.of(1, 1), z -> z.years(1, 9)).undo(), -3);
        // A law that is another one then does not matter: what was moved comes back.
        AnswerDays z = Lands.of(2, 1, "answers 1;owes 30");
        z.commit(0, 0, 0);
        z.force(NONE);
        due("p23 by another law", z.undo(), 0);
        due("p23 by another law", z.of(0, 1), 0);
    }

    private static int paidAhead(int i) {
        int sum = 0;
        for (int j = i - 3; j >= 0; j -= 3) {
            sum += 1 + j;
        }
        return sum;
    }

    /** Promise 23: "nothing that was ahead of a person(), terms() that was not REFUSED can be undone" */
    private static void undoneNotAheadOf() {
        Map<String, ToLongFunction<AnswerDays>> clearing = new LinkedHashMap<>();
        clearing.put("person()", x -> x.person(0));
        clearing.put("terms(0)", x -> x.terms(0, 5));
        clearing.put("terms(1)", x -> x.terms(1, 5));
        clearing.put("terms(2) as it is", x -> x.terms(2, 6));
        clearing.put("back()", x -> x.back(0));
        clearing.forEach((call, made) -> {
            due("p23 ahead of " + call, Lands.after(Lands.some(), made).count(5), 0);
            T.refused("p23 ahead of " + call, () -> Lands.after(Lands.some(), made), AnswerDays::undo, -3);
            AnswerDays x = Lands.after(Lands.some(), made);
            x.pass();
            due("p23 behind " + call, x.undo(), 3);
            due("p23 behind " + call + " no more", x.undo(), -3);
        });
        Map<String, ToLongFunction<AnswerDays>> others = new LinkedHashMap<>();
        others.put("person() refused", x -> x.person(10));
        others.put("terms() refused", x -> x.terms(1, 11));
        others.put("terms() of none such refused", x -> x.terms(3, 0));
        others.put("back() refused", x -> x.back(1));
        others.put("deed()", x -> x.deed(1, 1));
        others.put("road()", x -> x.road(1, 3, 1));
        others.put("row()", AnswerDays::row);
        others.put("law()", AnswerDays::law);
        others.put("force()", x -> x.force(1));
        others.put("seen()", x -> x.seen(1, 1, 1, 1));
        others.put("forget()", AnswerDays::forget);
        others.put("years()", x -> x.years(1, 60));
        others.put("image()", x -> x.image(1));
        others.put("commit() refused", x -> x.commit(0, 0, 4));
        others.put("pay() refused", x -> x.pay(0, 1, 100));
        others.put("wind() refused", x -> x.wind(1, 3));
        others.forEach((call, made) -> {
            AnswerDays x = Lands.after(Lands.some(), made);
            due("p23 not by " + call, x.count(5), 4);
            int[] kinds = {3, 0, 2, 1};
            for (int kind : kinds) {
                due("p23 not by " + call, x.undo(), kind);
            }
            due("p23 not by " + call + ": no more", x.undo(), -3);
        });
        T.refused("p23 ahead of the 6th person", () -> Lands.after(Lands.after(Lands.of(5, 1), AnswerDays::pass), x -> x.person(1)), AnswerDays::undo, -3);
    }

    /** Promise 24: "n DAYS 0 .. 99 on. NONE." */
    private static void whoOnDays() {
        T.noneBeyond("p24 who() on a day", SOME, (x, n) -> x.who(0, 0, 0, n), 0, 99);
        AnswerDays x = Lands.of(2, 1, "answers 1 if date = 99");
        due("p24 who() on the last day", x.who(0, 0, 0, 99), 1);
        due("p24 who() on the day ahead", x.who(0, 0, 0, 98), 0);
        due("p24 who() today", Lands.of(2, 1, "answers 1 if date = 0").who(0, 0, 0, 0), 1);
    }

    /** Promise 25: "In how many DAYS 0 .. 60 first it is told 0 .. 7 for WHO ANSWERS. NONE." */
    private static void firstDays() {
        Supplier<AnswerDays> each = () -> Lands.of(6, 1, "answers date % 8;bars if date % 8 = 7");
        T.noneBeyond("p25 first() of who", each, (x, who) -> x.first(0, 0, 0, who), 0, 7);
        for (int who = 0; who <= 7; who++) {
            due("p25 first day of " + who, each.get().first(0, 0, 0, who), who);
        }
        for (int day = 0; day <= 62; day++) {
            AnswerDays x = Lands.of(2, 1, "answers 1 if date = " + day);
            due("p25 on day " + day, x.first(0, 0, 0, 1), day <= 60 ? day : NONE);
            AnswerDays y = Lands.of(2, 1, "bars if date = " + day);
            due("p25 barred on day " + day, y.first(0, 0, 0, 7), day <= 60 ? day : NONE);
        }
        T.asked("p25 one that is not there", SOME, x -> x.first(0, 0, 0, 5), NONE);
    }

    /** Promise 27: "n DAYS 0 .. 99 on: how many (i NONE), the i-th as ten times the DEED and the doer. NONE." */
    private static void loopholesOnDays() {
        Supplier<AnswerDays> four = () -> Lands.of(2, 2, "answers 9");
        T.noneBeyond("p27 loopholes() on a day", four, (x, n) -> x.loopholes(0, n, NONE), 0, 99);
        T.noneBeyond("p27 loopholes() on a day", four, (x, n) -> x.loopholes(0, n, 3), 0, 99);
        T.noneBeyond("p27 loopholes() at a place", four, (x, place) -> x.loopholes(place, 0, 0), 0, 3);
        T.noneBeyond("p27 loopholes(), the i-th", four, (x, i) -> x.loopholes(0, 0, i), NONE, 3);
        due("p27 how many", four.get().loopholes(0, 0, NONE), 4);
        due("p27 the last", four.get().loopholes(0, 0, 3), 11);
        AnswerDays x = Lands.of(1, 1, "answers 9 if date = 99");
        due("p27 on the last day", x.loopholes(0, 99, NONE), 1);
        due("p27 on the day ahead", x.loopholes(0, 98, NONE), 0);
    }

    /** Promise 28: "another one (or it itself) .. the last DAY on (what 0; no DEEDS: 0), that of DEED d (1 + d). NONE (it can't be)." */
    private static void plans() {
        due("p28 no deeds", Lands.of(1, 0).plan(0, 0, 0, 0), 0);
        due("p28 no deeds: the first", Lands.of(1, 0).plan(0, 0, 0, 1), NONE);
        due("p28 it itself", Lands.of(1, 1, "answers 9 if date = 4").plan(0, 0, 0, 0), 4);
        due("p28 another one", Lands.of(2, 1, "answers 1;answers 9 if date = 4").plan(0, 0, 1, 0), 4);
        T.asked("p28 it can't be", () -> Lands.of(2, 2), x -> x.plan(0, 0, 0, 0), NONE);
        T.asked("p28 it can't be", () -> Lands.of(2, 2), x -> x.plan(0, 0, 0, 1), NONE);
        T.asked("p28 it can't be, barred", () -> Lands.of(2, 2, "bars"), x -> x.plan(0, 0, 1, 0), NONE);
        T.asked("p28 it can't be, one of them barred", () -> Lands.of(2, 2, "bars if kind = 1"), x -> x.plan(0, 0, 1, 1), NONE);
    }

    /** Promise 29: "A WALK of n DAYS 1 .. 20: .. the PLACE on DAY k on (1 + k). NONE." */
    private static void walks() {
        T.noneBeyond("p29 walk() of n", SOME, (x, n) -> x.walk(0, 0, 0, n, 0), 1, 20);
        T.noneBeyond("p29 walk() of n", SOME, (x, n) -> x.walk(0, 0, 0, n, 1), 1, 20);
        T.noneBeyond("p29 walk() from a place", SOME, (x, from) -> x.walk(0, 0, from, 20, 20), 0, 3);
    }

    /** Promises 31, 32: "how often there was. -1; -2 (the DEED; who 0 .. 5 that is not there); -5", "SEEN is nothing then" */
    private static void seenAndForgotten() {
        T.refusedBeyond("p31 seen() on a day", SOME, (x, day) -> x.seen(day, 0, 0, 0), 0, 999, -1);
        T.refusedBeyond("p31 seen() at a place", SOME, (x, place) -> x.seen(0, 0, place, 0), 0, 3, -1);
        T.refusedBeyond("p31 seen() of a deed", SOME, (x, deed) -> x.seen(0, deed, 0, 0), 0, 2, -2);
        T.refusedBeyond("p31 seen() of six deeds", Lands::crowdedButSeen, (x, deed) -> x.seen(0, deed, 0, 0), 0, 5, -2);
        for (int who : new int[] {-1, 7, LOW, HIGH}) {
            T.refused("p31 seen() by " + who, SOME, x -> x.seen(0, 0, 0, who), -1);
        }
        for (int who = 3; who <= 5; who++) {
            int one = who;
            T.refused("p31 seen() by " + who + " that is not there", SOME, x -> x.seen(0, 0, 0, one), -2);
        }
        T.granted("p31 seen() by nobody", SOME, x -> x.seen(0, 0, 0, 6), 3);
        T.refused("p31 seen() without room", CROWDED, x -> x.seen(0, 0, 0, 6), -5);
        due("p32 as many as there may be", Lands.crowded().forget(), 6);
        AnswerDays x = Lands.crowded();
        x.person(-1);
        x.forget();
        due("p32 nothing then", x.forget(), 0);
        due("p32 status() stays", x.status(), -1);
        due("p32 undone as before", x.count(5), 16);
        due("p32 doers: all again", x.doers(), 63);
    }

    /** Promise 36: "FEW, k 1 .. 20, n 0 .. 99. NONE." */
    private static void fewOf() {
        T.noneBeyond("p36 few() of k", SOME, (x, k) -> x.few(k, 5), 1, 20);
        T.noneBeyond("p36 few() of n", SOME, (x, n) -> x.few(5, n), 0, 99);
        T.noneBeyond("p36 few() of n", SOME, (x, n) -> x.few(20, n), 0, 99);
        T.noneBeyond("p36 few() of k", SOME, (x, k) -> x.few(k, 99), 1, 20);
        T.noneBeyond("p36 few() of k, none", SOME, (x, k) -> x.few(k, 0), 1, 20);
    }

    /** Promise 37: "NONE (no such LAW, DEED, PERSON, PLACE)" */
    private static void compared() {
        T.noneBeyond("p37 compare() by a law of two", SOME, (x, law) -> x.compare(law, 0, 0, 0), NONE, 1);
        T.noneBeyond("p37 compare() by a law of six", CROWDED, (x, law) -> x.compare(law, 0, 0, 0), NONE, 5);
        T.noneBeyond("p37 compare() of a deed", SOME, (x, deed) -> x.compare(1, deed, 0, 0), 0, 2);
        T.noneBeyond("p37 compare() of a doer", SOME, (x, doer) -> x.compare(1, 0, doer, 0), 0, 2);
        T.noneBeyond("p37 compare() at a place", SOME, (x, place) -> x.compare(1, 0, 0, place), 0, 3);
        T.asked("p37 compare() without laws", () -> Lands.of(1, 1), x -> x.compare(0, 0, 0, 0), NONE);
        T.asked("p37 compare() with none", () -> Lands.of(1, 1), x -> x.compare(NONE, 0, 0, 0), 0);
    }

    /** Promises 38, 39: "kept as the latest", "Behind the latest YEARS the BALANCE of a PERSON. NOTHING." */
    private static void drawn() {
        T.askedBeyond("p39 drawn() of three", SOME, AnswerDays::drawn, 0, 2, NOTHING);
        Supplier<AnswerDays> six = () -> Lands.after(Lands.crowded(), x -> x.years(5, 5));
        T.askedBeyond("p39 drawn() of six", six, AnswerDays::drawn, 0, 5, NOTHING);
        for (int person : new int[] {-1, 0, 1, 5, 6, LOW, HIGH}) {
            T.asked("p39 drawn() ahead of any", CROWDED, x -> x.drawn(person), NOTHING);
        }
        AnswerDays x = Lands.of(2, 1, "answers 1 - doer;owes 99");
        x.years(0, 60);
        int one = x.drawn(0);
        due("p39 all are quits together", one + x.drawn(1), 0);
        x.years(0, 0);
        x.years(-1, 5);
        due("p38 a refused one is not kept", x.drawn(0), one);
        x.pay(0, 1, 50);
        due("p39 as they were behind them", x.drawn(0), one);
        x.years(0, 60);
        due("p39 the latest", x.drawn(0), one + 50);
        AnswerDays y = Lands.richest();
        y.years(3, 60);
        due("p39 the most", y.drawn(0), 9999);
        due("p39 the least", y.drawn(1), -9999);
        due("p39 nothing", y.drawn(2), 0);
    }

    /** Promise 42: each number that is told, none and as many as there may be; "NONE for others". */
    private static void counted() {
        for (int what : new int[] {-1, -2, 16, 17, 100, LOW, HIGH}) {
            T.asked("p42 count(" + what + ")", CROWDED, x -> x.count(what), NONE);
        }
        int[] most = {6, 1, 6, 6, 6, 16, 0, 0, 0, 0, 0, 0, 5, 994, 1, 0};
        for (int what = 0; what <= 15; what++) {
            int number = what;
            T.asked("p42 count(" + what + ")", CROWDED, x -> x.count(number), most[what]);
        }
        due("p42 all have a balance of 0", Lands.of(6, 0).count(1), 6);
        due("p42 none has a balance of 0", Lands.after(Lands.of(2, 0), x -> x.pay(0, 1, 1)).count(1), 0);
        due("p42 bytes of the tape", Lands.with(new AnswerDays(), "x".repeat(400)).count(6), 400);
        AnswerDays x = Lands.crowded();
        Lands.after(x, y -> y.back(0));
        for (int i = 1; i <= 3; i++) {
            x.person(10);
            x.force(6);
            x.undo();
            x.deed(0, 1);
            x.row();
            for (int what = 7; what <= 11; what++) {
                due("p42 refused " + i + " times", x.count(what), i);
            }
        }
        x.back(1);
        for (int what = 7; what <= 11; what++) {
            due("p42 images do not keep that", x.count(what), 3);
        }
    }

    private static Map<String, ToLongFunction<AnswerDays>> good() {
        Map<String, ToLongFunction<AnswerDays>> calls = new LinkedHashMap<>();
        calls.put("person()", x -> x.person(1));
        calls.put("deed()", x -> x.deed(1, 1));
        calls.put("road()", x -> x.road(1, 2, 1));
        calls.put("terms()", x -> x.terms(0, 1));
        calls.put("row()", AnswerDays::row);
        calls.put("law()", x -> Lands.with(Lands.after(x, y -> y.end(0)), "bars").law());
        calls.put("orders()", AnswerDays::orders);
        calls.put("force()", x -> x.force(1));
        calls.put("commit()", x -> x.commit(0, 0, 0));
        calls.put("pay()", x -> x.pay(0, 1, 1));
        calls.put("wind()", x -> x.wind(0, 1));
        calls.put("pass()", AnswerDays::pass);
        calls.put("undo()", AnswerDays::undo);
        calls.put("seen()", x -> x.seen(0, 0, 0, 0));
        calls.put("years()", x -> x.years(1, 1));
        calls.put("image()", x -> x.image(1));
        calls.put("back()", x -> x.back(0));
        return calls;
    }

    /** Promise 43: "What the latest call of .. was REFUSED by; 0 if it was not, or ahead of any." */
    private static void statusOfCalls() {
        due("p43 ahead of any", new AnswerDays().status(), 0);
        for (int by : new int[] {-1, -2, -3, -5, -6}) {
            good().forEach((call, made) -> {
                AnswerDays x = Lands.some();
                refuse(x, by);
                due("p43 refused by " + by, x.status(), by);
                due("p43 " + call + " is not refused", made.applyAsLong(x) >= 0 ? 1 : 0, 1);
                due("p43 behind " + call, x.status(), 0);
            });
        }
        AnswerDays y = Lands.of(1, 1);
        y.person(-1);
        y.force(5);
        due("p43 the latest", y.status(), -2);
        y.undo();
        due("p43 the latest", y.status(), -3);
        y.person(-1);
        due("p43 the latest", y.status(), -1);
        y.force(NONE);
        due("p43 NONE was in force: not refused", y.status(), 0);
    }

    private static void refuse(AnswerDays x, int by) {
        switch (by) {
            case -1: x.person(-1); break;
            case -2: x.force(9); break;
            case -3: x.wind(1, 3); break;
            case -5:
                // Two have been seen; room again behind it.
                for (int i = 0; i < 5; i++) {
                    x.seen(0, 0, 0, 0);
                }
                x.forget();
                break;
            default:
                Lands.with(Lands.after(x, y -> y.end(0)), "x").law();
                Lands.with(x, "pass");
        }
    }

    /** Promise 43: calls that are not named leave it, answered or not. */
    private static void statusOfOthers() {
        Map<String, ToLongFunction<AnswerDays>> others = new LinkedHashMap<>();
        for (int bad = 0; bad < 2; bad++) {
            int n = bad * 99;
            others.put("of() " + n, x -> x.of(n, 0));
            others.put("at() " + n, x -> x.at(n, 0));
            others.put("place() " + n, x -> x.place(n, 0));
            others.put("asks() " + n, x -> x.asks(n, 0, 0, 0));
            others.put("end() " + n, x -> x.end(n));
            others.put("who() " + n, x -> x.who(n, 0, 0, 0));
            others.put("first() " + n, x -> x.first(n, 0, 0, 0));
            others.put("period() " + n, x -> x.period(n, 0, 0));
            others.put("loopholes() " + n, x -> x.loopholes(n, 0, NONE));
            others.put("plan() " + n, x -> x.plan(n, 0, 0, 0));
            others.put("walk() " + n, x -> x.walk(n, 0, 0, 1, 0));
            others.put("look() " + n, x -> x.look(n, 0, 0));
            others.put("fair() " + n, x -> x.fair(n, 0, 0));
            others.put("few() " + n, x -> x.few(n + 1, 0));
            others.put("compare() " + n, x -> x.compare(n, 0, 0, 0));
            others.put("drawn() " + n, x -> x.drawn(n));
            others.put("count() " + n, x -> x.count(n));
        }
        others.put("feed()", x -> x.feed(0, 0, 0, 0, 0));
        others.put("feed() beyond 400", x -> Lands.with(Lands.after(x, y -> y.end(0)), "x".repeat(400)).feed(0, 0, 0, 0, 0));
        others.put("blots()", AnswerDays::blots);
        others.put("fault()", AnswerDays::fault);
        others.put("stopped()", AnswerDays::stopped);
        others.put("quits()", AnswerDays::quits);
        others.put("forget()", AnswerDays::forget);
        others.put("doers()", AnswerDays::doers);
        others.put("status()", AnswerDays::status);
        for (int by : new int[] {-1, -2, -3, -5, -6}) {
            others.forEach((call, made) -> {
                AnswerDays x = Lands.some();
                refuse(x, by);
                int many = x.count(7) + x.count(8) + x.count(9) + x.count(10) + x.count(11);
                made.applyAsLong(x);
                due("p43 " + call + " leaves it", x.status(), by);
                due("p42 " + call + " is not refused", x.count(7) + x.count(8) + x.count(9) + x.count(10) + x.count(11), many);
            });
        }
        others.forEach((call, made) -> {
            AnswerDays x = Lands.some();
            made.applyAsLong(x);
            due("p43 " + call + " leaves 0", x.status(), 0);
        });
    }
}
