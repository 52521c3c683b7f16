import java.util.function.Supplier;

/** The sentences of 'Terms' I, III and IV that name a bound, one behind the other: a test of its own for each. */
public final class BoundsOfTermsTest {
    private static final int NONE = AnswerDays.NONE;
    private static final int NOTHING = AnswerDays.NOTHING;

    private static final Check C = new Check("BoundsOfTermsTest");
    private static final Twins T = new Twins(C);

    public static void main(String[] args) {
        lands();
        calls512();
        people6();
        signs();
        balances();
        places();
        clocks();
        roads();
        deeds6();
        kindsAndWorths();
        seen6();
        seenOnDays();
        seenWho();
        terms();
        dates();
        refusedInOrder();
        C.close();
    }

    private static void due(String call, long got, long want) {
        C.due(call, got, want);
    }

    /** What the other tests build on is there. */
    private static void lands() {
        AnswerDays x = Lands.some();
        int[] some = {3, 1, 3, 2, 2, 4, 11};
        for (int what = 0; what < some.length; what++) {
            due("some: count(" + what + ")", x.count(what), some[what]);
        }
        due("some: fault()", x.fault(), 5);
        due("some: stopped()", x.stopped(), 1);
        due("some: blots()", x.blots(), 1);
        due("some: status()", x.status(), 0);
        due("some: drawn()", x.drawn(0) != NOTHING ? 1 : 0, 1);
        AnswerDays y = Lands.crowded();
        int[] crowded = {6, 1, 6, 6, 6, 16, 0};
        for (int what = 0; what < crowded.length; what++) {
            due("crowded: count(" + what + ")", y.count(what), crowded[what]);
        }
        due("crowded: nothing was refused", y.count(7) + y.count(8) + y.count(9) + y.count(10) + y.count(11), 0);
    }

    /** "An object is used for at most 512 calls after it has been made" */
    private static void calls512() {
        AnswerDays x = new AnswerDays();
        for (int i = 1; i <= 510; i++) {
            due("512 calls: pass() " + i, x.pass(), i);
        }
        due("512 calls: the 511th", x.count(5), 16);
        due("512 calls: the 512th", x.undo(), 3);
        AnswerDays y = new AnswerDays();
        for (int i = 1; i <= 511; i++) {
            y.person(-1);
        }
        due("512 calls: as many refused ones are counted", y.count(7), 511);
    }

    /** "PEOPLE 0 .. 5 (6 at most)" */
    private static void people6() {
        AnswerDays x = new AnswerDays();
        due("6 people: none at first", x.count(0), 0);
        due("6 people: none is there", x.of(0, 0), NOTHING);
        for (int i = 0; i < 6; i++) {
            due("6 people: not yet there", x.of(i, 0), NOTHING);
            due("6 people: its number", x.person(9 - i), i);
            due("6 people: how many", x.count(0), i + 1);
            due("6 people: its sign", x.of(i, 0), 9 - i);
        }
        due("6 people: the first one's sign", x.of(0, 0), 9);
        due("6 people: no 7th is there", x.of(6, 0), NOTHING);
        T.refused("6 people: a 7th", Lands::crowded, y -> y.person(0), -5);
        T.granted("6 people: the 6th", () -> Lands.of(5, 0), y -> y.person(0), 5);
    }

    /** "a SIGN 0 .. 9" */
    private static void signs() {
        T.refusedBeyond("a sign 0 .. 9: person()", Lands::some, AnswerDays::person, 0, 9, -1);
        for (int sign = 0; sign <= 9; sign++) {
            AnswerDays x = new AnswerDays();
            x.person(sign);
            due("a sign 0 .. 9", x.of(0, 0), sign);
        }
    }

    /** "a BALANCE -9999 .. 9999 (0 at first)" */
    private static void balances() {
        due("a balance: 0 at first", Lands.of(1, 0).of(0, 1), 0);
        due("a balance: at its most", Lands.richest().of(0, 1), 9999);
        due("a balance: at its least", Lands.richest().of(1, 1), -9999);
        T.refused("a balance: beyond 9999 by pay()", Lands::richest, x -> x.pay(0, 2, 1), -3);
        T.refused("a balance: below -9999 by pay()", Lands::richest, x -> x.pay(2, 1, 1), -3);
        T.refused("a balance: either by pay()", Lands::richest, x -> x.pay(0, 1, 99), -3);
        T.granted("a balance: away from its bounds by pay()", Lands::richest, x -> x.pay(1, 0, 99), 99);
        T.granted("a balance: to 9999 by pay()", () -> Lands.after(Lands.richest(), x -> x.pay(1, 0, 99)), x -> x.pay(0, 1, 99), 19998);
        T.refused("a balance: one too much by pay()", () -> Lands.after(Lands.richest(), x -> x.pay(1, 0, 98)), x -> x.pay(0, 1, 99), -3);
        for (int owed : new int[] {1, 99}) {
            Supplier<AnswerDays> answersTwo = () -> Lands.byLaw(Lands.richest(), "answers 2;owes " + owed);
            Supplier<AnswerDays> answersOne = () -> Lands.byLaw(Lands.richest(), "answers 1;owes " + owed);
            T.refused("a balance: the doer's beyond 9999 by commit()", answersTwo, x -> x.commit(0, 0, 0), -3);
            T.refused("a balance: below -9999 by commit()", answersOne, x -> x.commit(0, 2, 0), -3);
            T.granted("a balance: the doer's from -9999", answersTwo, x -> x.commit(0, 1, 0), 2);
            T.granted("a balance: by nothing but its own", answersOne, x -> x.commit(0, 1, 0), 1);
            AnswerDays near = Lands.byLaw(Lands.after(Lands.richest(), x -> x.pay(1, 0, owed)), "answers 1;owes " + owed);
            due("a balance: just to its bounds by commit()", near.commit(0, 0, 0), 1);
            due("a balance: at its most by commit()", near.of(0, 1), 9999);
            due("a balance: at its least by commit()", near.of(1, 1), -9999);
            Supplier<AnswerDays> nearer = () -> Lands.byLaw(Lands.after(Lands.richest(), x -> x.pay(1, 0, owed)), "answers 1;owes " + owed + " + 1");
            if (owed < 99) {
                T.refused("a balance: one too much by commit()", nearer, x -> x.commit(0, 0, 0), -3);
            }
        }
        T.granted("a balance: nothing owed at its bounds", () -> Lands.byLaw(Lands.richest(), "answers 1;owes 0"), x -> x.commit(0, 0, 0), 1);
        T.granted("a balance: nobody answers at its bounds", () -> Lands.byLaw(Lands.richest(), "answers 9;owes 5"), x -> x.commit(0, 0, 0), 6);
    }

    /** "PLACES 0 .. 3" */
    private static void places() {
        T.noneBeyond("places 0 .. 3: place()", Lands::some, (x, p) -> x.place(p, 0), 0, 3);
        T.noneBeyond("places 0 .. 3: asks()", Lands::some, (x, p) -> x.asks(0, 0, p, 0), 0, 3);
        T.noneBeyond("places 0 .. 3: who()", Lands::some, (x, p) -> x.who(0, 0, p, 0), 0, 3);
        T.noneBeyond("places 0 .. 3: first()", Lands::some, (x, p) -> x.first(0, 0, p, 1), 0, 3);
        T.noneBeyond("places 0 .. 3: period()", Lands::some, (x, p) -> x.period(0, 0, p), 0, 3);
        T.noneBeyond("places 0 .. 3: loopholes()", Lands::some, (x, p) -> x.loopholes(p, 0, NONE), 0, 3);
        T.noneBeyond("places 0 .. 3: plan()", () -> Lands.of(3, 3, "answers 2"), (x, p) -> x.plan(0, p, 1, 0), 0, 3);
        T.noneBeyond("places 0 .. 3: walk()", Lands::some, (x, p) -> x.walk(0, 0, p, 5, 0), 0, 3);
        T.noneBeyond("places 0 .. 3: look()", () -> Lands.after(Lands.some(), AnswerDays::forget), (x, p) -> x.look(0, p, 0), 0, 3);
        T.noneBeyond("places 0 .. 3: fair()", Lands::some, (x, p) -> x.fair(0, p, 0), 0, 3);
        T.noneBeyond("places 0 .. 3: compare()", Lands::some, (x, p) -> x.compare(1, 0, 0, p), 0, 3);
        T.refusedBeyond("places 0 .. 3: road()", Lands::some, (x, p) -> x.road(p, 1, 0), 0, 3, -1);
        T.refusedBeyond("places 0 .. 3: road()", Lands::some, (x, p) -> x.road(2, p, 0), 0, 3, -1);
        T.refusedBeyond("places 0 .. 3: commit()", Lands::some, (x, p) -> x.commit(0, 0, p), 0, 3, -1);
        T.refusedBeyond("places 0 .. 3: wind()", Lands::some, (x, p) -> x.wind(p, 6), 0, 3, -1);
        T.refusedBeyond("places 0 .. 3: seen()", Lands::some, (x, p) -> x.seen(0, 0, p, 0), 0, 3, -1);
    }

    /** "a CLOCK 0 .. 6 (0 at first)" */
    private static void clocks() {
        for (int place = 0; place < 4; place++) {
            due("a clock: 0 at first", new AnswerDays().place(place, 0), 0);
            for (int clock = 1; clock <= 6; clock++) {
                AnswerDays x = new AnswerDays();
                due("a clock: what it was", x.wind(place, clock), 0);
                due("a clock: it is so", x.place(place, 0), clock);
                due("a clock: back to 0", x.wind(place, 0), clock);
            }
        }
        T.refusedBeyond("a clock 0 .. 6: wind()", Lands::some, (x, clock) -> x.wind(1, clock), 0, 6, -1);
    }

    /** "ROADS between two of them (none at first)" */
    private static void roads() {
        for (int one = 0; one < 4; one++) {
            due("roads: none at first", new AnswerDays().place(one, 2), 0);
            for (int other = 0; other < 4; other++) {
                if (one != other) {
                    AnswerDays x = new AnswerDays();
                    due("roads: was not there", x.road(one, other, 1), 0);
                    due("roads: from the one", x.place(one, 2), 1 << other);
                    due("roads: from the other", x.place(other, 2), 1 << one);
                    due("roads: was there", x.road(other, one, 0), 1);
                    due("roads: none again", x.place(one, 2) + x.place(other, 2), 0);
                }
            }
            int itself = one;
            T.refused("roads: to itself", Lands::some, x -> x.road(itself, itself, 1), -1);
            T.refused("roads: none to itself", Lands::some, x -> x.road(itself, itself, 0), -1);
        }
        AnswerDays x = new AnswerDays();
        for (int one = 0; one < 4; one++) {
            for (int other = 0; other < one; other++) {
                x.road(one, other, 1);
            }
        }
        for (int one = 0; one < 4; one++) {
            due("roads: to all others", x.place(one, 2), 15 - (1 << one));
        }
        T.refusedBeyond("roads: is 0, 1", Lands::some, (y, is) -> y.road(0, 1, is), 0, 1, -1);
    }

    /** "DEEDS 0 .. 5 (6 at most)" */
    private static void deeds6() {
        AnswerDays x = new AnswerDays();
        due("6 deeds: none at first", x.count(2), 0);
        due("6 deeds: none is there", x.at(0, 0), NONE);
        for (int i = 0; i < 6; i++) {
            due("6 deeds: not yet there", x.at(i, 0), NONE);
            due("6 deeds: its number", x.deed(3 - i / 2, 9 - i), i);
            due("6 deeds: how many", x.count(2), i + 1);
            due("6 deeds: its kind", x.at(i, 0), 3 - i / 2);
            due("6 deeds: its worth", x.at(i, 1), 9 - i);
        }
        due("6 deeds: no 7th is there", x.at(6, 0), NONE);
        T.refused("6 deeds: a 7th", Lands::crowded, y -> y.deed(0, 1), -5);
        T.granted("6 deeds: the 6th", () -> Lands.of(0, 5), y -> y.deed(0, 1), 5);
    }

    /** "a KIND 0 .. 3, WORTH 1 .. 9" */
    private static void kindsAndWorths() {
        T.refusedBeyond("a kind 0 .. 3: deed()", Lands::some, (x, kind) -> x.deed(kind, 5), 0, 3, -1);
        T.refusedBeyond("a worth 1 .. 9: deed()", Lands::some, (x, worth) -> x.deed(2, worth), 1, 9, -1);
        for (int kind = 0; kind <= 3; kind++) {
            for (int worth = 1; worth <= 9; worth += 4) {
                AnswerDays x = new AnswerDays();
                x.deed(kind, worth);
                due("a kind 0 .. 3", x.at(0, 0), kind);
                due("a worth 1 .. 9", x.at(0, 1), worth);
            }
        }
    }

    /** "SEEN, 6 at most" */
    private static void seen6() {
        AnswerDays x = Lands.of(2, 1);
        due("6 seen: none at first", x.count(3), 0);
        for (int i = 1; i <= 6; i++) {
            due("6 seen: how often", x.seen(i, 0, 0, 1), i);
            due("6 seen: how often", x.count(3), i);
        }
        T.refused("6 seen: a 7th", Lands::crowded, y -> y.seen(0, 0, 0, 0), -5);
        due("6 seen: all six stay", x.forget(), 6);
        due("6 seen: none behind forget()", x.count(3), 0);
        due("6 seen: room again", x.seen(0, 0, 0, 6), 1);
        // Each of the six alone rules out one of six people: the last one counts, too.
        AnswerDays y = Lands.of(6, 1, "answers 0;answers 1 if date = doer");
        for (int i = 0; i < 6; i++) {
            due("6 seen: " + i + " have been", y.doers(), 63 & -(1 << i));
            y.seen(i, 0, 0, 0);
        }
        due("6 seen: each rules out one", y.doers(), 0);
    }

    /** "on a DAY 0 .. 999 somebody did a DEED at a PLACE" */
    private static void seenOnDays() {
        T.refusedBeyond("seen on a day 0 .. 999", Lands::some, (x, day) -> x.seen(day, 0, 0, 0), 0, 999, -1);
        for (int day : new int[] {0, 999}) {
            AnswerDays x = Lands.of(2, 1, "answers 1 if date = " + day);
            x.seen(day, 0, 0, 1);
            due("seen on day " + day + ": it was any", x.doers(), 3);
            x.wind(0, 1);
            due("seen on day " + day + ": the date is another one", x.doers(), 2);
        }
        AnswerDays y = Lands.of(2, 1, "answers 1 if date = 1000 + 5");
        y.wind(3, 6);
        y.seen(999, 0, 3, 1);
        due("seen on day 999 by clock 6: date 1005", y.doers(), 3);
    }

    /** "for which a PERSON, or nobody (6), answered" */
    private static void seenWho() {
        T.refusedBeyond("seen by who 0 .. 6", Lands::crowdedButSeen, (x, who) -> x.seen(0, 0, 0, who), 0, 6, -1);
        for (int who = 0; who < 6; who++) {
            int person = who;
            T.granted("seen by one that is there", () -> Lands.of(person + 1, 1), x -> x.seen(0, 0, 0, person), 1);
            T.refused("seen by one that is not there", () -> Lands.of(person, 1), x -> x.seen(0, 0, 0, person), -2);
        }
        T.granted("seen by nobody, without people", () -> Lands.of(0, 1), x -> x.seen(0, 0, 0, 6), 1);
    }

    /** "TERMS: 0 DAY 0 .. 999 (0 at first), 1 WAKES 0 .. 10 (1), 2 MOOD 0 .. 9 (0)" */
    private static void terms() {
        int[] first = {0, 1, 0};
        int[] most = {999, 10, 9};
        for (int what = 0; what < 3; what++) {
            int term = what;
            due("term " + term + " at first", new AnswerDays().count(13 + term), first[term]);
            due("term " + term + " was", new AnswerDays().terms(term, 0), first[term]);
            T.refusedBeyond("term " + term, Lands::some, (x, value) -> x.terms(term, value), 0, most[term], -1);
            AnswerDays x = new AnswerDays();
            x.terms(term, most[term]);
            due("term " + term + " at its most", x.count(13 + term), most[term]);
            due("term " + term + " was at its most", x.terms(term, 0), most[term]);
            due("term " + term + " at its least", x.count(13 + term), 0);
            for (int other = 0; other < 3; other++) {
                if (other != term) {
                    due("term " + other + " stays", x.count(13 + other), first[other]);
                }
            }
        }
        T.refusedBeyond("terms 0 .. 2", Lands::some, (x, what) -> x.terms(what, 0), 0, 2, -1);
    }

    /** "The DATE at a PLACE: DAY and its CLOCK." */
    private static void dates() {
        for (int day : new int[] {0, 6, 7, 999}) {
            for (int clock : new int[] {0, 1, 6}) {
                AnswerDays x = Lands.of(1, 1, "owes date / 100;bars if date = " + (day + clock) % 1000 + " + " + (day + clock) / 1000 * 1000);
                x.terms(0, day);
                x.wind(2, clock);
                due("the date on day " + day + " by clock " + clock, x.place(2, 1), day + clock);
                due("the date elsewhere", x.place(1, 1), day);
                due("the date of a law there", x.asks(0, 0, 2, 1), 1);
                due("the date of a law elsewhere", x.asks(0, 0, 1, 1), clock == 0 ? 1 : 0);
            }
        }
    }

    /** "The first of these in that order." */
    private static void refusedInOrder() {
        T.refused("in order: person() of no sign, no room", Lands::crowded, x -> x.person(10), -1);
        T.refused("in order: deed() of no kind, no room", Lands::crowded, x -> x.deed(4, 1), -1);
        T.refused("in order: deed() of no worth, no room", Lands::crowded, x -> x.deed(0, 0), -1);
        T.refused("in order: commit() of no deed at no place", Lands::some, x -> x.commit(3, 0, 4), -1);
        T.refused("in order: commit() of no doer at no place", Lands::some, x -> x.commit(0, 3, -1), -1);
        T.refused("in order: commit() of no doer, beyond 9999", () -> Lands.byLaw(Lands.richest(), "bars"), x -> x.commit(0, 3, 0), -2);
        T.refused("in order: commit() of no deed, barred", () -> Lands.byLaw(Lands.richest(), "bars"), x -> x.commit(1, 0, 0), -2);
        T.refused("in order: commit() that is barred", () -> Lands.byLaw(Lands.richest(), "bars"), x -> x.commit(0, 0, 0), -3);
        T.refused("in order: pay() of too much by none such", Lands::some, x -> x.pay(3, 0, 100), -1);
        T.refused("in order: pay() of nothing to none such", Lands::some, x -> x.pay(0, 3, 0), -1);
        T.refused("in order: pay() by none such to itself", Lands::some, x -> x.pay(3, 3, 1), -1);
        T.refused("in order: pay() by none such to itself", Lands::some, x -> x.pay(-1, -1, 1), -1);
        T.refused("in order: pay() to none such, beyond 9999", Lands::richest, x -> x.pay(0, 3, 1), -2);
        T.refused("in order: pay() by none such, below -9999", Lands::richest, x -> x.pay(3, 1, 1), -2);
        T.refused("in order: pay() beyond 9999, too much", Lands::richest, x -> x.pay(0, 1, 100), -1);
        T.refused("in order: wind() at no place as it is", Lands::some, x -> x.wind(4, 0), -1);
        T.refused("in order: seen() on no day of no deed", Lands::crowded, x -> x.seen(1000, 6, 0, 0), -1);
        T.refused("in order: seen() at no place, no room", Lands::crowded, x -> x.seen(0, 0, 4, 0), -1);
        T.refused("in order: seen() by no such number of no deed", Lands::some, x -> x.seen(0, 3, 0, 7), -1);
        T.refused("in order: seen() of no deed, no room", Lands::crowded, x -> x.seen(0, 6, 0, 0), -2);
        T.refused("in order: years() of no seed, no people", AnswerDays::new, x -> x.years(-1, 1), -1);
        T.refused("in order: years() of no n, no people", AnswerDays::new, x -> x.years(0, 61), -1);
        T.refused("in order: back() to none such that was not kept", AnswerDays::new, x -> x.back(2), -1);
        Supplier<AnswerDays> wrongText = () -> Lands.with(Lands.crowded(), "owes");
        T.refusedAsReader("in order: law() of a wrong text, no room", wrongText, AnswerDays::law, -5);
        // What can't be read is not run: the order that can't be does not come into it.
        Supplier<AnswerDays> neither = () -> Lands.with(Lands.crowded(), "pass;wind 9;x");
        T.refusedAsReader("in order: orders() of a wrong text with one that can't be", neither, AnswerDays::orders, -6);
        due("in order: none stopped", Lands.after(neither.get(), AnswerDays::orders).stopped(), NONE);
    }
}
