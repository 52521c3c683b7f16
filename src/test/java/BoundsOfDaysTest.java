import java.util.function.Supplier;

/** The sentences of 'Terms' III and IV that name a bound, one behind the other. */
public final class BoundsOfDaysTest {
    private static final int NONE = AnswerDays.NONE;
    private static final int NOTHING = AnswerDays.NOTHING;

    private static final Check C = new Check("BoundsOfDaysTest");
    private static final Twins T = new Twins(C);

    public static void main(String[] args) {
        committed();
        paid();
        wound();
        passed();
        onPaperBeyond999();
        periods();
        loopholes();
        plansOnDays();
        plansFirst();
        walks();
        walksFirst();
        quits();
        doers();
        looks();
        fairClocks();
        fewer();
        compared();
        years();
        yearsAtTheEnd();
        draws();
        rows();
        imagesKeep();
        imagesKeepSeen();
        imagesKeepNumbers();
        imagesKeepNot();
        imagesStay();
        C.close();
    }

    private static void due(String call, long got, long want) {
        C.due(call, got, want);
    }

    /** "if a PERSON ANSWERS that is not the doer, its BALANCE is less by what it OWES, the doer's more by as much" */
    private static void committed() {
        AnswerDays x = Lands.of(3, 1, "answers 1;answers 9 if place = 1;owes 40");
        due("the doer itself", x.commit(0, 1, 0), 1);
        due("nobody", x.commit(0, 1, 1), 6);
        for (int person = 0; person < 3; person++) {
            due("nothing moved", x.of(person, 1), 0);
        }
        due("another one", x.commit(0, 2, 0), 1);
        due("more", x.of(2, 1), 40);
        due("less", x.of(1, 1), -40);
        due("not the third", x.of(0, 1), 0);
        due("all three can be undone", x.count(5), 3);
        due("undone", x.undo(), 0);
        due("undone", x.of(2, 1) - x.of(1, 1), 0);
        due("undone: nothing moved", x.undo() + x.undo(), 0);
        due("none is left", x.count(5), 0);
    }

    /** "To PAY n: the one's BALANCE is n more, the other's n less (none beyond 9999)." */
    private static void paid() {
        for (int n : new int[] {1, 2, 98, 99}) {
            AnswerDays x = Lands.of(3, 0);
            due("pay " + n, x.pay(2, 0, n), 9999 + n);
            due("the one's", x.of(2, 1), n);
            due("the other's", x.of(0, 1), -n);
            due("not the third's", x.of(1, 1), 0);
        }
        T.refusedBeyond("pay 1 .. 99", Lands::some, (x, n) -> x.pay(0, 1, n), 1, 99, -1);
        AnswerDays x = Lands.richest();
        due("from the most", x.pay(1, 0, 1), 1);
        due("from the most", x.of(0, 1), 9998);
        due("to the most", x.pay(0, 1, 1), 19998);
    }

    /** "To WIND: a PLACE's CLOCK is another one." */
    private static void wound() {
        for (int clock = 0; clock <= 6; clock++) {
            int is = clock;
            Supplier<AnswerDays> there = () -> Lands.after(Lands.some(), x -> x.wind(2, is));
            T.refused("wound as it is: " + clock, there, x -> x.wind(2, is), -3);
            T.granted("wound to another one: " + clock, there, x -> x.wind(2, (is + 1) % 7), is);
        }
    }

    /** "A DAY passes (DAY below 999)." */
    private static void passed() {
        T.refused("pass on day 999", () -> Lands.after(Lands.some(), x -> x.terms(0, 999)), AnswerDays::pass, -3);
        T.refused("pass on day 999", () -> Lands.after(Lands.after(Lands.some(), x -> x.terms(0, 998)), x -> x.pass()), AnswerDays::pass, -3);
        T.granted("pass on day 998", () -> Lands.after(Lands.some(), x -> x.terms(0, 998)), AnswerDays::pass, 999);
        T.granted("pass on day 0", () -> Lands.after(Lands.some(), x -> x.terms(0, 0)), AnswerDays::pass, 1);
    }

    /** "(On paper, n DAYS on: DAY and n, beyond 999, too:)" */
    private static void onPaperBeyond999() {
        AnswerDays x = Lands.of(2, 1, "answers 1 if date = 1000;answers 9 if date = 1000 + 98;bars if date = 1000 + 99");
        x.terms(0, 999);
        due("on day 1000", x.who(0, 0, 0, 1), 1);
        due("on day 999", x.who(0, 0, 0, 0), 0);
        due("on day 1098", x.who(0, 0, 0, 99), 6);
        x.wind(0, 1);
        due("on date 1099", x.who(0, 0, 0, 99), 7);
        due("the first day", x.first(0, 0, 0, 1), 0);
        due("a loophole on day 1098", x.loopholes(1, 99, 0), 0);
        due("a loophole on day 1098", x.loopholes(1, 99, NONE), 2);
        AnswerDays y = Lands.of(1, 1, "answers 9 if date > 999");
        y.terms(0, 999);
        due("a plan behind day 999", y.plan(0, 0, 0, 0), 1);
        due("a walk behind day 999", y.walk(0, 0, 0, 20, 0), 1);
        due("compared behind day 999", y.compare(0, 0, 0, 0), 59);
        due("fair behind day 999", y.fair(0, 0, 1), 0);
        due("a period behind day 999", y.period(0, 0, 0), NONE);
        y.wind(0, 1);
        due("a period behind day 999", y.period(0, 0, 0), 1);
        AnswerDays z = Lands.of(2, 1, "answers 0;answers doer if date = 1000 + 29");
        z.terms(0, 999);
        due("a look behind day 999", z.look(0, 0, 0), 30);
    }

    /** "PERIOD: the least p 1 .. 60 by which WHO ANSWERS is the same n and n and p DAYS on, for all n 0 .. 119 less p." */
    private static void periods() {
        for (int p = 2; p <= 63; p++) {
            AnswerDays x = Lands.of(2, 1, "answers 1 if date % " + p + " = 0");
            due("a period of " + p, x.period(0, 0, 0), p <= 60 ? p : NONE);
        }
        due("a period of 1", Lands.of(2, 1).period(0, 1, 0), 1);
        due("a period of 1, barred", Lands.of(2, 1, "bars").period(0, 1, 0), 1);
        due("a period of 1, nobody", Lands.of(2, 1, "answers 9").period(0, 1, 0), 1);
        for (int p : new int[] {1, 7, 59, 60}) {
            // It comes again after p days, but for the very first or the very last of the 120 days.
            AnswerDays first = Lands.of(3, 1, "answers 1 if date % " + p + " = 0;answers 2 if date = 0");
            due("but for the first day", first.period(0, 0, 0), NONE);
            AnswerDays last = Lands.of(3, 1, "answers 1 if date % " + p + " = 0;answers 2 if date = 119");
            due("but for the last day", last.period(0, 0, 0), NONE);
            AnswerDays behind = Lands.of(3, 1, "answers 1 if date % " + p + " = 0;answers 2 if date = 120");
            due("but for the day behind", behind.period(0, 0, 0), p);
        }
        // 60 days of one, 60 of another: no day has its like p days on but within its half.
        due("halves", Lands.of(2, 1, "answers 1 if date > 59").period(0, 0, 0), NONE);
        due("nobody and barred are not the same", Lands.of(2, 1, "answers 9;bars if date % 2 = 1").period(0, 0, 0), 2);
        due("the least of several", Lands.of(2, 1, "answers 1 if date % 6 = 0 or date % 6 = 3").period(0, 0, 0), 3);
    }

    /** "LOOPHOLES: DEEDS and doers for which nobody ANSWERS; by DEEDS, then doers." */
    private static void loopholes() {
        AnswerDays all = Lands.of(6, 6, "answers 9");
        due("loopholes: all", all.loopholes(0, 0, NONE), 36);
        for (int i = 0; i < 36; i++) {
            due("loopholes: the " + i + "th", all.loopholes(0, 0, i), 10 * (i / 6) + i % 6);
        }
        due("loopholes: no 37th", all.loopholes(0, 0, 36), NONE);
        due("loopholes: none", Lands.of(6, 6).loopholes(0, 0, NONE), 0);
        due("loopholes: no first", Lands.of(6, 6).loopholes(0, 0, 0), NONE);
        due("loopholes: no people", Lands.of(0, 6, "answers 9").loopholes(0, 0, NONE), 0);
        due("loopholes: no deeds", Lands.of(6, 0, "answers 9").loopholes(0, 0, NONE), 0);
        due("loopholes: nothing", new AnswerDays().loopholes(0, 0, NONE), 0);
        due("loopholes: nothing", new AnswerDays().loopholes(0, 0, 0), NONE);
        due("loopholes: not what is barred", Lands.of(6, 6, "answers 9;bars").loopholes(0, 0, NONE), 0);
        AnswerDays one = Lands.of(6, 6, "answers 9 if doer = 5 and worth = 6");
        due("loopholes: the last alone", one.loopholes(0, 0, NONE), 1);
        due("loopholes: the last alone", one.loopholes(0, 0, 0), 55);
    }

    /** "all DEEDS, each on its own one of the DAYS 0 .. 9 on, on which neither that one ANSWERS nor it is BARRED" */
    private static void plansOnDays() {
        due("a plan without deeds", Lands.of(1, 0).plan(0, 0, 0, 0), 0);
        for (int day = 0; day <= 10; day++) {
            AnswerDays x = Lands.of(2, 1, "answers 9 if date = " + day);
            due("a plan for day " + day, x.plan(0, 0, 0, 0), day <= 9 ? day : NONE);
            due("a plan for day " + day, x.plan(0, 0, 0, 1), day <= 9 ? day : NONE);
            AnswerDays y = Lands.of(2, 1, "answers 9;bars if not date = " + day);
            due("a plan for day " + day + ", barred on others", y.plan(0, 0, 0, 0), day <= 9 ? day : NONE);
        }
        for (int deeds = 1; deeds <= 6; deeds++) {
            AnswerDays x = Lands.of(2, deeds);
            due("a plan of " + deeds + ": another one never answers", x.plan(0, 0, 1, 0), deeds - 1);
            for (int deed = 0; deed < deeds; deed++) {
                due("a plan of " + deeds + ": deed " + deed, x.plan(0, 0, 1, 1 + deed), deed);
            }
            due("a plan of " + deeds + ": the doer always answers", x.plan(0, 0, 0, 0), NONE);
            AnswerDays y = Lands.of(2, deeds, "answers 9 if date > " + (9 - deeds));
            due("a plan of " + deeds + " on the last days", y.plan(0, 0, 0, 0), 9);
            AnswerDays z = Lands.of(2, deeds, "answers 9 if date > " + (10 - deeds));
            due("a plan of " + deeds + " with a day too few", z.plan(0, 0, 0, 0), NONE);
            for (int what = 1; what <= deeds; what++) {
                due("a plan of " + deeds + " with a day too few", z.plan(0, 0, 0, what), NONE);
            }
        }
    }

    /** "so that the last of these DAYS is least; the first as a row of DAYS by DEEDS" */
    private static void plansFirst() {
        // Deed 2 can be done on day 2 alone, deed 1 on days 0 and 1: deed 0 waits for day 3.
        AnswerDays x = Lands.of(1, 3, "answers 9;answers 0 if kind = 2 and not date = 2;answers 0 if kind = 1 and date > 1;answers 0 if kind = 0 and date = 1");
        due("the last is least", x.plan(0, 0, 0, 0), 2);
        int[] row = {0, 1, 2};
        for (int deed = 0; deed < 3; deed++) {
            due("the first row", x.plan(0, 0, 0, 1 + deed), row[deed]);
        }
        // By rows deed 0 on day 0 would be first, but then deed 1 can't be before day 5.
        AnswerDays y = Lands.of(1, 2, "answers 0;answers 9 if kind = 0 and (date = 0 or date = 3);answers 9 if kind = 1 and (date = 0 or date = 5)");
        due("the last is least ahead of the first row", y.plan(0, 0, 0, 0), 3);
        due("the last is least ahead of the first row", y.plan(0, 0, 0, 1), 3);
        due("the last is least ahead of the first row", y.plan(0, 0, 0, 2), 0);
    }

    /** "A WALK of n DAYS from a PLACE ..: the PLACE on each DAY (the first one on DAY 0 on), the same one the DAY after or one that has a ROAD to it" */
    private static void walks() {
        for (int from = 0; from < 4; from++) {
            AnswerDays x = Lands.of(1, 1);
            due("a walk without a law binds on its one day", x.walk(0, 0, from, 1, 0), 1);
            due("a walk without roads stays", x.walk(0, 0, from, 20, 0), 20);
            for (int k = 0; k < 20; k++) {
                due("a walk without roads stays", x.walk(0, 0, from, 20, 1 + k), from);
            }
            due("a walk has no 21st place", x.walk(0, 0, from, 20, 21), NONE);
            due("a walk of one day has one place", x.walk(0, 0, from, 1, 1), from);
            due("a walk of one day has one place", x.walk(0, 0, from, 1, 2), NONE);
            due("a walk that never binds", Lands.of(1, 1, "answers 9").walk(0, 0, from, 20, 0), 0);
            due("a walk that never binds, barred", Lands.of(1, 1, "bars").walk(0, 0, from, 20, 0), 0);
        }
        // The first day is at the place it is from, whatever binds there.
        AnswerDays y = Lands.of(1, 1, "answers 9 if not place = 0");
        y.road(0, 3, 1);
        due("the first day is there", y.walk(0, 0, 0, 20, 0), 1);
        due("a road goes both ways", y.walk(0, 0, 3, 20, 0), 0);
        due("one road a day", y.walk(0, 0, 0, 20, 2), 3);
        AnswerDays z = Lands.of(1, 1, "answers 9 if place = 3");
        z.road(0, 1, 1);
        z.road(1, 2, 1);
        z.road(2, 3, 1);
        for (int n = 1; n <= 20; n++) {
            due("three roads, " + n + " days", z.walk(0, 0, 0, n, 0), Math.min(n, 3));
        }
        due("another one answers: it does not bind", Lands.of(2, 1, "answers 1").walk(0, 0, 0, 20, 0), 0);
    }

    /** "the fewest DAYS ..; the first as a row of PLACES" */
    private static void walksFirst() {
        AnswerDays x = Lands.of(1, 1, "answers 9");
        for (int one = 0; one < 4; one++) {
            for (int other = 0; other < one; other++) {
                x.road(one, other, 1);
            }
        }
        for (int k = 1; k < 20; k++) {
            due("of walks alike the first row", x.walk(0, 0, 3, 20, 1 + k), 0);
        }
        due("of walks alike the first row", x.walk(0, 0, 3, 20, 1), 3);
        // Only on day 2 place 3 does not bind; all else does: 0, 0, 3 and not 0, 3, 3.
        AnswerDays y = Lands.of(1, 1, "answers 9 if place = 3 and date = 2");
        y.road(0, 3, 1);
        int[] row = {0, 0, 3, 0};
        due("the fewest", y.walk(0, 0, 0, 4, 0), 3);
        for (int k = 0; k < 4; k++) {
            due("the first row of the fewest", y.walk(0, 0, 0, 4, 1 + k), row[k]);
        }
        y.wind(3, 2);
        due("by the clock there: not on day 0", y.walk(0, 0, 0, 4, 0), 4);
        due("by the clock there", y.walk(0, 0, 3, 4, 0), 3);
    }

    /** "QUITS: .. how many are not 0, less the most heaps of these that are 0 together" */
    private static void quits() {
        due("quits: no people", new AnswerDays().quits(), 0);
        due("quits: one", Lands.of(1, 0).quits(), 0);
        due("quits: all even", Lands.of(6, 0).quits(), 0);
        due("quits: two", Lands.richest().quits(), 1);
        AnswerDays x = Lands.of(6, 0);
        int[][] pays = {{0, 1, 10}, {2, 3, 20}, {4, 5, 30}};
        for (int i = 0; i < 3; i++) {
            x.pay(pays[i][0], pays[i][1], pays[i][2]);
            due("quits: pairs", x.quits(), i + 1);
        }
        for (int one = 0; one < 6; one++) {
            for (int other = 0; other < 6; other++) {
                if (one != other) {
                    AnswerDays pair = Lands.of(6, 0);
                    pair.pay(one, other, 1);
                    due("quits: one pair", pair.quits(), 1);
                }
            }
        }
        // One heap of six, of which no fewer are 0 together: 1, 2, 4, 8, 16, -31.
        AnswerDays y = Lands.of(6, 0);
        for (int i = 0; i < 5; i++) {
            y.pay(i, 5, 1 << i);
        }
        due("quits: one heap of six", y.quits(), 5);
        // Two heaps of three: 3, 4, -7 and 10, 20, -30.
        AnswerDays z = Lands.of(6, 0);
        z.pay(0, 2, 3);
        z.pay(1, 2, 4);
        z.pay(3, 5, 10);
        z.pay(4, 5, 20);
        due("quits: two heaps of three", z.quits(), 4);
        // 5, -5, 3, 2, -5, 0: the pairs are more heaps than 3, 2, -5 and 5, -5 alone.
        AnswerDays v = Lands.of(6, 0);
        v.pay(0, 1, 5);
        v.pay(2, 4, 3);
        v.pay(3, 4, 2);
        due("quits: five, two heaps", v.quits(), 3);
        v.pay(5, 0, 5);
        due("quits: three and two again", v.quits(), 3);
        // Three heaps that are pairs only across: 7, 7, 7, -7, -7, -7.
        AnswerDays w = Lands.of(6, 0);
        for (int i = 0; i < 3; i++) {
            w.pay(i, 3 + (i + 1) % 3, 7);
        }
        due("quits: the most heaps", w.quits(), 3);
    }

    /** "DOERS of whom all SEEN would be so (DATES by CLOCKS as now)." */
    private static void doers() {
        for (int people = 0; people <= 6; people++) {
            due("doers: nothing seen: all of " + people, Lands.of(people, 1).doers(), (1 << people) - 1);
        }
        for (int person = 0; person < 6; person++) {
            AnswerDays x = Lands.of(6, 1);
            x.seen(0, 0, 0, person);
            due("doers: one alone", x.doers(), 1 << person);
            x.seen(0, 0, 0, 6);
            due("doers: none", x.doers(), 0);
        }
        AnswerDays y = Lands.of(6, 1, "answers 9");
        y.seen(0, 0, 0, 6);
        due("doers: all", y.doers(), 63);
        AnswerDays z = Lands.of(6, 1, "bars");
        z.seen(0, 0, 0, 6);
        due("doers: what is barred was not done", z.doers(), 0);
    }

    /** "in how many DAYS 0 .. 30 the most of DOERS for whom it is answered alike .. are as few as can be; the first" */
    private static void looks() {
        for (int day = 0; day <= 31; day++) {
            AnswerDays x = Lands.of(3, 1, "answers 0;answers doer if date = " + day);
            due("look on day " + day, x.look(0, 0, 0), day <= 30 ? day : 0);
            due("look on day " + day, x.look(0, 0, 1), day <= 30 ? 1 : 3);
        }
        for (int people = 1; people <= 6; people++) {
            due("look: each is alone", Lands.of(people, 1).look(0, 0, 1), 1);
            due("look: each is alone at once", Lands.of(people, 1).look(0, 0, 0), 0);
            due("look: all alike", Lands.of(people, 1, "answers 0").look(0, 0, 1), people);
            due("look: all are barred alike", Lands.of(people, 1, "bars").look(0, 0, 1), people);
            due("look: nobody for all alike", Lands.of(people, 1, "answers 9").look(0, 0, 1), people);
        }
        AnswerDays y = Lands.of(6, 1, "answers 0;answers 9 if doer > 1;bars if doer > 3");
        due("look: the same, nobody, barred", y.look(0, 0, 1), 2);
        due("look: no people", Lands.of(0, 1).look(0, 0, 0), NONE);
        due("look: no people", Lands.of(0, 1).look(0, 0, 1), NONE);
        y.seen(0, 0, 0, 6);
        due("look: of two doers", y.look(0, 0, 1), 2);
        y.seen(0, 0, 0, 0);
        due("look: no doers", y.look(0, 0, 0), NONE);
        due("look: no doers", y.look(0, 0, 1), NONE);
    }

    /** "the CLOCK 0 .. 6 there by which, of DAYS 0 .. 27 on .., the numbers of times PEOPLE ANSWER differ least ..; the lowest" */
    private static void fairClocks() {
        for (int clock = 0; clock <= 7; clock++) {
            // 0 answers for dates below clock + 14, 1 for all others: 14 times each by that clock.
            AnswerDays x = Lands.of(2, 1, "answers 0;answers 1 if date > " + (clock + 13));
            due("fair by clock " + clock, x.fair(0, 0, 0), Math.min(clock, 6));
            due("fair by clock " + clock, x.fair(0, 0, 1), clock <= 6 ? 0 : 4);
        }
        // Date 27 is the last one by clock 0, date 33 by clock 6; two doers are asked on each.
        AnswerDays last = Lands.of(2, 1, "answers 9;answers 0 if date = 0;answers 1 if date = 27");
        due("fair by dates 0 and 27", last.fair(0, 0, 0), 0);
        due("fair by dates 0 and 27", last.fair(0, 0, 1), 0);
        AnswerDays behind = Lands.of(2, 1, "answers 9;answers 0 if date = 0;answers 1 if date = 28");
        due("date 28 is none of clock 0", behind.fair(0, 0, 1), 2);
        AnswerDays six = Lands.of(2, 1, "answers 9;answers 0 if date = 6;answers 1 if date = 33");
        due("fair by dates 6 and 33", six.fair(0, 0, 0), 6);
        due("fair by dates 6 and 33", six.fair(0, 0, 1), 0);
        AnswerDays seven = Lands.of(2, 1, "answers 9;answers 0 if date = 6;answers 1 if date = 34");
        due("date 34 is none of any", seven.fair(0, 0, 1), 2);
        for (int clock = 1; clock <= 6; clock++) {
            AnswerDays wound = Lands.of(2, 1, "answers 9;answers 0 if date = 2;answers 1 if date = 29");
            wound.wind(3, clock);
            due("fair whatever its clock is now", wound.fair(0, 3, 0), 2);
            due("fair whatever its clock is now", wound.fair(0, 3, 1), 0);
        }
        for (int people = 1; people <= 6; people++) {
            due("fair: each for itself", Lands.of(people, 1).fair(0, 0, 1), 0);
            due("fair: one for all", Lands.of(people, 1, "answers 0").fair(0, 0, 1), people == 1 ? 0 : 28 * people);
            due("fair: nobody", Lands.of(people, 1, "answers 9").fair(0, 0, 1), 0);
            due("fair: barred", Lands.of(people, 1, "bars").fair(0, 0, 1), 0);
            due("fair: the lowest of those alike", Lands.of(people, 1).fair(0, 0, 0), 0);
        }
        due("fair: no people", Lands.of(0, 1).fair(0, 0, 0), NONE);
        due("fair: no people", Lands.of(0, 1).fair(0, 0, 1), NONE);
    }

    /** "FEW: the chance, of 1,000,000,000,000 parts, that of n people .. fewer than k do: each part is cut" */
    private static void fewer() {
        long all = 1000000000000L;
        AnswerDays x = new AnswerDays();
        for (int k : new int[] {1, 2, 20}) {
            due("few: of none fewer than " + k, x.few(k, 0), all);
        }
        for (int wakes = 0; wakes <= 10; wakes++) {
            x.terms(1, wakes);
            due("few: the one sleeps", x.few(1, 1), all / 10 * (10 - wakes));
            due("few: of one fewer than two", x.few(2, 1), all);
            due("few: both sleep", x.few(1, 2), all / 100 * (10 - wakes) * (10 - wakes));
            due("few: not both wake", x.few(2, 2), all - all / 100 * wakes * wakes);
            due("few: of two fewer than three", x.few(3, 2), all);
        }
        x.terms(1, 0);
        due("few: nobody wakes", x.few(1, 99), all);
        due("few: nobody wakes", x.few(20, 99), all);
        x.terms(1, 10);
        due("few: all wake", x.few(1, 1), 0);
        due("few: all wake", x.few(20, 19), all);
        due("few: all wake", x.few(20, 20), 0);
        due("few: all wake", x.few(1, 99), 0);
        due("few: none is there to wake", x.few(1, 0), all);
        x.terms(1, 9);
        due("few: twelve sleep", x.few(1, 12), 1);
        due("few: thirteen sleep is cut", x.few(1, 13), 0);
        due("few: one or none of thirteen", x.few(2, 13), 117 / 10);
        due("few: so few of 99", x.few(20, 99), 0);
        x.terms(1, 5);
        due("few: half of 39 are fewer than 20, each cut", x.few(20, 39) > all / 2 - 20 && x.few(20, 39) <= all / 2 ? 1 : 0, 1);
    }

    /** "on how many of the DAYS 0 .. 59 on nobody ANSWERS .. by a LAW in place of that in FORCE (NONE: none)" */
    private static void compared() {
        AnswerDays x = Lands.of(2, 1, "answers 9");
        Check.law(x, "answers 9 if date < 60");
        Check.law(x, "answers 9 if date = 0");
        Check.law(x, "answers 9 if date = 59");
        Check.law(x, "answers 9 if date > 59");
        Check.law(x, "answers 9;bars if date > 0");
        int[] days = {60, 60, 1, 1, 0, 1};
        for (int law = 0; law < 6; law++) {
            due("compared: law " + law, x.compare(law, 0, 0, 0), days[law]);
        }
        due("compared: none", x.compare(NONE, 0, 0, 0), 0);
        due("compared: no 7th", x.compare(6, 0, 0, 0), NONE);
        due("compared: the one in force stays", x.who(0, 0, 0, 0), 6);
        x.force(NONE);
        due("compared: none is in force", x.compare(0, 0, 0, 0), 60);
        due("compared: none is in force", x.compare(NONE, 0, 0, 0), 0);
    }

    /** "YEARS with a SEED, n 1 .. 60, on paper: s is the SEED (0 .. 1,000,000)" */
    private static void years() {
        T.refusedBeyond("years of a seed", Lands::some, (x, seed) -> x.years(seed, 5), 0, 1000000, -1);
        T.refusedBeyond("years of n", Lands::some, (x, n) -> x.years(5, n), 1, 60, -1);
        Supplier<AnswerDays> nobody = () -> Lands.byLaw(Lands.some(), "answers 9");
        for (int n = 1; n <= 60; n++) {
            int many = n;
            due("years of " + n, nobody.get().years(1000000, many), many);
        }
        T.granted("years of none unanswered", () -> Lands.of(1, 1), x -> x.years(0, 60), 0);
        T.refused("years: no people", () -> Lands.of(0, 1), x -> x.years(0, 1), -3);
        T.refused("years: no deeds", () -> Lands.of(1, 0), x -> x.years(0, 1), -3);
        T.refused("years: neither", AnswerDays::new, x -> x.years(0, 1), -3);
        AnswerDays x = Lands.some();
        AnswerDays y = Lands.some();
        x.years(999, 60);
        due("on paper: day", x.count(13), y.count(13));
        due("on paper: undone", x.count(5), y.count(5));
        for (int person = 0; person < 3; person++) {
            due("on paper: balance", x.of(person, 1), y.of(person, 1));
        }
    }

    /** "(at DAY 999 it ends)": ahead of that time's draws. */
    private static void yearsAtTheEnd() {
        for (int left = 0; left <= 61; left++) {
            AnswerDays x = Lands.byLaw(Lands.some(), "answers 9");
            x.terms(0, 999 - left);
            due("years with " + left + " days left", x.years(5, 60), Math.min(left, 60));
            due("years with " + left + " days left", x.count(13), 999 - left);
        }
        AnswerDays x = Lands.after(Lands.some(), y -> y.terms(0, 999));
        x.years(5, 60);
        for (int person = 0; person < 3; person++) {
            due("years on day 999: balances as they are", x.drawn(person), x.of(person, 1));
        }
    }

    /** "s becomes (s times 1103 and 12345) modulo 1,000,003, it is s modulo m", "if it can be; then the DAY passes" */
    private static void draws() {
        for (int seed : new int[] {0, 1, 499, 895, 896, 999999, 1000000}) {
            for (int people = 1; people <= 6; people++) {
                AnswerDays x = Lands.of(people, people, "answers [doer + 1] % " + people + ";owes date + worth;bars if place = 3;answers 9 if kind = 2");
                int[] balances = new int[people];
                long s = seed;
                int unanswered = 0;
                for (int day = 0; day < 60; day++) {
                    int[] drawn = new int[3];
                    int[] of = {people, people, 4};
                    for (int i = 0; i < 3; i++) {
                        s = (s * 1103 + 12345) % 1000003;
                        drawn[i] = (int) (s % of[i]);
                    }
                    int other = (drawn[1] + 1) % people;
                    int owed = Math.min(99, day + drawn[0] + 1);
                    if (drawn[2] != 3 && drawn[0] % 4 == 2) {
                        unanswered++;
                    } else if (drawn[2] != 3 && other != drawn[1]) {
                        balances[drawn[1]] += owed;
                        balances[other] -= owed;
                    }
                }
                due("draws of seed " + seed, x.years(seed, 60), unanswered);
                for (int person = 0; person < people; person++) {
                    due("drawn of seed " + seed, x.drawn(person), balances[person]);
                }
                due("drawn: no more people", x.drawn(people), NOTHING);
            }
        }
        // What can't be is not done, and the day passes all the same.
        AnswerDays rich = Lands.byLaw(Lands.richest(), "answers 1;owes 1;answers 9 if date > 0");
        due("what can't be is not done", rich.years(2, 60), 59);
        AnswerDays barred = Lands.of(1, 1, "bars if date < 30;answers 9");
        due("barred for thirty days", barred.years(2, 60), 30);
        AnswerDays poor = Lands.byLaw(Lands.richest(), "answers 1;owes 99");
        due("not beyond 9999", poor.years(4, 60), 0);
        due("not beyond 9999", poor.drawn(1), -9999);
        due("not beyond 9999", poor.drawn(0), 9999);
    }

    private static void rowOf(String why, AnswerDays x, int[] bytes, int came, int blots) {
        int deeds = x.count(2);
        Check.put(x, bytes);
        due(why, x.row(), came);
        due(why + ": blots", x.blots(), blots);
        due(why + ": deeds", x.count(2), deeds + came);
        due(why + ": the tape is empty then", x.count(6), 0);
        due(why + ": status()", x.status(), 0);
    }

    /** "A ROW: the TAPE's bytes by twos: .. one that can't be, one within which the TAPE ends, one for which there is no room is a BLOT" */
    private static void rows() {
        for (int kind = 0; kind < 256; kind++) {
            rowOf("a row of kind " + kind, new AnswerDays(), new int[] {kind, 5}, kind <= 3 ? 1 : 0, kind <= 3 ? 0 : 1);
            rowOf("a row of worth " + kind, new AnswerDays(), new int[] {2, kind}, kind >= 1 && kind <= 9 ? 1 : 0, kind >= 1 && kind <= 9 ? 0 : 1);
        }
        rowOf("a row of one byte", new AnswerDays(), new int[] {0}, 0, 1);
        rowOf("a row of one byte", new AnswerDays(), new int[] {9}, 0, 1);
        rowOf("a row of three bytes", new AnswerDays(), new int[] {0, 1, 0}, 1, 1);
        rowOf("a row with a blot between", new AnswerDays(), new int[] {0, 1, 4, 1, 3, 9}, 2, 1);
        for (int deeds = 0; deeds <= 6; deeds++) {
            rowOf("a row of three, " + deeds + " are there", Lands.of(0, deeds), new int[] {0, 1, 1, 2, 2, 3}, Math.min(3, 6 - deeds), Math.max(0, deeds - 3));
        }
        AnswerDays kept = new AnswerDays();
        rowOf("a row of deeds", kept, new int[] {0, 1, 3, 9, 2, 7, 9, 9, 1, 2}, 4, 1);
        int[][] deeds = {{0, 1}, {3, 9}, {2, 7}, {1, 2}};
        for (int deed = 0; deed < 4; deed++) {
            due("a row's kinds", kept.at(deed, 0), deeds[deed][0]);
            due("a row's worths", kept.at(deed, 1), deeds[deed][1]);
        }
        for (int bytes = 1; bytes <= 20; bytes++) {
            AnswerDays x = new AnswerDays();
            x.feed(0x01010101, 0x01010101, 0x01010101, 0x01010101, 0x01010101);
            x.end(bytes);
            due("a row within which the tape ends: " + bytes, x.row(), Math.min(6, bytes / 2));
            due("a row within which the tape ends: " + bytes, x.blots(), (bytes + 1) / 2 - Math.min(6, bytes / 2));
        }
        int[] full = new int[400];
        for (int i = 0; i < 400; i++) {
            full[i] = 1;
        }
        rowOf("a row of 400 bytes", new AnswerDays(), full, 6, 194);
        rowOf("a row of 400 bytes, no room", Lands.of(0, 6), full, 0, 200);
        // Two blots in one are one.
        rowOf("what can't be where there is no room", Lands.of(0, 6), new int[] {4, 0}, 0, 1);
        T.refused("a row of nothing", () -> Lands.after(Lands.some(), x -> x.end(0)), AnswerDays::row, -6);
        T.granted("a row of blots alone", () -> Lands.after(Lands.some(), x -> x.end(1)), AnswerDays::row, 0);
    }

    /** "IMAGES 0, 1 keep all but ..; BACK to one all that it keeps is as it was then" */
    private static void imagesKeep() {
        for (int k = 0; k < 2; k++) {
            AnswerDays x = Lands.some();
            x.image(k);
            int[] before = told(x);
            x.person(5);
            x.pay(0, 1, 50);
            x.wind(0, 6);
            x.wind(3, 1);
            x.road(0, 1, 0);
            x.road(1, 3, 1);
            x.deed(1, 1);
            x.forget();
            x.seen(0, 0, 0, 1);
            x.seen(0, 0, 0, 1);
            x.seen(0, 0, 0, 1);
            for (int term = 0; term < 3; term++) {
                x.terms(term, 9);
            }
            x.end(0);
            x.force(Check.law(x, "bars"));
            int[] then = told(x);
            int same = 0;
            for (int i = 0; i < before.length; i++) {
                same += before[i] == then[i] ? 1 : 0;
            }
            due("image " + k + ": much is another", same < before.length / 2 ? 1 : 0, 1);
            due("back to " + k, x.back(k), 0);
            int[] behind = told(x);
            for (int i = 0; i < before.length; i++) {
                due("image " + k + " keeps the " + i + "th that is told", behind[i], before[i]);
            }
        }
    }

    /** The same of all six that were SEEN: each rules out one person of six. */
    private static void imagesKeepSeen() {
        for (int many = 0; many <= 6; many++) {
            AnswerDays x = Lands.of(6, 6, "answers 0;answers 1 if date = doer and worth = doer + 1 and place = doer % 4");
            for (int i = 0; i < many; i++) {
                x.seen(i, i, i % 4, 0);
            }
            int doers = x.doers();
            due("seen " + many, doers, 63 & -(1 << many));
            x.image(0);
            x.forget();
            for (int i = 0; i < 6; i++) {
                x.seen(9, i % 2, 3, 1);
            }
            due("others were seen", x.doers(), 0);
            x.back(0);
            due("image 0 keeps " + many + " seen", x.count(3), many);
            due("image 0 keeps " + many + " seen", x.doers(), doers);
        }
        AnswerDays y = Lands.of(2, 0);
        y.image(0);
        y.person(5);
        y.pay(2, 0, 9);
        y.back(0);
        y.person(6);
        due("a balance of one that comes behind back(): 0 at first", y.of(2, 1), 0);
        due("its sign", y.of(2, 0), 6);
    }

    /** The same of one and another that had the same number, by turns. */
    private static void imagesKeepNumbers() {
        AnswerDays x = Lands.of(2, 1);
        x.image(0);
        x.person(5);
        x.deed(3, 8);
        x.force(Check.law(x, "owes 20"));
        x.image(1);
        x.back(0);
        x.person(6);
        x.deed(2, 7);
        x.force(Check.law(x, "owes 30"));
        x.image(0);
        int[][] told = {{6, 2, 7, 30}, {5, 3, 8, 20}};
        for (int i = 0; i < 4; i++) {
            int k = i % 2;
            due("back to " + k, x.back(k), 0);
            due("its person 2", x.of(2, 0), told[k][0]);
            due("its deed 1", x.at(1, 0), told[k][1]);
            due("its deed 1", x.at(1, 1), told[k][2]);
            due("its law 0", x.asks(0, 0, 0, 0), told[k][3]);
        }
    }

    /** People, deeds, places, seen, laws, what is in force, terms. */
    private static int[] told(AnswerDays x) {
        int[] told = new int[50];
        int n = 0;
        for (int what : new int[] {0, 1, 2, 3, 4, 12, 13, 14, 15}) {
            told[n++] = x.count(what);
        }
        for (int i = 0; i < 4; i++) {
            told[n++] = x.of(i, 0);
            told[n++] = x.of(i, 1);
            told[n++] = x.at(i, 0);
            told[n++] = x.at(i, 1);
            told[n++] = x.place(i, 0);
            told[n++] = x.place(i, 1);
            told[n++] = x.place(i, 2);
            told[n++] = x.who(i % 3, i % 2, i, 0);
        }
        told[n++] = x.doers();
        told[n++] = x.quits();
        told[n++] = x.compare(1, 0, 0, 0);
        return told;
    }

    /** "all but the TAPE, FAULT, BLOTS, where ORDERS stopped, what can be undone (nothing, behind back()), the latest YEARS" */
    private static void imagesKeepNot() {
        AnswerDays x = Lands.some();
        x.image(1);
        x.end(0);
        Check.put(x, 7, 7, 7, 7, 7);
        x.row();
        Check.orders(x, "pass;pass;wind 9");
        Check.law(x, "bars x");
        x.years(5, 60);
        int[] drawn = {x.drawn(0), x.drawn(1), x.drawn(2)};
        x.pass();
        x.person(-1);
        x.feed(0, 0, 0, 0, 0);
        int refused = x.count(7);
        for (int k = 0; k < 2; k++) {
            due("back to " + k, x.back(k), 0);
            due("not kept: the tape", x.count(6), 20);
            due("not kept: fault", x.fault(), 5);
            due("not kept: blots", x.blots(), 3);
            due("not kept: where orders stopped", x.stopped(), 2);
            due("nothing can be undone behind back()", x.count(5), 0);
            due("nothing can be undone behind back()", x.undo(), -3);
            due("not kept: how many were refused", x.count(7), refused);
            for (int person = 0; person < 3; person++) {
                due("not kept: the latest years", x.drawn(person), drawn[person]);
            }
        }
        AnswerDays y = new AnswerDays();
        y.image(0);
        y.person(1);
        y.deed(1, 1);
        y.years(1, 1);
        y.back(0);
        due("the latest years stay though nobody is there", y.drawn(0), 0);
        due("nobody is there", y.of(0, 1), NOTHING);
        y.pass();
        due("what comes behind back() can be undone", y.undo(), 3);
        due("and no more", y.undo(), -3);
    }

    /** "(IMAGES stay)" */
    private static void imagesStay() {
        AnswerDays x = new AnswerDays();
        x.image(0);
        x.person(1);
        x.image(1);
        for (int i = 0; i < 3; i++) {
            x.person(2);
            due("back to 0", x.back(0), 0);
            due("image 0 stays", x.count(0), 0);
            x.deed(1, 1);
            due("back to 1", x.back(1), 0);
            due("image 1 stays", x.count(0), 1);
            due("image 1 stays", x.count(2), 0);
        }
        due("image 1 anew", x.image(1), 0);
        x.person(3);
        x.back(0);
        due("image 0 is another one", x.count(0), 0);
        x.back(1);
        due("image 1 anew", x.count(0), 1);
        T.refusedBeyond("images 0, 1: image()", Lands::crowded, AnswerDays::image, 0, 1, -1);
        T.refusedBeyond("images 0, 1: back()", Lands::crowded, AnswerDays::back, 0, 1, -1);
        T.refused("an image that was not kept", Lands::some, y -> y.back(1), -2);
        T.refused("an image that was not kept", AnswerDays::new, y -> y.back(0), -2);
    }
}
