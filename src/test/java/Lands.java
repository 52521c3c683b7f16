import java.util.function.ToLongFunction;

/** Lands for the tests at the bounds: empty, with something of everything, with as much as there may be. */
final class Lands {
    private Lands() {
    }

    /** So many people with signs 0, 1 .. and deeds of kinds 0, 1 .. and worths 1, 2 .. */
    static AnswerDays of(int people, int deeds) {
        AnswerDays x = new AnswerDays();
        for (int i = 0; i < people; i++) {
            x.person(i);
        }
        for (int i = 0; i < deeds; i++) {
            x.deed(i % 4, i + 1);
        }
        return x;
    }

    static AnswerDays of(int people, int deeds, String law) {
        AnswerDays x = of(people, deeds);
        x.force(Check.law(x, law));
        return x;
    }

    /** Something of everything: three people, three deeds, two laws, two seen, image 0, four that can be undone, a tape. */
    static AnswerDays some() {
        AnswerDays x = of(3, 3);
        x.road(0, 1, 1);
        x.road(2, 3, 1);
        x.terms(0, 500);
        x.terms(1, 4);
        x.terms(2, 6);
        Check.law(x, "answers [doer + date] % 4;owes worth * 3;bars if place = 3 and kind = 2");
        Check.law(x, "answers 9 if week = 2");
        x.force(0);
        x.seen(3, 0, 1, 6);
        x.seen(4, 1, 0, 1);
        x.image(0);
        x.years(77, 9);
        Check.put(x, 9, 9);
        x.row();
        Check.orders(x, "pass;wind 9");
        Check.law(x, "owes x");
        x.pay(0, 1, 7);
        x.wind(1, 3);
        x.commit(0, 0, 0);
        x.pass();
        Check.put(x, Check.bytesOf("pass;wind 2"));
        return x;
    }

    /** As much of everything as there may be. */
    static AnswerDays crowded() {
        AnswerDays x = of(6, 6);
        for (int i = 0; i < 6; i++) {
            Check.law(x, "answers [doer + date + " + i + "] % 7;owes worth * " + i);
            x.seen(100 * i, i, i % 4, i);
        }
        x.force(5);
        x.image(0);
        x.road(1, 2, 1);
        x.image(1);
        x.terms(0, 990);
        for (int i = 0; i < 4; i++) {
            x.pay(i, i + 1, 10 + i);
            x.wind(i, 6);
            x.commit(i, i + 1, 3);
            x.pass();
            x.wind(i, 5);
        }
        return x;
    }

    static AnswerDays crowdedButSeen() {
        AnswerDays x = crowded();
        x.forget();
        return x;
    }

    /** Two of three people whose balances are at their most and least. */
    static AnswerDays richest() {
        AnswerDays x = of(3, 1);
        for (int i = 0; i < 101; i++) {
            x.pay(0, 1, 99);
        }
        return x;
    }

    static AnswerDays after(AnswerDays x, ToLongFunction<AnswerDays> call) {
        call.applyAsLong(x);
        return x;
    }

    static AnswerDays byLaw(AnswerDays x, String law) {
        x.end(0);
        x.force(Check.law(x, law));
        return x;
    }

    /** With a text on its tape, which was empty. */
    static AnswerDays with(AnswerDays x, String text) {
        Check.put(x, Check.bytesOf(text));
        return x;
    }
}
