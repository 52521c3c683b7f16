import java.util.ArrayList;
import java.util.List;
import java.util.function.Supplier;
import java.util.function.ToLongFunction;

/**
 * Lays an object on which a call was made beside a twin on which it was not: what a call changes can be seen so.
 * Each view is taken of new twins, so that no object is used for more than the 512 calls of the document.
 */
final class Twins {
    private static final int[] REASONS = {-1, -2, -3, -5, -6};

    /** Something that is asked of an object and its answers, as rows. */
    private interface View {
        void ask(AnswerDays x, List<String> rows);
    }

    /** A call with one number that may be so or not. */
    interface Numbered {
        long call(AnswerDays x, int number);
    }

    private final Check check;

    Twins(Check check) {
        this.check = check;
    }

    /** A call that is REFUSED: its answer, status(), count(), and that it changes nothing else. */
    void refused(String call, Supplier<AnswerDays> maker, ToLongFunction<AnswerDays> made, int by) {
        refusedAsReader(call, maker, made, by);
        same(call, "what was read", Twins::reading, maker, made);
    }

    /** The same for law(), orders(), whose TAPE, FAULT and stop are their own matter. */
    void refusedAsReader(String call, Supplier<AnswerDays> maker, ToLongFunction<AnswerDays> made, int by) {
        AnswerDays x = maker.get();
        int[] before = refusals(x);
        check.due(call, made.applyAsLong(x), by);
        check.due(call + ", then status()", x.status(), by);
        int[] behind = refusals(x);
        for (int i = 0; i < REASONS.length; i++) {
            check.due(call + ", then count(" + (7 + i) + ") more", behind[i] - before[i], REASONS[i] == by ? 1 : 0);
        }
        unchanged(call, maker, made);
    }

    /** A call of those that status() tells of, which is not REFUSED though the one ahead of it was. */
    void granted(String call, Supplier<AnswerDays> maker, ToLongFunction<AnswerDays> made, long answer) {
        AnswerDays x = maker.get();
        x.image(2);
        check.due(call + ": a refused one is ahead", x.status(), -1);
        int[] before = refusals(x);
        check.due(call, made.applyAsLong(x), answer);
        check.due(call + ", then status()", x.status(), 0);
        int[] behind = refusals(x);
        for (int i = 0; i < REASONS.length; i++) {
            check.due(call + ", then count(" + (7 + i) + ")", behind[i], before[i]);
        }
    }

    /** A question: its answer, and that it changes nothing at all, status() and count() not either. */
    void asked(String call, Supplier<AnswerDays> maker, ToLongFunction<AnswerDays> made, long answer) {
        check.due(call, made.applyAsLong(maker.get()), answer);
        unchanged(call, maker, made);
        same(call, "what was read", Twins::reading, maker, made);
        same(call, "what was refused", Twins::refusing, maker, made);
        Supplier<AnswerDays> refusing = () -> {
            AnswerDays x = maker.get();
            x.back(-1);
            return x;
        };
        same(call, "what was refused", Twins::refusing, refusing, made);
    }

    /** A call with a number that may be least .. most: by others it is REFUSED. */
    void refusedBeyond(String call, Supplier<AnswerDays> maker, Numbered made, int least, int most, int by) {
        for (int number : new int[] {least, most}) {
            check.due(call + " of " + number + " is not refused", made.call(maker.get(), number) >= 0);
        }
        for (int number : beyond(least, most)) {
            refused(call + " of " + number, maker, x -> made.call(x, number), by);
        }
    }

    /** A question with a number that may be least .. most: for others there is NONE, NOTHING. */
    void askedBeyond(String call, Supplier<AnswerDays> maker, Numbered made, int least, int most, int none) {
        for (int number : new int[] {least, most}) {
            check.due(call + " of " + number + " is answered", made.call(maker.get(), number) != none);
        }
        for (int number : beyond(least, most)) {
            asked(call + " of " + number, maker, x -> made.call(x, number), none);
        }
    }

    void noneBeyond(String call, Supplier<AnswerDays> maker, Numbered made, int least, int most) {
        askedBeyond(call, maker, made, least, most, AnswerDays.NONE);
    }

    private static int[] beyond(int least, int most) {
        return new int[] {least - 1, most + 1, Integer.MIN_VALUE, Integer.MAX_VALUE};
    }

    private void unchanged(String call, Supplier<AnswerDays> maker, ToLongFunction<AnswerDays> made) {
        same(call, "the land", Twins::land, maker, made);
        same(call, "what is asked of days", Twins::days, maker, made);
        same(call, "what can be undone", Twins::undoing, maker, made);
        for (int k = 0; k < 2; k++) {
            int image = k;
            same(call, "image " + k, (x, rows) -> {
                rows.add("back = " + x.back(image));
                land(x, rows);
            }, maker, made);
        }
    }

    private void same(String call, String what, View view, Supplier<AnswerDays> maker, ToLongFunction<AnswerDays> made) {
        AnswerDays x = maker.get();
        made.applyAsLong(x);
        List<String> got = new ArrayList<>();
        view.ask(x, got);
        List<String> want = new ArrayList<>();
        view.ask(maker.get(), want);
        String differs = "";
        for (int i = 0; i < Math.max(got.size(), want.size()) && differs.isEmpty(); i++) {
            String one = i < got.size() ? got.get(i) : "nothing more";
            String other = i < want.size() ? want.get(i) : "nothing more";
            differs = one.equals(other) ? "" : ": " + one + ", without it " + other;
        }
        check.due(call + " leaves " + what + " as it was" + differs, differs.isEmpty());
    }

    private static int[] refusals(AnswerDays x) {
        int[] many = new int[REASONS.length];
        for (int i = 0; i < many.length; i++) {
            many[i] = x.count(7 + i);
        }
        return many;
    }

    private static void tell(List<String> rows, String call, long answer) {
        rows.add(call + " = " + answer);
    }

    /** All that an IMAGE keeps, and how many can be undone. */
    private static void land(AnswerDays x, List<String> rows) {
        for (int what : new int[] {0, 1, 2, 3, 4, 5, 12, 13, 14, 15}) {
            tell(rows, "count(" + what + ")", x.count(what));
        }
        for (int i = 0; i < 6; i++) {
            for (int what = 0; what < 2; what++) {
                tell(rows, "of(" + i + ", " + what + ")", x.of(i, what));
                tell(rows, "at(" + i + ", " + what + ")", x.at(i, what));
            }
        }
        for (int i = 0; i < 4; i++) {
            for (int what = 0; what < 3; what++) {
                tell(rows, "place(" + i + ", " + what + ")", x.place(i, what));
            }
        }
        for (int deed = 0; deed < 6; deed++) {
            for (int doer = 0; doer < 6; doer++) {
                int place = (deed + doer) % 4;
                tell(rows, "who of " + deed + " by " + doer, x.who(deed, doer, place, deed));
                tell(rows, "owed for " + deed + " by " + doer, x.asks(deed, doer, place, 0));
                tell(rows, "barred " + deed + " by " + doer, x.asks(deed, doer, place, 1));
            }
        }
        for (int law = -1; law < 6; law++) {
            for (int deed = 0; deed < 3; deed++) {
                tell(rows, "compare(" + law + ", " + deed + ")", x.compare(law, deed, deed, law & 3));
            }
        }
        tell(rows, "doers()", x.doers());
        tell(rows, "quits()", x.quits());
        tell(rows, "few(3, 9)", x.few(3, 9));
    }

    private static void days(AnswerDays x, List<String> rows) {
        for (int deed = 0; deed < 6; deed++) {
            for (int place = 0; place < 4; place++) {
                int doer = (deed + place) % 3;
                tell(rows, "period of " + deed, x.period(deed, doer, place));
                tell(rows, "first of " + deed, x.first(deed, doer, place, deed));
                tell(rows, "walk of " + deed, x.walk(deed, doer, place, 9, 0));
                tell(rows, "walk of " + deed, x.walk(deed, doer, place, 9, 7));
                tell(rows, "look of " + deed, x.look(deed, place, 0));
                tell(rows, "look of " + deed, x.look(deed, place, 1));
                tell(rows, "fair of " + deed, x.fair(deed, place, 0));
                tell(rows, "fair of " + deed, x.fair(deed, place, 1));
                tell(rows, "plan", x.plan(doer, place, deed % 3, 0));
                tell(rows, "plan", x.plan(doer, place, deed % 3, 1));
                tell(rows, "loopholes", x.loopholes(place, deed, -1));
                tell(rows, "loopholes", x.loopholes(place, deed, 2));
            }
        }
        for (int person = 0; person < 6; person++) {
            tell(rows, "drawn(" + person + ")", x.drawn(person));
        }
    }

    private static void reading(AnswerDays x, List<String> rows) {
        tell(rows, "fault()", x.fault());
        tell(rows, "stopped()", x.stopped());
        tell(rows, "blots()", x.blots());
        tell(rows, "count(6)", x.count(6));
        tell(rows, "orders()", x.orders());
        tell(rows, "fault()", x.fault());
    }

    private static void refusing(AnswerDays x, List<String> rows) {
        tell(rows, "status()", x.status());
        for (int i = 0; i < REASONS.length; i++) {
            tell(rows, "count(" + (7 + i) + ")", x.count(7 + i));
        }
    }

    private static void undoing(AnswerDays x, List<String> rows) {
        for (int i = 0; i < 18; i++) {
            tell(rows, "undo()", x.undo());
            tell(rows, "day", x.count(13));
            tell(rows, "can be undone", x.count(5));
            for (int person = 0; person < 6; person++) {
                tell(rows, "of(" + person + ", 1)", x.of(person, 1));
            }
            for (int place = 0; place < 4; place++) {
                tell(rows, "place(" + place + ", 0)", x.place(place, 0));
            }
        }
    }
}
