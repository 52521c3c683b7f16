/** For each promise of the document what is due by its words: ordinary inputs, the edges that it names, wrong inputs. */
public final class PromisesTest {
    private static final int NONE = AnswerDays.NONE;
    private static final int NOTHING = AnswerDays.NOTHING;
    private static final int LOW = Integer.MIN_VALUE;
    private static final int HIGH = Integer.MAX_VALUE;

    private static final Check C = new Check("PromisesTest");

    public static void main(String[] args) {
        newObject();
        person();
        of();
        deed();
        at();
        place();
        road();
        asks();
        terms();
        feed();
        end();
        row();
        blots();
        law();
        lawFaults();
        lawLimits();
        reckoning();
        orders();
        ordersWords();
        ordersWhollyOrNot();
        fault();
        stopped();
        force();
        commit();
        pay();
        wind();
        pass();
        undo();
        who();
        first();
        period();
        loopholes();
        plan();
        walk();
        quits();
        seen();
        forget();
        doers();
        look();
        fair();
        few();
        compare();
        years();
        drawn();
        image();
        back();
        count();
        status();
        C.close();
    }

    private static void due(String call, long got, long want) {
        C.due(call, got, want);
    }

    /** So many people with signs 0, 1 .. and deeds of kinds 0, 1 .. and worths 1, 2 .. */
    private static AnswerDays land(int people, int deeds) {
        AnswerDays x = new AnswerDays();
        for (int i = 0; i < people; i++) {
            x.person(i);
        }
        for (int i = 0; i < deeds; i++) {
            x.deed(i % 4, i + 1);
        }
        return x;
    }

    private static AnswerDays land(int people, int deeds, String law) {
        AnswerDays x = land(people, deeds);
        x.force(Check.law(x, law));
        return x;
    }

    private static void newObject() {
        AnswerDays x = new AnswerDays();
        for (int what = 0; what <= 11; what++) {
            due("p1 count(" + what + ")", x.count(what), 0);
        }
        due("p1 force", x.count(12), NONE);
        due("p1 day", x.count(13), 0);
        due("p1 wakes", x.count(14), 1);
        due("p1 mood", x.count(15), 0);
        for (int p = 0; p < 4; p++) {
            due("p1 clock", x.place(p, 0), 0);
            due("p1 date", x.place(p, 1), 0);
            due("p1 roads", x.place(p, 2), 0);
        }
        due("p1 fault", x.fault(), NONE);
        due("p1 stopped", x.stopped(), NONE);
        due("p1 blots", x.blots(), 0);
        due("p1 status", x.status(), 0);
        due("p1 quits", x.quits(), 0);
        due("p1 doers", x.doers(), 0);
        due("p1 drawn", x.drawn(0), NOTHING);
        due("p1 NONE", AnswerDays.NONE, -1);
        due("p1 NOTHING", AnswerDays.NOTHING, -10000);
    }

    private static void person() {
        AnswerDays x = new AnswerDays();
        due("p2 below", x.person(-1), -1);
        due("p2 beyond", x.person(10), -1);
        due("p2 lowest", x.person(LOW), -1);
        for (int i = 0; i < 6; i++) {
            due("p2 number", x.person(i == 0 ? 0 : 9), i);
            due("p2 balance", x.of(i, 1), 0);
        }
        due("p2 no room", x.person(5), -5);
        due("p2 -1 ahead of -5", x.person(10), -1);
        due("p2 how many", x.count(0), 6);
    }

    private static void of() {
        AnswerDays x = land(0, 0);
        x.person(4);
        x.person(9);
        x.pay(0, 1, 99);
        due("p3 sign", x.of(0, 0), 4);
        due("p3 sign", x.of(1, 0), 9);
        due("p3 balance", x.of(0, 1), 99);
        due("p3 balance below 0", x.of(1, 1), -99);
        due("p3 no such", x.of(2, 0), NOTHING);
        due("p3 below", x.of(-1, 1), NOTHING);
        due("p3 what", x.of(0, 2), NOTHING);
        due("p3 what below", x.of(0, -1), NOTHING);
        due("p3 far", x.of(HIGH, LOW), NOTHING);
    }

    private static void deed() {
        AnswerDays x = new AnswerDays();
        due("p4 kind", x.deed(-1, 1), -1);
        due("p4 kind", x.deed(4, 1), -1);
        due("p4 worth", x.deed(0, 0), -1);
        due("p4 worth", x.deed(0, 10), -1);
        for (int i = 0; i < 6; i++) {
            due("p4 number", x.deed(i % 2 == 0 ? 3 : 0, i % 2 == 0 ? 9 : 1), i);
        }
        due("p4 no room", x.deed(0, 1), -5);
        due("p4 -1 ahead of -5", x.deed(0, 0), -1);
        due("p4 how many", x.count(2), 6);
    }

    private static void at() {
        AnswerDays x = new AnswerDays();
        x.deed(3, 7);
        due("p5 kind", x.at(0, 0), 3);
        due("p5 worth", x.at(0, 1), 7);
        due("p5 what", x.at(0, 2), NONE);
        due("p5 what", x.at(0, -1), NONE);
        due("p5 no such", x.at(1, 0), NONE);
        due("p5 no such", x.at(-1, 0), NONE);
    }

    private static void place() {
        AnswerDays x = new AnswerDays();
        x.terms(0, 999);
        x.wind(3, 6);
        x.road(3, 0, 1);
        x.road(2, 3, 1);
        due("p6 clock", x.place(3, 0), 6);
        due("p6 date", x.place(3, 1), 1005);
        due("p6 roads", x.place(3, 2), 5);
        due("p6 roads", x.place(0, 2), 8);
        due("p6 roads", x.place(1, 2), 0);
        due("p6 other date", x.place(1, 1), 999);
        due("p6 what", x.place(0, 3), NONE);
        due("p6 what", x.place(0, -1), NONE);
        due("p6 place", x.place(4, 0), NONE);
        due("p6 place", x.place(-1, 0), NONE);
    }

    private static void road() {
        AnswerDays x = new AnswerDays();
        due("p7 made", x.road(1, 2, 1), 0);
        due("p7 there", x.road(2, 1, 1), 1);
        due("p7 taken", x.road(2, 1, 0), 1);
        due("p7 not there", x.road(1, 2, 0), 0);
        due("p7 bits", x.place(1, 2), 0);
        due("p7 itself", x.road(1, 1, 1), -1);
        due("p7 place", x.road(-1, 1, 1), -1);
        due("p7 place", x.road(1, 4, 1), -1);
        due("p7 is", x.road(1, 2, 2), -1);
        due("p7 is", x.road(1, 2, -1), -1);
        due("p7 refused", x.count(7), 5);
    }

    private static void asks() {
        AnswerDays x = land(3, 3, "owes 10 if doer = 1;owes 0 - 5 if doer = 2;owes 100 + worth if kind = 2;bars if place = 3;answers 9 if place = 1");
        due("p8 worth without", x.asks(1, 0, 0, 0), 2);
        due("p8 told", x.asks(0, 1, 0, 0), 10);
        due("p8 nearest below", x.asks(0, 2, 0, 0), 0);
        due("p8 nearest beyond, the last", x.asks(2, 1, 0, 0), 99);
        due("p8 not barred", x.asks(0, 0, 2, 1), 0);
        due("p8 barred", x.asks(0, 0, 3, 1), 1);
        due("p8 barred owes all the same", x.asks(0, 1, 3, 0), 10);
        due("p8 nobody owes all the same", x.asks(0, 1, 1, 0), 10);
        due("p8 deed", x.asks(3, 0, 0, 0), NONE);
        due("p8 doer", x.asks(0, 3, 0, 0), NONE);
        due("p8 place", x.asks(0, 0, 4, 0), NONE);
        due("p8 what", x.asks(0, 0, 0, 2), NONE);
        due("p8 what", x.asks(0, 0, 0, -1), NONE);
        due("p8 deed", x.asks(-1, 0, 0, 0), NONE);
        due("p8 a law at the end of a full tape", land(1, 1, "owes 9" + " ".repeat(392) + "+7").asks(0, 0, 0, 0), 16);
        AnswerDays y = land(1, 1, "owes date;bars if date = 3");
        y.terms(0, 2);
        due("p8 now", y.asks(0, 0, 0, 0), 2);
        y.wind(0, 1);
        due("p8 the date there", y.asks(0, 0, 0, 0), 3);
        due("p8 barred by date", y.asks(0, 0, 0, 1), 1);
    }

    private static void terms() {
        AnswerDays x = new AnswerDays();
        due("p9 day", x.terms(0, 999), 0);
        due("p9 day was", x.terms(0, 0), 999);
        due("p9 wakes was", x.terms(1, 10), 1);
        due("p9 wakes", x.terms(1, 0), 10);
        due("p9 mood", x.terms(2, 9), 0);
        due("p9 mood was", x.terms(2, 3), 9);
        due("p9 day beyond", x.terms(0, 1000), -1);
        due("p9 wakes beyond", x.terms(1, 11), -1);
        due("p9 mood beyond", x.terms(2, 10), -1);
        due("p9 below", x.terms(0, -1), -1);
        due("p9 what", x.terms(3, 0), -1);
        due("p9 what", x.terms(-1, 0), -1);
        due("p9 what", x.terms(LOW, LOW), -1);
        due("p9 stays", x.count(15), 3);
    }

    private static void feed() {
        AnswerDays x = new AnswerDays();
        due("p10 twenty", x.feed(0, 0, 0, 0, 0), 20);
        for (int i = 2; i <= 19; i++) {
            due("p10 more", x.feed(-1, LOW, HIGH, 1, 2), 20 * i);
        }
        x.end(361);
        x.feed(0, 0, 0, 0, 0);
        due("p10 too many", x.feed(0, 0, 0, 0, 0), NONE);
        due("p10 nothing came", x.count(6), 381);
        x.end(380);
        due("p10 just 400", x.feed(0, 0, 0, 0, 0), 400);
        due("p10 no more", x.feed(0, 0, 0, 0, 0), NONE);
        due("p10 is not refused", x.count(7), 0);
        AnswerDays y = new AnswerDays();
        y.feed(0x00010302, 0x01030209, 0x03090008, 0, 0);
        y.end(12);
        due("p10 the highest first", y.row(), 6);
        for (int i = 0; i < 6; i++) {
            due("p10 kind", y.at(i, 0), new int[] {0, 3, 1, 2, 3, 0}[i]);
            due("p10 worth", y.at(i, 1), new int[] {1, 2, 3, 9, 9, 8}[i]);
        }
    }

    private static void end() {
        AnswerDays x = new AnswerDays();
        due("p11 nothing", x.end(0), 0);
        due("p11 not so many", x.end(1), NONE);
        x.feed(1, 2, 3, 4, 5);
        due("p11 below", x.end(-1), NONE);
        due("p11 beyond", x.end(21), NONE);
        due("p11 all", x.end(20), 20);
        due("p11 less", x.end(7), 7);
        due("p11 not so many now", x.end(8), NONE);
        due("p11 bytes", x.count(6), 7);
        due("p11 goes on", x.feed(0, 0, 0, 0, 0), 27);
    }

    private static void row() {
        AnswerDays x = new AnswerDays();
        due("p12 empty", x.row(), -6);
        Check.put(x, 0, 1, 3, 9, 4, 1, 0, 0, 0, 10, 255, 1, 1, 128, 2);
        due("p12 came", x.row(), 2);
        due("p12 tape is empty", x.count(6), 0);
        due("p12 first", x.at(0, 1), 1);
        due("p12 second", x.at(1, 0), 3);
        Check.put(x, 1, 1, 1, 2, 1, 3, 1, 4, 1, 5, 1, 6);
        due("p12 room for four", x.row(), 4);
        due("p12 no room is a blot", x.blots(), 2);
        due("p12 last", x.at(5, 1), 4);
        Check.put(x, 1);
        due("p12 none came", x.row(), 0);
        AnswerDays y = new AnswerDays();
        y.feed(0x01010101, 0, 0, 0, 0);
        y.end(3);
        due("p12 what was cut off is not read", y.row(), 1);
        due("p12 a half is a blot", y.blots(), 1);
        for (int i = 0; i < 20; i++) {
            y.feed(0x03090309, 0x03090309, 0x03090309, 0x03090309, 0x03090309);
        }
        y.end(399);
        due("p12 of a full tape", y.row(), 5);
        due("p12 of a full tape", y.blots(), 195);
    }

    private static void blots() {
        AnswerDays x = new AnswerDays();
        due("p13 ahead", x.blots(), 0);
        Check.put(x, 0, 1, 9, 9, 7);
        x.row();
        due("p13 two", x.blots(), 2);
        x.row();
        due("p13 refused keeps", x.blots(), 2);
        x.image(0);
        Check.put(x, 0, 1);
        x.row();
        due("p13 none", x.blots(), 0);
        Check.put(x, 9);
        x.row();
        x.back(0);
        due("p13 not in images", x.blots(), 1);
    }

    private static void law() {
        AnswerDays x = land(2, 1);
        for (int i = 0; i < 6; i++) {
            due("p14 number", Check.law(x, "owes " + i), i);
        }
        due("p14 tape is empty", x.count(6), 0);
        Check.put(x, Check.bytesOf("nonsense"));
        due("p14 no room ahead of reading", x.law(), -5);
        due("p14 tape is empty then, too", x.count(6), 0);
        due("p14 fault untouched", x.fault(), NONE);
        due("p14 not in force by itself", x.count(12), NONE);
        due("p14 how many", x.count(4), 6);
        AnswerDays y = land(2, 1);
        due("p14 nothing", y.law(), -6);
        due("p14 fault", y.fault(), 0);
        due("p14 blanks", Check.law(y, "   "), -6);
        due("p14 fault at the end", y.fault(), 3);
        due("p14 wrong, tape empty", Check.law(y, "owes"), -6);
        due("p14 tape is empty", y.count(6), 0);
        due("p14 no law came", y.count(4), 0);
        Check.put(y, Check.bytesOf("owes 123 bars"));
        y.end(7);
        due("p14 what was cut off is not read", y.law(), 0);
        y.force(0);
        due("p14 a number is cut, too", y.asks(0, 0, 0, 0), 12);
        Check.put(y, Check.bytesOf("owes 3 + mood"));
        y.end(12);
        due("p14 a word is cut, too", y.law(), -6);
        due("p14 a word is cut, too", y.fault(), 9);
    }

    private static void faultAt(String text, int place) {
        AnswerDays x = new AnswerDays();
        due("FAULT of law " + text, Check.law(x, text), place == NONE ? 0 : -6);
        due("FAULT place of law " + text, x.fault(), place);
    }

    private static void lawFaults() {
        faultAt("bars", NONE);
        faultAt("  bars  ", NONE);
        faultAt("answers0if1=1", NONE);
        faultAt("owes[[1]]*2", NONE);
        faultAt("owes 0001000", NONE);
        faultAt("owes 1001", 5);
        faultAt("owes 99999999999999999999", 5);
        faultAt("owes -1", 5);
        faultAt("owes 1 2", 7);
        faultAt("owes (1)", 5);
        faultAt("owes [1", 7);
        faultAt("owes [1)", 7);
        faultAt("owes 1]", 6);
        faultAt("owes 1 +", 8);
        faultAt("owes 1 + ;", 9);
        faultAt("owes day", 5);
        faultAt("owes if", 5);
        faultAt("owesdoer", 0);
        faultAt("Bars", 0);
        faultAt("bars;", 5);
        faultAt("bars ;  ", 8);
        faultAt("bars;;bars", 5);
        faultAt("bars bars", 5);
        faultAt("bars times 2", 5);
        faultAt("bars if", 7);
        faultAt("bars if 1", 9);
        faultAt("bars if 1 < ", 12);
        faultAt("bars if 1 < 2 < 3", 14);
        faultAt("bars if [1 = 1]", 11);
        faultAt("bars if (1 = 1", 14);
        faultAt("bars if (1) = 1", 10);
        faultAt("bars if not 1 = 1 and not (1 = 2 or 2 > 1)", NONE);
        faultAt("bars if and", 8);
        faultAt("bars if 1=1 or", 14);
        faultAt("bars if 1=1 and if", 16);
        faultAt("bars if not", 11);
        faultAt("bars\n", 4);
        faultAt("bars \u00ff", 5);
        faultAt("pass", 0);
        faultAt("xars", 0);
        faultAt("barz", 0);
        faultAt("bar", 0);
        faultAt("barss", 0);
        faultAt("bars1", 4);
        faultAt("barsz", 0);
        faultAt("barsa", 0);
        faultAt("bars\0", 4);
        faultAt("bars\0;bars", 4);
        faultAt("owes 1/2:", 8);
        faultAt("owes `", 5);
        faultAt("owes doe", 5);
        faultAt("owes xoer", 5);
        faultAt("owes 1 iff 1 = 1", 7);
        faultAt("owes doer+sign+kind+worth+place+date+week+mood", NONE);
    }

    private static String many(String first, String next, int n) {
        return first + next.repeat(n - 1);
    }

    private static void lawLimits() {
        faultAt(many("bars", ";bars", 12), NONE);
        faultAt(many("bars", ";bars", 13), 60);
        faultAt(many("bars", ";bars", 12) + ";", 60);
        faultAt(many("bars", ";bars", 12) + "; ", 61);
        faultAt(many("owes 1", "+1", 50), NONE);
        faultAt(many("owes 1", "+1", 51), 105);
        faultAt(many("owes 1", "+mood", 50), NONE);
        faultAt(many("owes 1", "+mood", 51) + "+1", 5 + 50 * 5 - 3);
        faultAt(many("owes 1", "+1", 25) + ";" + many("owes 1", "+1", 25), NONE);
        faultAt(many("owes 1", "+1", 25) + ";" + many("owes 1", "+1", 26), 55 + 5 + 50);
        faultAt("owes " + "[".repeat(8) + "1" + "]".repeat(8), NONE);
        faultAt("owes " + "[".repeat(9) + "1" + "]".repeat(9), 13);
        faultAt("bars if " + "(".repeat(8) + "1=1" + ")".repeat(8), NONE);
        faultAt("bars if " + "(".repeat(9) + "1=1" + ")".repeat(9), 16);
        faultAt("bars if ((((([[[1]]]=1)))))", NONE);
        faultAt("bars if ((((([[[[1]]]]=1)))))", 16);
        faultAt("bars if (1=1) and ((1=1)) and " + "(".repeat(8) + "1=1" + ")".repeat(8), NONE);
        faultAt("bars if " + "not ".repeat(90) + "1=1", NONE);
        faultAt("owes 1" + " ".repeat(394), NONE);
        faultAt("owes 1" + " ".repeat(393) + "1", 399);
        faultAt("owes +" + " ".repeat(394), 5);
        faultAt("+".repeat(400), 0);
        faultAt("x".repeat(400), 0);
        faultAt("bars;".repeat(80), 60);
        faultAt("owes " + "0".repeat(394) + "7", NONE);
        faultAt("owes " + "0".repeat(391) + "1001", 5);
        faultAt("bars if " + "(1=1)or".repeat(24) + "(1=1)" + " ".repeat(400 - 8 - 24 * 7 - 5), NONE);
    }

    /** What asks() tells of a law that owes a sum. */
    private static void owes(String sum, int want) {
        AnswerDays x = land(2, 2, "owes 77;owes " + sum);
        due("owes " + sum, x.asks(1, 1, 2, 0), want);
    }

    private static void bars(String test, int want) {
        AnswerDays x = land(2, 2, "bars if " + test);
        due("bars if " + test, x.asks(1, 1, 2, 1), want);
    }

    private static void reckoning() {
        owes("2 + 3 * 4", 14);
        owes("[2 + 3] * 4", 20);
        owes("20 - 3 - 4", 13);
        owes("100 / 7 / 2", 7);
        owes("100 % 7 * 3", 6);
        owes("50 + [0 - 7] / 2", 47);
        owes("50 + [0 - 7] % 2", 49);
        owes("50 + 7 % [0 - 2]", 51);
        owes("1 / 0", 77);
        owes("1 % 0", 77);
        owes("0 * [1 / 0]", 77);
        owes("1000 * 1000 * 1000 / 1000 / 1000 / 100", 10);
        owes("[1000 * 1000 * 1000 + 1] / 1000 / 1000 / 100", 77);
        owes("1000 * 1000 * 1000 + 1 - 1000 * 1000 * 1000", 77);
        owes("0 - 1000 * 1000 * 1000 + 5 + 1000 * 1000 * 1000", 5);
        owes("0 - 1000 * 1000 * 1000 - 1 + 1000 * 1000 * 1000", 77);
        owes("doer * 10 + sign", 11);
        owes("kind * 10 + worth", 12);
        owes("place * 10 + mood", 20);
        owes("date + week", 0);
        bars("1 = 1", 1);
        bars("2 > 1", 1);
        bars("1 > 2", 0);
        bars("1 < 2", 1);
        bars("2 < 2", 0);
        bars("1 = 2 and 1 = 1 or 1 = 1", 1);
        bars("1 = 1 or 1 = 1 and 1 = 2", 1);
        bars("(1 = 1 or 1 = 1) and 1 = 2", 0);
        bars("not 1 = 2 and 1 = 2", 0);
        bars("not (1 = 2 and 1 = 2)", 1);
        bars("not not 1 = 1", 1);
        bars("1 / 0 = 0", 0);
        bars("not 1 / 0 = 0", 0);
        bars("1 = 1 or 1 / 0 = 0", 1);
        bars("1 / 0 = 0 or 1 = 1", 0);
        bars("1 = 2 and 1 / 0 = 0", 0);
        bars("not (1 = 2 and 1 / 0 = 0)", 1);
        bars("1 = 1 and 1 / 0 = 0", 0);
        bars("1 = 2 or 1 = 1 or 1 / 0 = 0", 1);
        bars("1 = 2 and 1 / 0 = 1 or 1 = 1", 1);
        bars("[1 - 2] < 0", 1);
    }

    private static void orders() {
        AnswerDays x = land(3, 2);
        due("p15 two", Check.orders(x, "pass;pay 0 to 1"), 2);
        due("p15 day", x.count(13), 1);
        due("p15 paid one", x.of(0, 1), 1);
        due("p15 times", Check.orders(x, "pass times 20"), 20);
        due("p15 none", Check.orders(x, "pass if 1 = 2"), 0);
        due("p15 broken test: not run", Check.orders(x, "pass if 1 / 0 = 0;wind 3"), 1);
        due("p15 clock one more", x.place(3, 0), 1);
        due("p15 behind 6 is 0", Check.orders(x, "wind 3 times 6"), 6);
        due("p15 clock", x.place(3, 0), 0);
        due("p15 broken sum", Check.orders(x, "wind 1 / 0"), -3);
        due("p15 no such place", Check.orders(x, "wind 4"), -3);
        due("p15 no such place", Check.orders(x, "wind 0 - 1"), -3);
        due("p15 no such person", Check.orders(x, "pay 0 to 3"), -3);
        due("p15 itself", Check.orders(x, "pay 1 to 1"), -3);
        due("p15 no such deed", Check.orders(x, "do 2 by 0 at 0"), -3);
        due("p15 no such doer", Check.orders(x, "do 0 by 3 at 0"), -3);
        due("p15 no such place", Check.orders(x, "do 0 by 0 at 4"), -3);
        due("p15 far place", Check.orders(x, "do 0 by 0 at 1000 * 1000 * 1000"), -3);
        due("p15 nothing", x.orders(), -6);
        due("p15 blanks", Check.orders(x, "  "), -6);
        due("p15 blanks' fault", x.fault(), 2);
        due("p15 a law's clause", Check.orders(x, "bars"), -6);
        due("p15 wrong", Check.orders(x, "pass;"), -6);
        due("p15 tape is empty", x.count(6), 0);
        x.terms(0, 998);
        due("p15 no day behind 999", Check.orders(x, "pass times 2"), -3);
        due("p15 the day stays", x.count(13), 998);
        due("p15 just one", Check.orders(x, "pass times 1"), 1);
        orderFaultAt("pass times 0", 11);
        orderFaultAt("pass times 21", 11);
        orderFaultAt("pass times 020", NONE);
        orderFaultAt("pass times day", 11);
        orderFaultAt("pass times", 10);
        orderFaultAt("pass if 1=1 times 2", 12);
        orderFaultAt("pass 1", 5);
        orderFaultAt("wind balance 6", 13);
        orderFaultAt("wind balance 5", NONE);
        orderFaultAt("wind clock 3", NONE);
        orderFaultAt("wind clock 4", 11);
        orderFaultAt("wind clock clock 3", 11);
        orderFaultAt("wind balance", 12);
        orderFaultAt("do 0 by 1 to 2", 10);
        orderFaultAt("do 0 at 1", 5);
        orderFaultAt("pay 0 by 1", 6);
        orderFaultAt("wind doer", 5);
        orderFaultAt(many("pass", ";pass", 13), 60);
        orderFaultAt(many("wind clock0", "+clock0", 50), NONE);
        orderFaultAt(many("wind clock0", "+clock0", 51), 5 + 50 * 7);
        orderFaultAt(many("pass times 1", ";pass times 1", 12) + " if " + many("1", "+1", 49) + "=1", NONE);
        orderFaultAt(many("wind 1", "+1", 51), 105);
    }

    private static void orderFaultAt(String text, int place) {
        AnswerDays x = new AnswerDays();
        int answer = Check.orders(x, text);
        due("FAULT place of orders " + text, x.fault(), place);
        due("FAULT of orders " + text, answer == -6 ? 1 : 0, place == NONE ? 0 : 1);
    }

    private static void ordersWords() {
        AnswerDays x = land(3, 2, "answers 2;answers 9 if kind = 1");
        due("p15 latest none", Check.orders(x, "wind 1 if latest = 0 - 1"), 1);
        due("p15 latest told", Check.orders(x, "do 0 by 0 at 0;wind 1 if latest = 2;do 1 by 0 at 0;wind 1 if latest = 6"), 4);
        due("p15 latest is of this text", Check.orders(x, "wind 1 if latest = 0 - 1"), 1);
        due("p15 done", Check.orders(x, "wind 2 if done = 1;wind 2 if done = 0;wind 2 times 5 if done < 4"), 4);
        x = land(3, 1);
        due("p15 even", Check.orders(x, "pass times even;"), -6);
        due("p15 even", Check.orders(x, "pass if even = 3;pay 0 to 1 if even = 3;pass if even = 1"), 3);
        due("p15 balance", Check.orders(x, "pass if balance 0 = 1 and balance 1 = 0 - 1 and balance 2 = 0"), 1);
        due("p15 balance of none", Check.orders(x, "pass if balance 5 = 0 - 1"), 1);
        due("p15 day", Check.orders(x, "pass times 20 if day < 6"), 2);
        due("p15 clock", Check.orders(x, "wind 2 times 9 if clock 2 < 3"), 3);
        due("p15 sums by words", Check.orders(x, "wind done + 1;wind done + 1"), 2);
        due("p15 clock 1", x.place(1, 0), 1);
        due("p15 clock 2", x.place(2, 0), 4);
        due("p15 its if is asked each time", Check.orders(x, "pay 2 to 0 times 20 if balance 2 < 7"), 7);
        due("p15 paid", x.of(2, 1), 7);
    }

    private static void ordersWhollyOrNot() {
        AnswerDays x = land(2, 1, "answers 1 - doer;owes 50;bars if place = 3");
        for (int i = 0; i < 16; i++) {
            x.wind(1, (i + 1) % 7);
        }
        x.pay(0, 1, 3);
        due("p15 can't be", Check.orders(x, "do 0 by 0 at 0 times 20;wind 2;pass times 5;do 0 by 1 at 3"), -3);
        due("p15 balance", x.of(0, 1), 3);
        due("p15 balance", x.of(1, 1), -3);
        due("p15 clock", x.place(2, 0), 0);
        due("p15 day", x.count(13), 0);
        due("p15 undone", x.count(5), 16);
        due("p15 undo as ahead of it", x.undo(), 1);
        due("p15 undo as ahead of it", x.undo(), 2);
        due("p15 clock was", x.place(1, 0), 1);
        due("p15 beyond 9999", Check.orders(x, many("do 0 by 0 at 0 times 20", ";do 0 by 0 at 0 times 20", 10)), -3);
        due("p15 stopped", x.stopped(), 9);
        due("p15 all is as it was", x.of(0, 1), 0);
        due("p15 just below 9999", Check.orders(x, many("do 0 by 0 at 0 times 20", ";do 0 by 0 at 0 times 20", 9)
            + ";do 0 by 0 at 0 times 19;pay 0 to 1 times 20"), 219);
        due("p15 and more", Check.orders(x, "pay 0 to 1 times 20;pay 0 to 1 times 9"), 29);
        due("p15 most", x.of(0, 1), 9999);
        due("p15 least", x.of(1, 1), -9999);
        due("p15 no more", Check.orders(x, "pay 0 to 1"), -3);
        due("p15 by commit neither", x.commit(0, 0, 0), -3);
        due("p15 nor by pay", x.pay(0, 1, 1), -3);
        due("p15 the other way", x.commit(0, 1, 0), 0);
        due("p15 less", x.of(0, 1), 9949);
    }

    private static void fault() {
        AnswerDays x = land(1, 1);
        due("p16 ahead", x.fault(), NONE);
        Check.law(x, "owes x");
        due("p16 law", x.fault(), 5);
        Check.orders(x, "pass");
        due("p16 orders without", x.fault(), NONE);
        Check.orders(x, "pass pass");
        due("p16 orders", x.fault(), 5);
        Check.law(x, "bars");
        due("p16 law without", x.fault(), NONE);
        Check.orders(x, "pass if");
        x.row();
        Check.orders(x, "pass  x");
        due("p16 latest", x.fault(), 6);
        for (int i = 0; i < 5; i++) {
            Check.law(x, "bars");
        }
        Check.law(x, "  owes");
        Check.orders(x, "pass 9");
        Check.law(x, "bars");
        due("p16 a law without room reads nothing", x.fault(), 5);
        x.image(0);
        Check.orders(x, "wind 7");
        due("p16 can't be is no fault", x.fault(), NONE);
        Check.orders(x, "   x");
        x.back(0);
        due("p16 not in images", x.fault(), 3);
    }

    private static void stopped() {
        AnswerDays x = land(2, 1);
        due("p17 ahead", x.stopped(), NONE);
        Check.orders(x, "pass;pass;pay 0 to 0");
        due("p17 third", x.stopped(), 2);
        Check.law(x, "bars");
        due("p17 a law does not matter", x.stopped(), 2);
        Check.orders(x, "pass");
        due("p17 without", x.stopped(), NONE);
        Check.orders(x, "wind 9");
        due("p17 first", x.stopped(), 0);
        x.image(1);
        Check.orders(x, "wind");
        due("p17 wrong text", x.stopped(), NONE);
        Check.orders(x, "pass times 2;wind done times 3");
        due("p17 by clause, not by time", x.stopped(), 1);
        x.back(1);
        due("p17 not in images", x.stopped(), 1);
    }

    private static void force() {
        AnswerDays x = land(2, 1);
        due("p18 none such", x.force(0), -2);
        due("p18 none", x.force(NONE), NONE);
        due("p18 none is not refused", x.status(), 0);
        Check.law(x, "answers 1");
        Check.law(x, "answers 0");
        due("p18 first", x.force(0), NONE);
        due("p18 by it", x.who(0, 0, 0, 0), 1);
        due("p18 second", x.force(1), 0);
        due("p18 by it", x.who(0, 1, 0, 0), 0);
        due("p18 below", x.force(-2), -2);
        due("p18 beyond", x.force(2), -2);
        due("p18 stays", x.count(12), 1);
        due("p18 none again", x.force(NONE), 1);
        due("p18 the doer", x.who(0, 1, 0, 0), 1);
    }

    private static void commit() {
        AnswerDays x = land(3, 3, "answers 2 if kind = 0;answers 5 if kind = 1;bars if kind = 2 and place = 1;owes 7 if kind = 0");
        due("p19 answers", x.commit(0, 0, 0), 2);
        due("p19 doer's", x.of(0, 1), 7);
        due("p19 its", x.of(2, 1), -7);
        due("p19 nobody", x.commit(1, 0, 0), 6);
        due("p19 none moves", x.of(0, 1), 7);
        due("p19 itself", x.commit(0, 2, 0), 2);
        due("p19 none moves", x.of(2, 1), -7);
        due("p19 the doer without", x.commit(2, 1, 0), 1);
        due("p19 barred", x.commit(2, 1, 1), -3);
        due("p19 place", x.commit(0, 0, 4), -1);
        due("p19 place", x.commit(9, 9, -1), -1);
        due("p19 deed", x.commit(3, 0, 0), -2);
        due("p19 deed", x.commit(-1, 0, 0), -2);
        due("p19 doer", x.commit(0, 3, 0), -2);
        due("p19 doer", x.commit(0, LOW, 0), -2);
        due("p19 -2 ahead of -3", x.commit(2, 3, 1), -2);
        due("p19 can be undone", x.count(5), 4);
        AnswerDays y = land(2, 1, "answers 1 - doer;owes date");
        y.terms(0, 20);
        y.wind(3, 4);
        y.commit(0, 0, 3);
        due("p19 by the date there", y.of(0, 1), 24);
        y.force(NONE);
        due("p19 no law: the doer", y.commit(0, 0, 3), 0);
    }

    private static void pay() {
        AnswerDays x = land(2, 0);
        due("p20 one", x.pay(0, 1, 1), 10000);
        due("p20 most", x.pay(0, 1, 99), 10099);
        due("p20 other", x.of(1, 1), -100);
        due("p20 back", x.pay(1, 0, 50), 9949);
        due("p20 nothing", x.pay(0, 1, 0), -1);
        due("p20 too much", x.pay(0, 1, 100), -1);
        due("p20 below", x.pay(0, 1, -5), -1);
        due("p20 itself", x.pay(1, 1, 5), -1);
        due("p20 itself that is not there", x.pay(5, 5, 5), -1);
        due("p20 no such", x.pay(2, 0, 5), -2);
        due("p20 no such", x.pay(0, -1, 5), -2);
        for (int i = 0; i < 100; i++) {
            x.pay(0, 1, 99);
        }
        due("p20 near", x.of(0, 1), 9950);
        due("p20 beyond", x.pay(0, 1, 50), -3);
        due("p20 just", x.pay(0, 1, 49), 19998);
        due("p20 no more", x.pay(0, 1, 1), -3);
        due("p20 from the least", x.pay(1, 0, 99), 99);
        AnswerDays y = land(3, 0);
        for (int i = 0; i < 101; i++) {
            y.pay(1 + i % 2, 0, 99);
        }
        due("p20 one far below", y.of(0, 1), -9999);
        due("p20 not beyond", y.pay(1, 0, 1), -3);
        due("p20 but from others", y.pay(1, 2, 1), 1 + 51 * 99 + 9999);
        AnswerDays z = land(3, 1);
        for (int i = 0; i < 101; i++) {
            z.pay(0, 1 + i % 2, 99);
        }
        due("p20 one far above", z.of(0, 1), 9999);
        due("p20 not beyond", z.pay(0, 1, 1), -3);
        due("p20 others may", z.pay(2, 1, 1), 1 - 50 * 99 + 9999);
        due("p19 what moves nothing can be", z.commit(0, 0, 0), 0);
        z.force(Check.law(z, "answers 9"));
        due("p19 what moves nothing can be", z.commit(0, 0, 0), 6);
        z.force(Check.law(z, "answers 1;owes 0"));
        due("p19 what moves nothing can be", z.commit(0, 0, 0), 1);
        z.force(Check.law(z, "answers 1;owes 1"));
        due("p19 the doer's would be beyond", z.commit(0, 0, 0), -3);
    }

    private static void wind() {
        AnswerDays x = new AnswerDays();
        due("p21 so already", x.wind(0, 0), -3);
        due("p21 was", x.wind(0, 6), 0);
        due("p21 was", x.wind(0, 2), 6);
        due("p21 clock", x.wind(0, 7), -1);
        due("p21 clock", x.wind(0, -1), -1);
        due("p21 place", x.wind(4, 0), -1);
        due("p21 place", x.wind(-1, 1), -1);
        due("p21 others stay", x.place(1, 0), 0);
        due("p21 is", x.place(0, 0), 2);
    }

    private static void pass() {
        AnswerDays x = new AnswerDays();
        due("p22 first", x.pass(), 1);
        due("p22 second", x.pass(), 2);
        x.terms(0, 998);
        due("p22 last", x.pass(), 999);
        due("p22 no more", x.pass(), -3);
        due("p22 stays", x.count(13), 999);
    }

    private static void undo() {
        AnswerDays x = land(2, 1, "answers 1 - doer");
        due("p23 none", x.undo(), -3);
        x.commit(0, 0, 0);
        x.pay(1, 0, 9);
        x.wind(2, 5);
        x.pass();
        due("p23 four", x.count(5), 4);
        due("p23 pass", x.undo(), 3);
        due("p23 day", x.count(13), 0);
        due("p23 wind", x.undo(), 2);
        due("p23 clock", x.place(2, 0), 0);
        due("p23 pay", x.undo(), 1);
        due("p23 balance", x.of(1, 1), -1);
        due("p23 commit", x.undo(), 0);
        due("p23 balance", x.of(1, 1), 0);
        due("p23 none is left", x.undo(), -3);
        for (int i = 0; i < 17; i++) {
            x.pass();
        }
        due("p23 sixteen are kept", x.count(5), 16);
        for (int i = 0; i < 16; i++) {
            due("p23 one of them", x.undo(), 3);
        }
        due("p23 no more", x.undo(), -3);
        due("p23 the oldest stays", x.count(13), 1);
        for (int i = 0; i < 6; i++) {
            x.wind(i % 4, 1 + i % 6);
            x.pay(i % 2, 1 - i % 2, 10 + i);
            x.commit(0, i % 2, 0);
            x.pass();
        }
        for (int i = 5; i >= 2; i--) {
            due("p23 one behind the other", x.undo(), 3);
            due("p23 one behind the other", x.undo(), 0);
            due("p23 one behind the other", x.undo(), 1);
            due("p23 one behind the other", x.undo(), 2);
            due("p23 clock as it was", x.place(i % 4, 0), i >= 4 ? 1 + i - 4 : 0);
            due("p23 balance as it was", x.of(0, 1), i % 2 == 0 ? -(i / 2) : 10 + i - i / 2);
        }
        due("p23 the rest is too old", x.undo(), -3);
        Check.orders(x, "pass;wind 1;pay 0 to 1;do 0 by 1 at 1");
        due("p23 by orders", x.undo(), 0);
        due("p23 by orders", x.undo(), 1);
        x.wind(3, 3);
        due("p23 refused", x.terms(0, 1000), -1);
        due("p23 refused", x.person(10), -1);
        due("p23 still there", x.count(5), 3);
        x.deed(0, 1);
        x.road(0, 1, 1);
        x.force(NONE);
        Check.law(x, "bars");
        x.image(0);
        due("p23 still there", x.count(5), 3);
        x.person(1);
        due("p23 not ahead of a person", x.count(5), 0);
        due("p23 not ahead of a person", x.undo(), -3);
        x.pass();
        x.terms(2, 0);
        due("p23 not ahead of terms", x.undo(), -3);
        x.pass();
        x.back(0);
        due("p23 nothing behind back", x.undo(), -3);
    }

    private static void who() {
        AnswerDays x = land(2, 2, "answers [doer + date] % 3;bars if kind = 1 and week = 2");
        due("p24 now", x.who(0, 0, 0, 0), 0);
        due("p24 one day on", x.who(0, 0, 0, 1), 1);
        due("p24 nobody", x.who(0, 0, 0, 2), 6);
        due("p24 barred", x.who(1, 0, 0, 2), 7);
        due("p24 other doer", x.who(0, 1, 0, 2), 0);
        due("p24 far", x.who(0, 0, 0, 99), 0);
        due("p24 too far", x.who(0, 0, 0, 100), NONE);
        due("p24 below", x.who(0, 0, 0, -1), NONE);
        due("p24 deed", x.who(2, 0, 0, 0), NONE);
        due("p24 doer", x.who(0, 2, 0, 0), NONE);
        due("p24 place", x.who(0, 0, 4, 0), NONE);
        due("p24 place", x.who(0, 0, -1, 0), NONE);
        x.wind(1, 4);
        due("p24 by the clock there", x.who(0, 0, 1, 0), 1);
        x.terms(0, 999);
        due("p24 beyond 999", x.who(0, 0, 1, 99), (999 + 4 + 99) % 3 == 2 ? 6 : (999 + 4 + 99) % 3);
        AnswerDays y = land(2, 1, "answers 1 if 1 / [date - 1] > 5;answers 1 if week = 1;answers 0 - 1 if mood = 4");
        due("p24 broken does not hold", y.who(0, 0, 0, 0), 0);
        due("p24 the last that holds", y.who(0, 0, 0, 8), 1);
        y.terms(2, 4);
        due("p24 below 0 is nobody", y.who(0, 0, 0, 8), 6);
        y.force(NONE);
        due("p24 without law the doer", y.who(0, 1, 3, 50), 1);
        AnswerDays z = land(2, 1, "answers 0;answers 1 / [date % 2]");
        due("p24 a broken sum does not hold", z.who(0, 1, 0, 0), 0);
        due("p24 it holds", z.who(0, 0, 0, 1), 1);
    }

    private static void first() {
        AnswerDays x = land(2, 1, "answers 1 if date = 60;answers 9 if date = 61;bars if date = 7");
        due("p25 now", x.first(0, 0, 0, 0), 0);
        due("p25 barred", x.first(0, 0, 0, 7), 7);
        due("p25 the last day", x.first(0, 0, 0, 1), 60);
        due("p25 too late", x.first(0, 0, 0, 6), NONE);
        x.pass();
        due("p25 a day on", x.first(0, 0, 0, 6), 60);
        due("p25 never", x.first(0, 0, 0, 5), NONE);
        due("p25 who", x.first(0, 0, 0, 8), NONE);
        due("p25 who", x.first(0, 0, 0, -1), NONE);
        due("p25 deed", x.first(1, 0, 0, 0), NONE);
        due("p25 doer", x.first(0, 2, 0, 0), NONE);
        due("p25 place", x.first(0, 0, 4, 0), NONE);
    }

    private static void period() {
        due("p26 always", land(2, 1).period(0, 0, 0), 1);
        due("p26 a week", land(2, 1, "answers 1 if week = 3").period(0, 0, 0), 7);
        due("p26 sixty", land(2, 1, "answers 1 if date % 60 = 59").period(0, 0, 0), 60);
        due("p26 beyond sixty", land(2, 1, "answers 1 if date % 61 = 58").period(0, 0, 0), NONE);
        due("p26 the last day", land(2, 1, "answers 1 if date = 119").period(0, 0, 0), NONE);
        due("p26 behind the last day", land(2, 1, "answers 1 if date = 120").period(0, 0, 0), 1);
        due("p26 the first day", land(2, 1, "answers 1 if date = 0").period(0, 0, 0), NONE);
        due("p26 barred and nobody", land(2, 1, "bars if date % 2 = 0;answers 6").period(0, 0, 0), 2);
        AnswerDays x = land(2, 1, "answers 1 if date < 3");
        due("p26 not yet", x.period(0, 0, 0), NONE);
        x.wind(0, 3);
        due("p26 by the clock", x.period(0, 0, 0), 1);
        due("p26 deed", x.period(1, 0, 0), NONE);
        due("p26 doer", x.period(0, -1, 0), NONE);
        due("p26 place", x.period(0, 0, 4), NONE);
    }

    private static void loopholes() {
        AnswerDays x = land(3, 3, "answers 7 if date = 99 and not doer = kind;bars if kind = 2 and doer = 0");
        due("p27 none now", x.loopholes(0, 0, NONE), 0);
        due("p27 five", x.loopholes(0, 99, NONE), 5);
        int[] all = {1, 2, 10, 12, 21};
        for (int i = 0; i < 5; i++) {
            due("p27 by deeds, then doers", x.loopholes(0, 99, i), all[i]);
        }
        due("p27 no more", x.loopholes(0, 99, 5), NONE);
        due("p27 below", x.loopholes(0, 99, -2), NONE);
        due("p27 days", x.loopholes(0, 100, NONE), NONE);
        due("p27 days", x.loopholes(0, -1, NONE), NONE);
        due("p27 place", x.loopholes(4, 0, NONE), NONE);
        due("p27 place", x.loopholes(-1, 0, NONE), NONE);
        x.wind(1, 2);
        due("p27 by the clock there", x.loopholes(1, 97, NONE), 5);
    }

    private static void plan() {
        AnswerDays x = land(2, 3, "answers 1;answers 0 if date = 4;answers 9 if date = 6 or date = 2 and kind = 1;bars if kind = 2 and date = 4");
        // 1 does not answer on day 4 (but deed 2 is barred then), on 6 and, for deed 1, on 2.
        due("p28 last", x.plan(0, 0, 1, 0), 6);
        due("p28 deed 0", x.plan(0, 0, 1, 1), 4);
        due("p28 deed 1", x.plan(0, 0, 1, 2), 2);
        due("p28 deed 2", x.plan(0, 0, 1, 3), 6);
        due("p28 no such deed", x.plan(0, 0, 1, 4), NONE);
        due("p28 what", x.plan(0, 0, 1, -1), NONE);
        due("p28 doer", x.plan(2, 0, 1, 0), NONE);
        due("p28 place", x.plan(0, 4, 1, 0), NONE);
        due("p28 not", x.plan(0, 0, 2, 0), NONE);
        due("p28 not nobody", x.plan(0, 0, 6, 0), NONE);
        due("p28 the other", x.plan(0, 0, 0, 0), 2);
        due("p28 the first row", x.plan(0, 0, 0, 1), 0);
        due("p28 the first row", x.plan(0, 0, 0, 3), 2);
        x.wind(3, 1);
        due("p28 by the clock there", x.plan(0, 3, 1, 0), 5);
        x.deed(2, 1);
        due("p28 it can't be", x.plan(0, 0, 1, 0), NONE);
        due("p28 it can't be", x.plan(0, 0, 1, 1), NONE);
        due("p28 no deeds", land(1, 0).plan(0, 0, 0, 0), 0);
        due("p28 no deeds", land(1, 0).plan(0, 0, 0, 1), NONE);
        due("p28 no people", land(0, 1).plan(0, 0, 0, 0), NONE);
        AnswerDays y = land(1, 6, "answers 9 if date > 9 - kind");
        due("p28 all on 9 or so: it can't be", y.plan(0, 0, 0, 0), NONE);
        AnswerDays z = land(1, 1, "answers 9 if date = 9;answers 9 if date = 10");
        due("p28 the last of the days", z.plan(0, 0, 0, 0), 9);
        z.deed(0, 1);
        due("p28 each its own", z.plan(0, 0, 0, 0), NONE);
        // Deed 1 only has day 1: deed 0 is first by rows with day 0, and with 2 only if day 0 is not open.
        AnswerDays v = land(1, 2, "answers 9 if kind = 0 and date > 0;answers 9 if kind = 1 and date = 1");
        due("p28 gives way", v.plan(0, 0, 0, 1), 2);
        due("p28 only day", v.plan(0, 0, 0, 2), 1);
    }

    private static void walk() {
        AnswerDays x = land(2, 1, "answers 1 - doer if [date + place] % 2 = 0;bars if place = 3");
        // The doer answers where date and place are odd together; never at place 3.
        due("p29 one day", x.walk(0, 0, 0, 1, 0), 0);
        due("p29 one day", x.walk(0, 0, 1, 1, 0), 1);
        due("p29 stays", x.walk(0, 0, 0, 4, 0), 2);
        due("p29 row", x.walk(0, 0, 0, 4, 4), 0);
        x.road(0, 1, 1);
        due("p29 to and fro", x.walk(0, 0, 0, 20, 0), 0);
        for (int k = 0; k < 20; k++) {
            due("p29 row", x.walk(0, 0, 0, 20, 1 + k), k % 2);
        }
        x.road(1, 3, 1);
        due("p29 from 1", x.walk(0, 0, 1, 3, 0), 1);
        due("p29 the first row", x.walk(0, 0, 1, 3, 2), 1);
        due("p29 the first row", x.walk(0, 0, 1, 3, 3), 0);
        due("p29 barred does not bind", x.walk(0, 0, 3, 20, 0), 0);
        due("p29 behind the days", x.walk(0, 0, 0, 3, 4), NONE);
        due("p29 what", x.walk(0, 0, 0, 3, -1), NONE);
        due("p29 days", x.walk(0, 0, 0, 0, 0), NONE);
        due("p29 days", x.walk(0, 0, 0, 21, 0), NONE);
        due("p29 deed", x.walk(1, 0, 0, 3, 0), NONE);
        due("p29 doer", x.walk(0, 2, 0, 3, 0), NONE);
        due("p29 place", x.walk(0, 0, 4, 3, 0), NONE);
        AnswerDays z = land(1, 1, "answers 9 if place = 3");
        z.road(0, 3, 1);
        due("p29 to the last place", z.walk(0, 0, 0, 3, 0), 1);
        due("p29 to the last place", z.walk(0, 0, 0, 3, 3), 3);
        AnswerDays y = land(1, 1, "answers 9 if place = 2");
        y.road(0, 1, 1);
        y.road(1, 2, 1);
        due("p29 over a place between", y.walk(0, 0, 0, 6, 0), 2);
        due("p29 on its way", y.walk(0, 0, 0, 6, 2), 1);
        due("p29 there", y.walk(0, 0, 0, 6, 3), 2);
        due("p29 stays there", y.walk(0, 0, 0, 6, 6), 2);
    }

    private static void quits() {
        AnswerDays x = land(6, 0);
        due("p30 all", x.quits(), 0);
        x.pay(0, 1, 5);
        due("p30 one", x.quits(), 1);
        x.pay(2, 3, 7);
        due("p30 two heaps", x.quits(), 2);
        x.pay(4, 5, 7);
        due("p30 three heaps", x.quits(), 3);
        x.pay(0, 2, 1);
        due("p30 one heap less", x.quits(), 4);
        x.pay(2, 4, 1);
        due("p30 as it was", x.count(1), 0);
        AnswerDays y = land(5, 0);
        y.pay(0, 1, 3);
        y.pay(0, 2, 4);
        y.pay(3, 4, 9);
        due("p30 three and two", y.quits(), 3);
    }

    private static void seen() {
        AnswerDays x = land(2, 1);
        due("p31 day", x.seen(1000, 0, 0, 0), -1);
        due("p31 day", x.seen(-1, 0, 0, 0), -1);
        due("p31 place", x.seen(0, 0, 4, 0), -1);
        due("p31 place", x.seen(0, 0, -1, 0), -1);
        due("p31 who", x.seen(0, 0, 0, 7), -1);
        due("p31 who", x.seen(0, 0, 0, -1), -1);
        due("p31 -1 ahead of -2", x.seen(0, 9, 9, 0), -1);
        due("p31 deed", x.seen(0, 1, 0, 0), -2);
        due("p31 deed", x.seen(0, -1, 0, 0), -2);
        due("p31 not there", x.seen(0, 0, 0, 2), -2);
        for (int i = 1; i <= 6; i++) {
            due("p31 how often", x.seen(999, 0, 3, i % 2 == 0 ? 6 : 1), i);
        }
        due("p31 no room", x.seen(0, 0, 0, 0), -5);
        due("p31 -2 ahead of -5", x.seen(0, 1, 0, 0), -2);
        due("p31 count", x.count(3), 6);
    }

    private static void forget() {
        AnswerDays x = land(2, 1);
        due("p32 none", x.forget(), 0);
        x.seen(0, 0, 0, 0);
        x.seen(0, 0, 0, 0);
        due("p32 two", x.forget(), 2);
        due("p32 none", x.count(3), 0);
        due("p32 doers", x.doers(), 3);
        due("p32 again", x.seen(0, 0, 0, 1), 1);
        due("p32 doers", x.doers(), 2);
    }

    private static void doers() {
        AnswerDays x = land(4, 2, "answers sign % 2;answers 9 if date = 5 and doer < 3;bars if kind = 1 and doer = 1");
        due("p33 all", x.doers(), 15);
        x.seen(4, 0, 0, 1);
        due("p33 odd ones", x.doers(), 10);
        x.seen(5, 0, 0, 6);
        due("p33 nobody", x.doers(), 2);
        x.wind(0, 1);
        due("p33 dates by clocks as now", x.doers(), 0);
        x.forget();
        x.seen(9, 1, 1, 1);
        due("p33 barred can't have been", x.doers(), 8);
        x.seen(9, 1, 1, 6);
        due("p33 not both", x.doers(), 0);
        due("p33 by the day seen, not by today", land(2, 1).doers(), 3);
        x.forget();
        x.terms(0, 500);
        x.seen(5, 0, 1, 6);
        due("p33 the day seen", x.doers(), 7);
        x.force(NONE);
        due("p33 by the law in force", x.doers(), 0);
        AnswerDays y = land(6, 3, "answers doer;answers 0 if kind = 1 and doer < 4;answers 1 if place = 3 and doer > 1;answers 9 if date = 7");
        y.seen(1, 1, 0, 0);
        y.seen(2, 0, 3, 1);
        due("p33 each by its own deed and place", y.doers(), 14);
        y.seen(7, 2, 2, 6);
        due("p33 each by its own day", y.doers(), 14);
        y.seen(8, 2, 2, 3);
        due("p33 one is left", y.doers(), 8);
    }

    private static void look() {
        AnswerDays x = land(4, 2, "answers 0;answers doer / 2 if date = 3;answers doer if date = 30;answers doer % 2 if date = 4;bars if kind = 1");
        due("p34 day", x.look(0, 0, 0), 30);
        due("p34 left", x.look(0, 0, 1), 1);
        x.pass();
        due("p34 a day less", x.look(0, 0, 0), 29);
        x.terms(0, 31);
        due("p34 all alike", x.look(0, 0, 0), 0);
        due("p34 all alike", x.look(0, 0, 1), 4);
        due("p34 barred alike", x.look(1, 0, 1), 4);
        x.terms(0, 0);
        x.seen(3, 0, 0, 1);
        due("p34 of doers alone", x.look(0, 0, 0), 4);
        due("p34 of doers alone", x.look(0, 0, 1), 1);
        x.wind(1, 2);
        due("p34 by the clock there", x.look(0, 1, 0), 2);
        x.seen(3, 0, 0, 0);
        due("p34 no doers", x.look(0, 0, 0), NONE);
        due("p34 no doers", x.look(0, 0, 1), NONE);
        x.forget();
        due("p34 what", x.look(0, 0, 2), NONE);
        due("p34 what", x.look(0, 0, -1), NONE);
        due("p34 deed", x.look(2, 0, 0), NONE);
        due("p34 place", x.look(0, 4, 0), NONE);
        due("p34 no people", land(0, 1).look(0, 0, 0), NONE);
        AnswerDays y = land(4, 1, "answers 0;answers doer if date = 31;bars if doer = 3 and date = 2;answers 9 if doer = 2 and date = 2");
        due("p34 not day 31; same, nobody, barred", y.look(0, 0, 0), 2);
        due("p34 two are alike", y.look(0, 0, 1), 2);
    }

    private static void fair() {
        AnswerDays x = land(2, 2, "answers 0;answers 1 if date > 15 and date < 30;bars if kind = 1");
        // By clock c dates c .. c + 27 are asked, 14 of which are 1's: from c = 2 on.
        due("p35 clock", x.fair(0, 0, 0), 2);
        due("p35 differ", x.fair(0, 0, 1), 0);
        x.terms(0, 4);
        due("p35 by the day", x.fair(0, 0, 0), 0);
        x.terms(0, 0);
        x.wind(0, 6);
        due("p35 whatever it is now", x.fair(0, 0, 0), 2);
        due("p35 barred: none", x.fair(1, 0, 0), 0);
        due("p35 barred: none", x.fair(1, 0, 1), 0);
        due("p35 what", x.fair(0, 0, 2), NONE);
        due("p35 what", x.fair(0, 0, -1), NONE);
        due("p35 deed", x.fair(2, 0, 0), NONE);
        due("p35 place", x.fair(0, -1, 0), NONE);
        due("p35 no people", land(0, 1).fair(0, 0, 0), NONE);
        AnswerDays y = land(3, 1, "answers 0;answers 9 if date < 33;answers 2 if date = 33 and doer = 1");
        due("p35 two of them at 33", y.fair(0, 0, 1), 0);
        due("p35 the lowest", y.fair(0, 0, 0), 0);
        y.terms(0, 33);
        due("p35 differ: 0 often, 1 never", y.fair(0, 0, 1), 83);
        due("p35 the lowest", y.fair(0, 0, 0), 0);
    }

    private static void few() {
        AnswerDays x = new AnswerDays();
        due("p36 none of none", x.few(1, 0), 1000000000000L);
        due("p36 one", x.few(1, 1), 900000000000L);
        due("p36 of two", x.few(1, 2), 810000000000L);
        due("p36 of twelve", x.few(1, 12), 282429536481L);
        due("p36 cut", x.few(1, 13), 254186582832L);
        // Of thirteen: 0.9^13 and 13 * 0.1 * 0.9^12, 254186582832.9 and 367158397425.3, each cut.
        due("p36 each part is cut", x.few(2, 13), 254186582832L + 367158397425L);
        due("p36 all", x.few(20, 5), 1000000000000L);
        due("p36 k", x.few(0, 5), NONE);
        due("p36 k", x.few(21, 5), NONE);
        due("p36 n", x.few(1, -1), NONE);
        due("p36 n", x.few(1, 100), NONE);
        x.terms(1, 0);
        due("p36 nobody ever wakes", x.few(1, 99), 1000000000000L);
        x.terms(1, 10);
        due("p36 all wake", x.few(20, 20), 0);
        due("p36 fewer there are", x.few(20, 19), 1000000000000L);
        x.terms(1, 5);
        due("p36 halves", x.few(2, 3), 500000000000L);
        due("p36 far", x.few(20, 99), few(20, 99, 5));
        for (int w = 1; w < 10; w++) {
            x.terms(1, w);
            for (int n = 0; n < 100; n += 9) {
                due("p36 few(7, " + n + ") of " + w, x.few(7, n), few(7, n, w));
            }
        }
    }

    private static long few(int k, int n, int w) {
        java.math.BigDecimal ways = java.math.BigDecimal.ONE;
        long all = 0;
        for (int i = 0; i < k && i <= n; i++) {
            all += ways.multiply(java.math.BigDecimal.valueOf(w, 1).pow(i))
                .multiply(java.math.BigDecimal.valueOf(10 - w, 1).pow(n - i)).movePointRight(12).longValue();
            ways = ways.multiply(java.math.BigDecimal.valueOf(n - i)).divide(java.math.BigDecimal.valueOf(i + 1));
        }
        return all;
    }

    private static void compare() {
        AnswerDays x = land(2, 1, "answers 1");
        Check.law(x, "answers 9 if date = 0 or date = 59 or date = 60;bars if doer = 1");
        due("p37 in force", x.compare(0, 0, 0, 0), 0);
        due("p37 another", x.compare(1, 0, 0, 0), 2);
        due("p37 barred is not nobody", x.compare(1, 0, 1, 0), 0);
        due("p37 none", x.compare(NONE, 0, 0, 0), 0);
        due("p37 stays in force", x.count(12), 0);
        x.pass();
        x.wind(3, 3);
        due("p37 a day on", x.compare(1, 0, 0, 0), 2);
        due("p37 by the clock there", x.compare(1, 0, 0, 3), 2);
        x.terms(0, 57);
        due("p37 by the clock there", x.compare(1, 0, 0, 3), 1);
        due("p37 law", x.compare(2, 0, 0, 0), NONE);
        due("p37 law", x.compare(-2, 0, 0, 0), NONE);
        due("p37 deed", x.compare(1, 1, 0, 0), NONE);
        due("p37 doer", x.compare(1, 0, 2, 0), NONE);
        due("p37 place", x.compare(1, 0, 0, 4), NONE);
    }

    private static void years() {
        AnswerDays x = land(0, 0);
        due("p38 seed", x.years(-1, 1), -1);
        due("p38 seed", x.years(1000001, 1), -1);
        due("p38 n", x.years(0, 0), -1);
        due("p38 n", x.years(0, 61), -1);
        due("p38 no people, no deeds", x.years(0, 1), -3);
        x.person(0);
        due("p38 no deeds", x.years(0, 1), -3);
        due("p38 no people", land(0, 1).years(0, 1), -3);
        AnswerDays y = land(3, 2, "answers [doer + 1] % 3;answers 9 if place = 2;owes 10 + date;bars if place = 1");
        // By hand, seed 3: 15654, 278656, 368992: deed 0, doer 1, place 0: 2 answers, owes 10.
        // Then 9300, 270215, 58596: deed 0, doer 2, place 0: 0 answers, owes 11. Then 643541, 835941, 52502: place 2.
        due("p38 one", y.years(3, 1), 0);
        due("p38 doer", y.drawn(1), 10);
        due("p38 answerer", y.drawn(2), -10);
        due("p38 two", y.years(3, 2), 0);
        due("p38 doer", y.drawn(2), 1);
        due("p38 answerer", y.drawn(0), -11);
        due("p38 three", y.years(3, 3), 1);
        due("p38 on paper", y.of(0, 1), 0);
        due("p38 on paper", y.count(13), 0);
        due("p38 on paper", y.count(5), 0);
        due("p38 seed", y.years(1000000, 60) >= 0 ? 1 : 0, 1);
        y.force(Check.law(y, "answers 9"));
        due("p38 nobody", y.years(7, 60), 60);
        y.terms(0, 996);
        due("p38 ends at 999", y.years(7, 60), 3);
        y.terms(0, 999);
        due("p38 at once", y.years(7, 60), 0);
        y.force(Check.law(y, "answers 9;bars"));
        y.terms(0, 0);
        due("p38 barred is not done", y.years(7, 60), 0);
        due("p38 day", y.count(13), 0);
    }

    private static void drawn() {
        AnswerDays x = land(2, 1, "answers 1 - doer;owes 4 if doer = 0;owes 9 if doer = 1");
        due("p39 ahead", x.drawn(0), NOTHING);
        x.years(0, 1);
        // 12345, 628841, 621889: deed 0, doer 1, place 1.
        due("p39 doer", x.drawn(1), 9);
        due("p39 answerer", x.drawn(0), -9);
        due("p39 no such", x.drawn(2), NOTHING);
        due("p39 no such", x.drawn(-1), NOTHING);
        x.years(0, 0);
        due("p39 refused keeps", x.drawn(0), -9);
        x.person(0);
        due("p39 was not in them", x.drawn(2), NOTHING);
        x.pay(0, 1, 50);
        x.image(0);
        x.person(0);
        // Of four people the first draw for one is 628841: person 1 again, for whom 0 answers.
        x.years(0, 1);
        due("p39 from the balances that are", x.drawn(0), 41);
        due("p39 of the last person", x.drawn(3), 0);
        x.back(0);
        due("p39 not in images", x.drawn(3), 0);
        due("p39 not in images", x.drawn(1), -41);
    }

    private static void image() {
        AnswerDays x = land(1, 1);
        due("p40 first", x.image(0), 0);
        due("p40 second", x.image(1), 0);
        due("p40 none such", x.image(2), -1);
        due("p40 none such", x.image(-1), -1);
        x.person(3);
        due("p40 anew", x.image(0), 0);
        x.back(1);
        due("p40 the other", x.count(0), 1);
        x.back(0);
        due("p40 the new one", x.count(0), 2);
        x.pass();
        x.image(1);
        due("p40 can be undone still", x.undo(), 3);
    }

    private static void back() {
        AnswerDays x = land(2, 2, "answers 1 - doer");
        due("p41 not kept", x.back(0), -2);
        due("p41 none such", x.back(2), -1);
        due("p41 none such", x.back(-1), -1);
        x.road(0, 1, 1);
        x.wind(2, 3);
        x.terms(2, 5);
        x.seen(1, 1, 1, 1);
        x.pay(0, 1, 9);
        x.image(0);
        x.person(8);
        x.deed(1, 1);
        x.road(0, 1, 0);
        x.road(2, 3, 1);
        x.wind(2, 4);
        x.terms(0, 77);
        x.terms(1, 7);
        x.terms(2, 7);
        x.forget();
        x.seen(5, 2, 2, 6);
        x.seen(5, 2, 2, 6);
        x.pay(1, 0, 50);
        x.force(Check.law(x, "bars"));
        x.feed(1, 2, 3, 4, 5);
        x.person(99);
        due("p41 back", x.back(0), 0);
        due("p41 people", x.count(0), 2);
        due("p41 deeds", x.count(2), 2);
        due("p41 seen", x.count(3), 1);
        due("p41 what was seen", x.doers(), 1);
        due("p41 laws", x.count(4), 1);
        due("p41 in force", x.count(12), 0);
        due("p41 by it", x.who(0, 0, 0, 0), 1);
        due("p41 undone", x.count(5), 0);
        due("p41 tape stays", x.count(6), 20);
        due("p41 refusals stay", x.count(7), 3);
        due("p41 day", x.count(13), 0);
        due("p41 wakes", x.count(14), 1);
        due("p41 mood", x.count(15), 5);
        due("p41 roads", x.place(0, 2), 2);
        due("p41 roads", x.place(2, 2), 0);
        due("p41 clock", x.place(2, 0), 3);
        due("p41 balance", x.of(0, 1), 9);
        x.end(0);
        due("p41 a law where the other was", Check.law(x, "answers 5"), 1);
        due("p41 again", x.back(0), 0);
        due("p41 images stay", x.count(4), 1);
        due("p41 new person has nothing", x.person(4), 2);
        due("p41 new person has nothing", x.of(2, 1), 0);
    }

    private static void count() {
        AnswerDays x = land(3, 2);
        x.pay(0, 1, 5);
        x.seen(0, 0, 0, 0);
        Check.law(x, "bars");
        x.feed(0, 0, 0, 0, 0);
        due("p42 people", x.count(0), 3);
        due("p42 even", x.count(1), 1);
        due("p42 deeds", x.count(2), 2);
        due("p42 seen", x.count(3), 1);
        due("p42 laws", x.count(4), 1);
        due("p42 undone", x.count(5), 1);
        due("p42 bytes", x.count(6), 20);
        x.end(0);
        x.image(0);
        x.deed(9, 9);
        x.force(3);
        x.pay(0, 7, 1);
        x.wind(0, 0);
        x.wind(0, 0);
        x.wind(0, 0);
        for (int i = 0; i < 7; i++) {
            x.deed(0, 1);
        }
        x.row();
        Check.orders(x, "wind 4");
        due("p42 -1", x.count(7), 1);
        due("p42 -2", x.count(8), 2);
        due("p42 -3", x.count(9), 4);
        due("p42 -5", x.count(10), 3);
        due("p42 -6", x.count(11), 1);
        x.of(9, 9);
        x.who(9, 9, 9, 9);
        x.end(-1);
        x.compare(9, 9, 9, 9);
        x.back(0);
        due("p42 NONE is not refused, images do not keep it", x.count(7), 1);
        due("p42 images do not keep it", x.count(10), 3);
        due("p42 law", x.count(12), NONE);
        x.force(0);
        due("p42 law", x.count(12), 0);
        x.terms(0, 12);
        x.terms(1, 3);
        x.terms(2, 4);
        due("p42 day", x.count(13), 12);
        due("p42 wakes", x.count(14), 3);
        due("p42 mood", x.count(15), 4);
        due("p42 others", x.count(16), NONE);
        due("p42 others", x.count(-1), NONE);
        due("p42 others", x.count(LOW), NONE);
    }

    private static void refusedBy(AnswerDays x, String call, int answer, int by) {
        due("p43 answer of " + call, answer, by);
        due("p43 status of " + call, x.status(), by);
        x.of(0, 0);
        x.who(9, 9, 9, 9);
        x.forget();
        x.feed(0, 0, 0, 0, 0);
        x.end(0);
        due("p43 others do not matter", x.status(), by);
    }

    private static void granted(AnswerDays x, String call, int answer) {
        due("p43 " + call + " is not refused", x.status(), 0);
        x.deed(9, 9);
    }

    private static void status() {
        AnswerDays x = land(2, 1);
        refusedBy(x, "person", x.person(-1), -1);
        refusedBy(x, "deed", x.deed(5, 5), -1);
        refusedBy(x, "road", x.road(0, 0, 0), -1);
        refusedBy(x, "terms", x.terms(9, 0), -1);
        refusedBy(x, "row", x.row(), -6);
        refusedBy(x, "law", x.law(), -6);
        refusedBy(x, "orders", x.orders(), -6);
        refusedBy(x, "force", x.force(5), -2);
        refusedBy(x, "commit", x.commit(5, 0, 0), -2);
        refusedBy(x, "pay", x.pay(0, 1, 100), -1);
        refusedBy(x, "wind", x.wind(0, 0), -3);
        refusedBy(x, "undo", x.undo(), -3);
        refusedBy(x, "seen", x.seen(0, 9, 0, 0), -2);
        refusedBy(x, "years", x.years(0, 0), -1);
        refusedBy(x, "image", x.image(2), -1);
        refusedBy(x, "back", x.back(0), -2);
        granted(x, "person", x.person(1));
        granted(x, "deed", x.deed(1, 1));
        granted(x, "road", x.road(0, 1, 1));
        granted(x, "terms", x.terms(0, 999));
        refusedBy(x, "pass", x.pass(), -3);
        x.terms(0, 0);
        Check.put(x, 9);
        granted(x, "row", x.row());
        granted(x, "law", Check.law(x, "owes 1"));
        granted(x, "orders", Check.orders(x, "pass"));
        refusedBy(x, "orders", Check.orders(x, "wind 9"), -3);
        granted(x, "force", x.force(0));
        granted(x, "force", x.force(NONE));
        granted(x, "commit", x.commit(0, 0, 0));
        granted(x, "pay", x.pay(0, 1, 1));
        granted(x, "wind", x.wind(0, 1));
        granted(x, "pass", x.pass());
        granted(x, "undo", x.undo());
        granted(x, "seen", x.seen(0, 0, 0, 0));
        granted(x, "years", x.years(0, 1));
        granted(x, "image", x.image(0));
        granted(x, "back", x.back(0));
    }
}
