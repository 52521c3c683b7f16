import java.lang.reflect.InvocationTargetException;
import java.lang.reflect.Method;
import java.util.ArrayList;
import java.util.Comparator;
import java.util.List;
import java.util.Random;

/** Runs of drawn calls, each answered by AnswerDays and by Oracle; the first that differ in a run are printed with all calls before. */
public final class RandomRunsTest {
    private static final int CALLS = 512;

    private final Random draw;
    private final Texts texts;
    private final AnswerDays x = new AnswerDays();
    private final Oracle o = new Oracle();
    private final List<String> calls = new ArrayList<>();
    private final List<Method> face;
    private final long[] seenAnswers;
    private boolean differs;

    private RandomRunsTest(long seed, List<Method> face, long[] seenAnswers) {
        this.draw = new Random(seed);
        this.texts = new Texts(draw);
        this.face = face;
        this.seenAnswers = seenAnswers;
    }

    public static void main(String[] args) throws ReflectiveOperationException {
        long runs = args.length > 1 ? Long.parseLong(args[1]) : 1500;
        long from = args.length > 2 ? Long.parseLong(args[2]) : 1;
        List<Method> face = new ArrayList<>();
        for (Method m : AnswerDays.class.getDeclaredMethods()) {
            if (java.lang.reflect.Modifier.isPublic(m.getModifiers())) {
                face.add(m);
            }
        }
        face.sort(Comparator.comparing(Method::getName));
        Check check = new Check("RandomRunsTest");
        long[] seenAnswers = new long[face.size()];
        for (long seed = from; seed < from + runs; seed++) {
            RandomRunsTest run = new RandomRunsTest(seed, face, seenAnswers);
            run.play();
            if (run.differs) {
                System.out.println("seed " + seed + ": " + String.join("; ", run.calls));
            }
            check.due("run " + seed, !run.differs);
        }
        for (int i = 0; i < face.size(); i++) {
            check.due(face.get(i).getName() + "() is drawn, and not always refused", seenAnswers[i] > 0);
        }
        check.close();
    }

    private void play() throws ReflectiveOperationException {
        if (draw.nextInt(10) > 0) {
            int people = draw.nextInt(7);
            for (int i = 0; i < people; i++) {
                call("person", draw.nextInt(10));
            }
            int deeds = draw.nextInt(7);
            for (int i = 0; i < deeds; i++) {
                call("deed", draw.nextInt(4), 1 + draw.nextInt(9));
            }
            for (int i = draw.nextInt(8); i > 0; i--) {
                call("road", draw.nextInt(4), draw.nextInt(4), 1);
            }
        }
        if (draw.nextInt(4) == 0) {
            call("terms", 0, draw.nextInt(3) == 0 ? 940 + draw.nextInt(60) : draw.nextInt(1000));
        }
        while (calls.size() < CALLS - 30 && !differs) {
            step();
        }
    }

    private void step() throws ReflectiveOperationException {
        int of = draw.nextInt(100);
        if (of < 6) {
            text(draw.nextInt(12) == 0 ? texts.edge(false) : texts.law(), "law");
            call("fault");
            call("force", o.count(4) - 1);
        } else if (of < 12) {
            text(draw.nextInt(12) == 0 ? texts.edge(true) : texts.orders(), "orders");
            call("fault");
            call("stopped");
        } else if (of < 13) {
            StringBuilder row = new StringBuilder();
            for (int i = draw.nextInt(9); i >= 0; i--) {
                row.append((char) draw.nextInt(draw.nextInt(9) == 0 ? 256 : 6));
            }
            text(row.toString(), "row");
            call("blots");
        } else if (of < 14) {
            text("do 0 by 0 at 0 times 20;".repeat(11) + "do 1 by 1 at 0 times 20", "orders");
        } else if (of < 15) {
            call("back", draw.nextInt(2));
        } else if (of < 20) {
            call(new String[] {"commit", "pay", "wind", "pass", "undo"}[of - 15], 7);
        } else {
            call(face.get(draw.nextInt(face.size())).getName(), 7);
        }
    }

    private void text(String text, String then) throws ReflectiveOperationException {
        call("end", 0);
        int[] bytes = Check.bytesOf(text);
        int[] n = Check.numbersOf(bytes);
        for (int i = 0; i < n.length; i += 5) {
            call("feed", n[i], n[i + 1], n[i + 2], n[i + 3], n[i + 4]);
        }
        call("end", bytes.length);
        calls.add("/* " + text + " */");
        call(then);
    }

    /** With the wrong number of arguments they are drawn. */
    private void call(String name, int... args) throws ReflectiveOperationException {
        for (int i = 0; i < face.size(); i++) {
            Method m = face.get(i);
            if (m.getName().equals(name) && !differs) {
                Object[] with = new Object[m.getParameterCount()];
                for (int a = 0; a < with.length; a++) {
                    with[a] = args.length == with.length && !(args.length == 1 && args[0] == 7) ? args[a] : arg(name, a);
                }
                long want = ask(Oracle.class.getDeclaredMethod(name, m.getParameterTypes()), o, with);
                long got = ask(m, x, with);
                calls.add(name + java.util.Arrays.toString(with) + " " + got);
                if (got != want) {
                    differs = true;
                    calls.add("due is " + want);
                }
                if (got != AnswerDays.NONE && got != AnswerDays.NOTHING || name.equals("force")) {
                    seenAnswers[i]++;
                }
            }
        }
    }

    private static long ask(Method m, Object of, Object[] with) throws ReflectiveOperationException {
        try {
            return ((Number) m.invoke(of, with)).longValue();
        } catch (InvocationTargetException e) {
            throw new IllegalStateException(m.getName() + java.util.Arrays.toString(with), e.getCause());
        }
    }

    private int arg(String name, int a) {
        int odd = draw.nextInt(60);
        if (odd == 0) {
            return new int[] {Integer.MIN_VALUE, Integer.MAX_VALUE, -2, 1000, 100, 61, 21, 13}[draw.nextInt(8)];
        }
        if (odd == 1) {
            return -1;
        }
        switch (name) {
            case "terms": return a == 0 ? draw.nextInt(3) : draw.nextInt(draw.nextInt(9) == 0 ? 1001 : 11);
            case "feed": return draw.nextInt(2) == 0 ? 0x20202020 : draw.nextInt();
            case "end": return draw.nextInt(401);
            case "pay": return a < 2 ? draw.nextInt(6) : draw.nextInt(101);
            case "who": return a < 3 ? draw.nextInt(4) : draw.nextInt(101);
            case "loopholes": return a == 0 ? draw.nextInt(4) : a == 1 ? draw.nextInt(100) : draw.nextInt(6) - 1;
            case "first": return a < 3 ? draw.nextInt(4) : draw.nextInt(9);
            case "walk": return a < 3 ? draw.nextInt(4) : a == 3 ? draw.nextInt(22) : draw.nextInt(2) * draw.nextInt(22);
            case "plan": return a < 3 ? draw.nextInt(4) : draw.nextInt(7);
            case "seen": return a == 0 ? draw.nextInt(draw.nextInt(3) == 0 ? 1001 : 10) : a == 3 ? draw.nextInt(8) : draw.nextInt(4);
            case "few": return a == 0 ? draw.nextInt(22) : draw.nextInt(101);
            case "years": return a == 0 ? draw.nextInt(1000002) : draw.nextInt(62);
            case "count": return draw.nextInt(17);
            case "look":
            case "fair":
            case "asks":
            case "of":
            case "at": return a < (name.equals("asks") ? 3 : name.equals("look") || name.equals("fair") ? 2 : 1) ? draw.nextInt(4) : draw.nextInt(2);
            case "image":
            case "back": return draw.nextInt(2);
            case "wind": return a == 0 ? draw.nextInt(4) : draw.nextInt(8);
            case "road": return a < 2 ? draw.nextInt(4) : draw.nextInt(3) % 2;
            case "force": return draw.nextInt(7) - 1;
            default: return draw.nextInt(5);
        }
    }
}
