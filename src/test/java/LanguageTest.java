import java.io.IOException;
import java.lang.management.ManagementFactory;
import java.lang.reflect.Constructor;
import java.lang.reflect.Field;
import java.lang.reflect.Method;
import java.lang.reflect.Modifier;
import java.nio.file.Files;
import java.nio.file.Path;
import java.util.Set;
import java.util.TreeSet;
import java.util.regex.Matcher;
import java.util.regex.Pattern;

/** The rules of LANGUAGE.md that can be seen from the class and its source, and how much room a run takes. */
public final class LanguageTest {
    private static final String FACE = "person1 of2 deed2 at2 place2 road3 asks4 terms2 feed5 end1 row0 blots0 law0 orders0 "
        + "fault0 stopped0 force1 commit3 pay3 wind2 pass0 undo0 who4 first4 period3 loopholes3 plan4 walk5 quits0 seen4 "
        + "forget0 doers0 look3 fair3 few2 compare4 years2 drawn1 image1 back1 count1 status0";
    private static final Check C = new Check("LanguageTest");

    public static void main(String[] args) throws IOException {
        face();
        nested();
        source(Files.readString(Path.of(args.length > 0 ? args[0] : "src/main/java/AnswerDays.java")));
        room();
        C.close();
    }

    private static void face() {
        C.due("the class is public and final", Modifier.isPublic(AnswerDays.class.getModifiers())
            && Modifier.isFinal(AnswerDays.class.getModifiers()));
        Set<String> due = new TreeSet<>(Set.of(FACE.split(" ")));
        Set<String> got = new TreeSet<>();
        for (Method m : AnswerDays.class.getDeclaredMethods()) {
            if (!Modifier.isPrivate(m.getModifiers())) {
                got.add(m.getName() + m.getParameterCount());
                C.due(m.getName() + " is public, of the object, and answers as told", Modifier.isPublic(m.getModifiers())
                    && !Modifier.isStatic(m.getModifiers())
                    && m.getReturnType() == (m.getName().equals("few") ? long.class : int.class));
            }
        }
        C.due("the methods are those of the document: " + got, got.equals(due));
        for (Field f : AnswerDays.class.getDeclaredFields()) {
            boolean constant = f.getName().equals("NONE") || f.getName().equals("NOTHING");
            C.due("field " + f.getName(), constant == Modifier.isPublic(f.getModifiers())
                && (constant || Modifier.isPrivate(f.getModifiers()))
                && (!Modifier.isStatic(f.getModifiers()) || Modifier.isFinal(f.getModifiers())));
        }
        Constructor<?>[] makers = AnswerDays.class.getDeclaredConstructors();
        C.due("one public constructor without parameters", makers.length == 1 && Modifier.isPublic(makers[0].getModifiers())
            && makers[0].getParameterCount() == 0);
    }

    private static void nested() {
        Class<?>[] inside = AnswerDays.class.getDeclaredClasses();
        C.due("at most twelve classes: " + (inside.length + 1), inside.length < 12);
        Set<String> faceNames = new TreeSet<>(Set.of(FACE.replaceAll("[0-9]", "").split(" ")));
        for (Class<?> c : inside) {
            C.due(c.getName() + " is static and not public", Modifier.isStatic(c.getModifiers()) && !Modifier.isPublic(c.getModifiers()));
            int fields = 0;
            for (Field f : c.getDeclaredFields()) {
                fields += Modifier.isStatic(f.getModifiers()) ? 0 : 1;
            }
            C.due(c.getName() + " has few fields", fields <= 20);
            for (Method m : c.getDeclaredMethods()) {
                C.due(c.getName() + "." + m.getName() + " bears no name of the face", !faceNames.contains(m.getName()));
                C.due(c.getName() + "." + m.getName() + " has at most seven parameters", m.getParameterCount() <= 7);
            }
        }
    }

    private static void source(String text) {
        String code = text.replaceAll("(?s)/\\*.*?\\*/", "").replaceAll("//[^\n]*", "");
        String bare = code.replaceAll("\"[^\"]*\"", "\"\"").replaceAll("'.'", "' '");
        for (String word : ("throw throws try catch finally synchronized assert package import Object Long Character Exception "
            + "hashCode toString getClass volatile transient native strictfp protected").split(" ")) {
            C.due("no " + word, !Pattern.compile("\\b" + word + "\\b").matcher(bare).find());
        }
        C.due("no lambda, no method reference", !bare.contains("->") && !bare.contains("::"));
        C.due("only signs 1 to 127", text.chars().allMatch(c -> c > 0 && c < 128));
        Set<String> library = new TreeSet<>();
        Matcher calls = Pattern.compile("\\b(Math|Integer|System|Arrays|List|String)\\.(\\w+)").matcher(bare);
        while (calls.find()) {
            library.add(calls.group());
        }
        library.removeAll(Set.of("Math.min", "Math.max", "Integer.bitCount", "System.arraycopy"));
        C.due("no library but what is listed: " + library, library.isEmpty());
        String[] lines = bare.split("\n");
        int start = -1;
        for (int i = 0; i < lines.length; i++) {
            if (lines[i].matches("( {4}| {8})\\S.*\\) \\{") && !lines[i].trim().matches("(if|for|while|switch|else|do)\\b.*")) {
                start = i;
            }
            if (start >= 0 && lines[i].matches("( {4}| {8})\\}")) {
                C.due("line " + start + ": a method of some sixty lines at most", i - start <= 60);
                start = -1;
            }
        }
    }

    /** What 512 calls make, the dearest among them: in bytes as this machine counts them. */
    private static void room() {
        com.sun.management.ThreadMXBean bean = (com.sun.management.ThreadMXBean) ManagementFactory.getThreadMXBean();
        String law = "answers [doer*7+date]%6 if ((((week<3 or mood=1))));owes date%9*worth;bars if kind=3 and not place=1";
        int[] bytes = Check.bytesOf(law);
        int[] n = Check.numbersOf(bytes);
        drive(law, n, bytes.length);
        long before = bean.getThreadAllocatedBytes(Thread.currentThread().getId());
        drive(law, n, bytes.length);
        long made = bean.getThreadAllocatedBytes(Thread.currentThread().getId()) - before;
        // A tenth of the room in elements of four bytes; nothing here makes more than the laws that are kept.
        C.due("bytes made by 512 calls: " + made, made < 400_000);
    }

    private static void drive(String law, int[] n, int length) {
        AnswerDays x = new AnswerDays();
        for (int i = 0; i < 6; i++) {
            x.person(i);
            x.deed(i % 4, i + 1);
        }
        x.image(0);
        for (int i = 0; i < 40; i++) {
            for (int k = 0; k < n.length; k += 5) {
                x.feed(n[k], n[k + 1], n[k + 2], n[k + 3], n[k + 4]);
            }
            x.end(length);
            x.back(0);
            x.force(x.law());
            x.fair(0, 0, 0);
            x.years(i, 60);
        }
        for (int i = 0; i < 20; i++) {
            x.period(0, 0, 0);
            x.plan(0, 0, 1, 0);
            x.walk(0, 0, 0, 20, 0);
            x.look(0, 0, 0);
            x.few(20, 99);
            x.quits();
        }
    }
}
