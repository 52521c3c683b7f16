/** Counts and prints the answers of a test that are not as due; feeds texts to the tape. */
final class Check {
    private final String name;
    private int asked;
    private int wrong;

    Check(String name) {
        this.name = name;
    }

    void due(String call, long got, long want) {
        asked++;
        if (got != want) {
            wrong++;
            System.out.println(name + ": " + call + " answered " + got + ", due is " + want);
        }
    }

    void due(String call, boolean got) {
        due(call, got ? 1 : 0, 1);
    }

    /** Ends the program with exit code 1 if an answer was wrong. */
    void close() {
        System.out.println(name + ": " + (asked - wrong) + " of " + asked + " answers are as due");
        if (wrong != 0) {
            System.exit(1);
        }
    }

    /** The numbers that feed() wants for a text, filled up with zeros to twenties. */
    static int[] numbersOf(int[] bytes) {
        int[] numbers = new int[(bytes.length + 19) / 20 * 5];
        for (int i = 0; i < bytes.length; i++) {
            numbers[i / 4] |= (bytes[i] & 255) << (24 - 8 * (i % 4));
        }
        return numbers;
    }

    static int[] bytesOf(String text) {
        int[] bytes = new int[text.length()];
        for (int i = 0; i < bytes.length; i++) {
            bytes[i] = text.charAt(i);
        }
        return bytes;
    }

    /** Puts a text on an empty tape. */
    static void put(AnswerDays x, int... bytes) {
        int[] n = numbersOf(bytes);
        for (int i = 0; i < n.length; i += 5) {
            x.feed(n[i], n[i + 1], n[i + 2], n[i + 3], n[i + 4]);
        }
        x.end(bytes.length);
    }

    static int law(AnswerDays x, String text) {
        put(x, bytesOf(text));
        return x.law();
    }

    static int orders(AnswerDays x, String text) {
        put(x, bytesOf(text));
        return x.orders();
    }
}
