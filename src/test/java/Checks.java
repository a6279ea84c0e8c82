/** Counts and prints the answers that are not as due. */
final class Checks {
    private int wrong = 0;
    private String part = "";

    void part(String name) {
        part = name;
    }

    void due(String call, long got, long want) {
        if (got != want) {
            wrong++;
            System.out.println(part + ": " + call + " answered " + got + ", due is " + want);
        }
    }

    /** The call must be refused, and must leave everything as it was. */
    void refused(TopSpeaks x, String call, java.util.function.LongSupplier run, long want) {
        long before = x.digest();
        due(call, run.getAsLong(), want);
        due("digest() behind the refused " + call, x.digest(), before);
    }

    void end() {
        System.out.println(wrong == 0 ? "all answers are as due" : wrong + " answers are not as due");
        if (wrong != 0) {
            System.exit(1);
        }
    }

    /** Puts a text behind THE PAGE, eight letters at a time; the answer of the last call. */
    static int write(TopSpeaks x, String text) {
        int answer = x.letters(0);
        for (int from = 0; from < text.length(); from += 8) {
            answer = x.letters(packed(text.substring(from, Math.min(text.length(), from + 8))));
        }
        return answer;
    }

    static long packed(String upToEight) {
        long w = 0;
        for (int i = upToEight.length() - 1; i >= 0; i--) {
            w = w << 8 | upToEight.charAt(i);
        }
        return w;
    }

    static int ruled(TopSpeaks x, String text) {
        x.blank();
        write(x, text);
        return x.rule();
    }

    static void page(TopSpeaks x, String text) {
        x.blank();
        write(x, text);
    }
}
