import java.lang.reflect.Method;
import java.util.Arrays;
import java.util.Comparator;
import java.util.function.LongSupplier;

/**
 * What the tests of the boundary sentences have in common. Such a test is a static method without
 * arguments, named after its promise: p02_... for promise 2. Each makes an object of its own.
 */
abstract class Edges {
    static final int NONE = TopSpeaks.NONE;
    static final int UNKNOWN = TopSpeaks.UNKNOWN;
    static final int OUTSIDE = TopSpeaks.OUTSIDE;
    static final int STATE = TopSpeaks.STATE;
    static final int FULL = TopSpeaks.FULL;
    static final int LOW = Integer.MIN_VALUE;
    static final int HIGH = Integer.MAX_VALUE;
    static final int PLAIN = 0, FAT = 1, JOINER = 2, STEADY = 3, ELDER = 4;
    static final int NOTHING = 0, MORE = 1, LESS = 2, TIMES = 3, BECOMES = 4;

    private static final Checks c = new Checks();

    /** Runs all tests of a class by their names; each of the promises told must have some. */
    static void runAll(Class<?> tests, int firstPromise, int lastPromise) throws Exception {
        Method[] methods = tests.getDeclaredMethods();
        Arrays.sort(methods, Comparator.comparing(Method::getName));
        int[] ran = new int[lastPromise + 1];
        int all = 0;
        for (Method test : methods) {
            if (test.getName().matches("p\\d\\d_.*")) {
                c.part(test.getName());
                test.invoke(null);
                ran[Integer.parseInt(test.getName().substring(1, 3))]++;
                all++;
            }
        }
        for (int promise = firstPromise; promise <= lastPromise; promise++) {
            c.part("promise " + promise);
            due("has tests of its boundaries", ran[promise] > 0 ? 1 : 0, 1);
        }
        System.out.println(all + " tests of boundaries");
        end();
    }

    static void due(String call, long got, long want) {
        c.due(call, got, want);
    }

    /** The call is refused so, and all that other calls tell stays as it was. */
    static void refused(TopSpeaks x, String call, LongSupplier run, long want) {
        int[] before = counts(x);
        c.refused(x, call, run, want);
        int[] behind = counts(x);
        for (int what = 0; what < before.length; what++) {
            due("count(" + what + ") behind the refused " + call, behind[what], before[what]);
        }
    }

    /** The call is not refused. */
    static void taken(String call, long got) {
        due(call + " is taken (0), refused (1)", isRefusal(got) ? 1 : 0, 0);
    }

    static boolean isRefusal(long got) {
        return got <= UNKNOWN && got >= FULL || got == -100102 || got == -100103;
    }

    /** Prints how it went; ends with exit code 1, if an answer was wrong. */
    static void end() {
        c.end();
    }

    static int[] counts(TopSpeaks x) {
        int[] counts = new int[8];
        for (int what = 0; what < counts.length; what++) {
            counts[what] = x.count(what);
        }
        return counts;
    }

    /** Members told as kind, weight, lean, party, chair. */
    static TopSpeaks house(int[]... members) {
        TopSpeaks x = new TopSpeaks();
        for (int[] m : members) {
            x.member(m[0], m[1], m[2], m[3], m[4]);
        }
        return x;
    }

    /** Members who weigh 1, lean to no side, say nothing and whose chairs bear 99; party: number % 3. */
    static TopSpeaks easy(int many) {
        TopSpeaks x = new TopSpeaks();
        for (int i = 0; i < many; i++) {
            x.member(PLAIN, 1, 0, i % 3, 99);
        }
        return x;
    }

    static int[] one(int kind, int weight, int lean, int chair) {
        return new int[] {kind, weight, lean, 0, chair};
    }

    /** They rise one behind the other: what the last rise() answers. */
    static int allRise(TopSpeaks x, int... members) {
        int answer = x.count(1);
        for (int one : members) {
            answer = x.rise(one);
        }
        return answer;
    }

    /** THE PAGE becomes the text. */
    static void page(TopSpeaks x, String text) {
        Checks.page(x, text);
    }

    /** THE HOUSE RULE becomes the text: what rule() answers. */
    static int ruled(TopSpeaks x, String text) {
        return Checks.ruled(x, text);
    }

    static long packed(String upToEight) {
        return Checks.packed(upToEight);
    }

    static String digits(int from, int to) {
        StringBuilder all = new StringBuilder();
        for (int digit = from; digit <= to; digit++) {
            all.append(digit);
        }
        return all.toString();
    }
}
