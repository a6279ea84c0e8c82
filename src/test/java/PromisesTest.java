/** A part for each promise of the document, 1 to 28: ordinary inputs, edges, wrong inputs. */
public final class PromisesTest {
    private static final int NONE = TopSpeaks.NONE;
    private static final int UNKNOWN = TopSpeaks.UNKNOWN;
    private static final int OUTSIDE = TopSpeaks.OUTSIDE;
    private static final int STATE = TopSpeaks.STATE;
    private static final int FULL = TopSpeaks.FULL;
    private static final int LOW = Integer.MIN_VALUE;
    private static final int HIGH = Integer.MAX_VALUE;
    private static final int PLAIN = 0, FAT = 1, JOINER = 2, STEADY = 3, ELDER = 4;

    private static final Checks c = new Checks();

    public static void main(String[] args) {
        constants();
        aNewObject();
        letters();
        blank();
        faultOfRule();
        faultOfDebate();
        rule();
        replies();
        member();
        speech();
        about();
        as();
        chair();
        may();
        rise();
        riseAndLean();
        riseOfSeven();
        down();
        at();
        bill();
        debate();
        nails();
        shook();
        order();
        laws();
        searchesAreCounted();
        changed();
        midnight();
        midnightsAreCounted();
        sessions();
        image();
        restore();
        count();
        digest();
        c.end();
    }

    /** Members 0 to n - 1 who can bear all, lean to no side and say nothing. */
    private static TopSpeaks easy(int n) {
        TopSpeaks x = new TopSpeaks();
        for (int i = 0; i < n; i++) {
            x.member(PLAIN, 1, 0, i % 3, 99);
        }
        return x;
    }

    private static void constants() {
        c.part("constants");
        c.due("NONE", NONE, -1);
        c.due("UNKNOWN", UNKNOWN, -101);
        c.due("OUTSIDE", OUTSIDE, -102);
        c.due("STATE", STATE, -103);
        c.due("FULL", FULL, -104);
    }

    private static void aNewObject() {
        c.part("1 a new object");
        TopSpeaks x = new TopSpeaks();
        for (int what = 0; what <= 7; what++) {
            c.due("count(" + what + ")", x.count(what), what == 3 ? 3 : 0);
        }
        for (int a = 0; a <= 6; a++) {
            for (int b = 0; b <= 6; b++) {
                c.due("replies", x.replies(a, b), 0);
            }
        }
        c.due("at(1)", x.at(1), UNKNOWN);
        c.due("bill()", x.bill(), 0);
        c.due("may(0)", x.may(0), UNKNOWN);
        c.due("restore()", x.restore(), STATE);
    }

    private static void letters() {
        c.part("2 letters");
        TopSpeaks x = new TopSpeaks();
        c.due("none", x.letters(0), 0);
        c.due("lowest byte first", x.letters(Checks.packed("05")), 2);
        c.due("the letters' place", x.fault(1), 2);
        c.due("seven", x.letters(Checks.packed("abcdefg")), 9);
        c.due("eight", x.letters(Checks.packed("abcdefgh")), 17);
        c.due("code 1", x.letters(1), 18);
        c.due("code 126", x.letters(126), 19);
        c.refused(x, "code 127", () -> x.letters(127), OUTSIDE);
        c.refused(x, "code 255", () -> x.letters(-1L), OUTSIDE);
        c.refused(x, "code 128 on top", () -> x.letters(Long.MIN_VALUE), OUTSIDE);
        c.refused(x, "a letter behind 0", () -> x.letters(0x3100L), OUTSIDE);
        c.refused(x, "a letter behind 0", () -> x.letters(0x3100000000000031L), OUTSIDE);
        c.due("twelve and", x.letters(Checks.packed("01234567")), 27);
        c.refused(x, "above 32", () -> x.letters(Checks.packed("012345")), FULL);
        c.refused(x, "OUTSIDE ahead of FULL", () -> x.letters(0x7f30303030303030L), OUTSIDE);
        c.due("up to 32", x.letters(Checks.packed("01234")), 32);
        c.refused(x, "33", () -> x.letters('0'), FULL);
        c.due("none on a full page", x.letters(0), 32);
    }

    private static void blank() {
        c.part("3 blank");
        TopSpeaks x = new TopSpeaks();
        c.due("an empty page", x.blank(), 0);
        Checks.write(x, "01,12");
        c.due("five letters", x.blank(), 5);
        c.due("count(4)", x.count(4), 0);
        Checks.write(x, "3");
        c.due("one letter", x.blank(), 1);
    }

    private static void faultOf(int sort, String text, int want) {
        TopSpeaks x = new TopSpeaks();
        Checks.page(x, text);
        long before = x.digest();
        c.due("fault(" + sort + ") of " + text, x.fault(sort), want);
        c.due("digest() behind fault() of " + text, x.digest(), before);
    }

    private static void faultOfRule() {
        c.part("4 fault of a rule");
        faultOf(0, "", 0);
        faultOf(0, "0", 1);
        faultOf(0, "7", 0);
        faultOf(0, "6", 1);
        faultOf(0, "/", 0);
        faultOf(0, "06", 2);
        faultOf(0, "07", 1);
        faultOf(0, "00", 1);
        faultOf(0, ",", 0);
        faultOf(0, ";", 0);
        faultOf(0, "0,", 1);
        faultOf(0, "01,", 3);
        faultOf(0, "01,,", 3);
        faultOf(0, "01;", 3);
        faultOf(0, "01;9", 4);
        faultOf(0, "01;0", 4);
        faultOf(0, "01;:", 3);
        faultOf(0, "01;,", 3);
        faultOf(0, "01;00", 4);
        faultOf(0, "01;0,", 4);
        faultOf(0, "01,;", 3);
        faultOf(0, "012", 2);
        faultOf(0, "01 ,10", 2);
        faultOf(0, "01,01", 4);
        faultOf(0, "01,10", 5);
        faultOf(0, "01,12,01", 7);
        faultOf(0, "01,02,03,04,05,06,0", 19);
        faultOf(0, "01,02,03,04,05,06,00", 19);
        faultOf(0, "01,02,03,04,05,06,06", 19);
        faultOf(0, "01,02,03,04,05,06,07", 19);
        faultOf(0, "01,02,03,04,05,06,10;5", 22);
        faultOf(0, "01,02,03,04,05,06,10,12,13,14", 29);
        faultOf(0, "01,02,03,04,05,06,10,12,13,14,", 29);
        faultOf(0, "01,02,03,04,05,06,10,12,13,14;7", 31);
        faultOf(0, "01,02,03,04,05,06,10,12,13,14;77", 31);
        TopSpeaks x = new TopSpeaks();
        c.refused(x, "fault(-1)", () -> x.fault(-1), OUTSIDE);
        c.refused(x, "fault(2)", () -> x.fault(2), OUTSIDE);
        c.refused(x, "fault(LOW)", () -> x.fault(LOW), OUTSIDE);
        c.refused(x, "fault(HIGH)", () -> x.fault(HIGH), OUTSIDE);
    }

    private static void faultOfDebate() {
        c.part("4 fault of a debate");
        faultOf(1, "", 0);
        faultOf(1, "0", 1);
        faultOf(1, "6", 1);
        faultOf(1, "7", 0);
        faultOf(1, "x", 0);
        faultOf(1, "0123456", 7);
        faultOf(1, "6543210", 7);
        faultOf(1, "00", 1);
        faultOf(1, "0120", 3);
        faultOf(1, "01,2", 2);
        faultOf(1, "01234567", 7);
        faultOf(1, "01234560", 7);
    }

    private static void rule() {
        c.part("5 rule");
        TopSpeaks x = easy(3);
        c.refused(x, "of an empty page", x::rule, STATE);
        c.due("two pairs", Checks.ruled(x, "10,21"), 2);
        c.due("page", x.count(4), 0);
        c.due("replies(1, 0)", x.replies(1, 0), 1);
        c.due("replies(2, 1)", x.replies(2, 1), 1);
        c.due("replies(0, 1)", x.replies(0, 1), 0);
        c.due("limit", x.count(3), 3);
        c.due("a limit is told", Checks.ruled(x, "02;9"), 1);
        c.due("limit", x.count(3), 9);
        c.due("replies(1, 0)", x.replies(1, 0), 0);
        c.due("replies(0, 2)", x.replies(0, 2), 1);
        c.due("limit 0", Checks.ruled(x, "02;0"), 1);
        c.due("limit", x.count(3), 0);
        c.due("no limit told", Checks.ruled(x, "02,01"), 2);
        c.due("limit", x.count(3), 3);
        c.due("ten pairs", Checks.ruled(x, "60,61,62,63,64,65,50,51,52,53;8"), 10);
        c.due("replies(6, 5)", x.replies(6, 5), 1);
        c.due("replies(5, 3)", x.replies(5, 3), 1);
        c.due("pairs", x.count(2), 10);
        for (String none : new String[] {"0", "01,", "01;", "01,01", "01;33", "7", "01,2", " 01"}) {
            Checks.page(x, none);
            c.refused(x, "of " + none, x::rule, STATE);
        }
    }

    private static void replies() {
        c.part("6 replies");
        TopSpeaks x = new TopSpeaks();
        Checks.ruled(x, "06,60,35");
        for (int a = 0; a <= 6; a++) {
            for (int b = 0; b <= 6; b++) {
                boolean told = a == 0 && b == 6 || a == 6 && b == 0 || a == 3 && b == 5;
                c.due("replies(" + a + ", " + b + ")", x.replies(a, b), told ? 1 : 0);
            }
        }
        for (int wrong : new int[] {-1, 7, LOW, HIGH}) {
            c.refused(x, "a " + wrong, () -> x.replies(wrong, 0), UNKNOWN);
            c.refused(x, "b " + wrong, () -> x.replies(0, wrong), UNKNOWN);
        }
    }

    private static void member() {
        c.part("7 member");
        TopSpeaks x = new TopSpeaks();
        int[][] wrongs = {
            {-1, 1, 0, 0, 0}, {5, 1, 0, 0, 0}, {0, 0, 0, 0, 0}, {0, 10, 0, 0, 0}, {0, 1, -4, 0, 0},
            {0, 1, 4, 0, 0}, {0, 1, 0, -1, 0}, {0, 1, 0, 3, 0}, {0, 1, 0, 0, -1}, {0, 1, 0, 0, 100},
            {LOW, HIGH, LOW, HIGH, LOW}};
        for (int[] w : wrongs) {
            c.refused(x, java.util.Arrays.toString(w), () -> x.member(w[0], w[1], w[2], w[3], w[4]), OUTSIDE);
        }
        c.due("the least", x.member(0, 1, -3, 0, 0), 0);
        c.due("the most", x.member(4, 9, 3, 2, 99), 1);
        for (int n = 2; n <= 6; n++) {
            c.due("member " + n, x.member(n % 5, n, 0, 1, n), n);
        }
        c.due("count(0)", x.count(0), 7);
        c.refused(x, "an eighth", () -> x.member(0, 1, 0, 0, 0), FULL);
        c.refused(x, "OUTSIDE ahead of FULL", () -> x.member(0, 0, 0, 0, 0), OUTSIDE);
    }

    private static void speech() {
        c.part("8 speech");
        TopSpeaks x = easy(2);
        c.due("nothing at first", x.speech(1, 4, 9), 0);
        c.due("sort so far", x.speech(1, 0, 0), 4);
        c.due("sort so far", x.speech(1, 3, 5), 0);
        c.due("sort", x.about(1, 5), 3);
        c.due("number", x.about(1, 6), 5);
        c.due("the other's sort", x.about(0, 5), 0);
        c.refused(x, "nobody's", () -> x.speech(2, 1, 1), UNKNOWN);
        c.refused(x, "member -1", () -> x.speech(-1, 9, 99), UNKNOWN);
        for (int wrong : new int[] {-1, 5, LOW, HIGH}) {
            c.refused(x, "sort " + wrong, () -> x.speech(1, wrong, 0), OUTSIDE);
        }
        for (int wrong : new int[] {-1, 10, LOW, HIGH}) {
            c.refused(x, "number " + wrong, () -> x.speech(1, 1, wrong), OUTSIDE);
        }
    }

    private static void aboutAll(TopSpeaks x, int member, int... wants) {
        for (int what = 0; what < wants.length; what++) {
            c.due("about(" + member + ", " + what + ")", x.about(member, what), wants[what]);
        }
    }

    private static void about() {
        c.part("9 about");
        TopSpeaks x = new TopSpeaks();
        x.member(FAT, 4, -1, 1, 50);
        x.member(JOINER, 5, 2, 2, 60);
        x.member(STEADY, 6, 3, 0, 70);
        x.member(ELDER, 7, -3, 1, 80);
        x.member(PLAIN, 8, 1, 0, 90);
        x.member(FAT, 1, 0, 0, 0);
        x.speech(0, 2, 7);
        aboutAll(x, 0, FAT, 4, -1, 1, 50, 2, 7, 0, 0, 8, 50, 0);
        c.due("rise(3)", x.rise(3), 1);
        c.due("rise(0)", x.rise(0), 2);
        c.due("rise(1)", x.rise(1), 3);
        c.due("rise(2)", x.rise(2), 4);
        // on 3: 8 + 5 + 6 and three chairs; on 0: 5 + 6 and two chairs, one half of it, rounded up
        aboutAll(x, 3, ELDER, 7, -3, 1, 80, 0, 0, 1, 0, 7, 90, 22);
        aboutAll(x, 0, FAT, 4, -1, 1, 50, 2, 7, 2, 0, 8, 50, 7);
        aboutAll(x, 1, JOINER, 5, 2, 2, 60, 0, 0, 3, 0, 5, 70, 7);
        aboutAll(x, 2, STEADY, 6, 3, 0, 70, 0, 0, 4, 0, 6, 70, 0);
        aboutAll(x, 4, PLAIN, 8, 1, 0, 90, 0, 0, 0, 0, 8, 90, 0);
        x.down();
        x.rise(5);
        c.due("rise(1) on a weak chair", x.rise(1), 0);
        aboutAll(x, 5, FAT, 1, 0, 0, 0, 0, 0, 0, 1, 2, 0, 0);
        aboutAll(x, 1, JOINER, 5, 2, 2, 60, 0, 0, 0, 1, 5, 70, 0);
        c.due("bruises of another", x.about(0, 8), 0);
        for (int wrong : new int[] {-1, 6, 7, LOW, HIGH}) {
            c.refused(x, "member " + wrong, () -> x.about(wrong, 99), UNKNOWN);
        }
        for (int wrong : new int[] {-1, 12, LOW, HIGH}) {
            c.refused(x, "what " + wrong, () -> x.about(0, wrong), OUTSIDE);
        }
    }

    private static void as() {
        c.part("10 as");
        TopSpeaks x = new TopSpeaks();
        boolean[][] isA = {
            {true, false, false, false, false}, {true, true, false, false, false},
            {true, false, true, false, false}, {true, false, false, true, false},
            {true, false, true, false, true}};
        // the numbers run against the kinds, so that one is not taken for the other
        for (int number = 0; number < 5; number++) {
            x.member(4 - number, 1, 0, 0, 0);
        }
        for (int number = 0; number < 5; number++) {
            for (int kind = 0; kind < 5; kind++) {
                int want = isA[4 - number][kind] ? number : NONE;
                c.due("as(" + number + ", " + kind + ")", x.as(number, kind), want);
            }
        }
        c.refused(x, "nobody", () -> x.as(5, 9), UNKNOWN);
        c.refused(x, "member -1", () -> x.as(-1, 0), UNKNOWN);
        c.refused(x, "kind 5", () -> x.as(0, 5), OUTSIDE);
        c.refused(x, "kind -1", () -> x.as(0, -1), OUTSIDE);
    }

    private static void chair() {
        c.part("11 chair");
        TopSpeaks x = easy(2);
        c.due("chair(0, 0)", x.chair(0, 0), 99);
        c.due("chair(0, 99)", x.chair(0, 99), 0);
        c.due("chair(0, 7)", x.chair(0, 7), 99);
        c.due("about(0, 4)", x.about(0, 4), 7);
        c.due("about(1, 4)", x.about(1, 4), 99);
        c.refused(x, "v -1", () -> x.chair(0, -1), OUTSIDE);
        c.refused(x, "v 100", () -> x.chair(0, 100), OUTSIDE);
        c.refused(x, "nobody's", () -> x.chair(2, -1), UNKNOWN);
        c.refused(x, "member -1", () -> x.chair(-1, 5), UNKNOWN);
        x.rise(0);
        c.refused(x, "of one who stands", () -> x.chair(0, 8), STATE);
        c.refused(x, "OUTSIDE ahead of STATE", () -> x.chair(0, 100), OUTSIDE);
        c.due("of the other", x.chair(1, 8), 99);
        x.down();
        c.due("of one who came down", x.chair(0, 8), 7);
    }

    private static void may() {
        c.part("12 may");
        TopSpeaks x = easy(3);
        Checks.ruled(x, "10,20,21,06");
        c.due("one would reply to nobody who is there", x.may(0), 0);
        Checks.ruled(x, "10,20,21");
        c.due("may(0)", x.may(0), 1);
        c.due("may(1)", x.may(1), 0);
        c.due("may(2)", x.may(2), 0);
        x.rise(0);
        c.due("may(0) standing", x.may(0), 0);
        c.due("may(1)", x.may(1), 1);
        c.due("may(2), one is missing", x.may(2), 0);
        x.rise(1);
        c.due("may(2)", x.may(2), 1);
        for (int wrong : new int[] {-1, 3, 7, LOW, HIGH}) {
            c.refused(x, "may(" + wrong + ")", () -> x.may(wrong), UNKNOWN);
        }
    }

    private static void rise() {
        c.part("13 rise");
        TopSpeaks x = new TopSpeaks();
        x.member(PLAIN, 1, 0, 0, 6);
        x.member(PLAIN, 5, 0, 0, 2);
        x.member(PLAIN, 1, 0, 0, 0);
        c.due("rise(0)", x.rise(0), 1);
        c.due("rise(1): the chair bears just that", x.rise(1), 2);
        c.refused(x, "one who stands", () -> x.rise(0), STATE);
        c.refused(x, "nobody", () -> x.rise(3), UNKNOWN);
        c.refused(x, "member -1", () -> x.rise(-1), UNKNOWN);
        c.due("rise(2): too much for the lowest chair", x.rise(2), 0);
        c.due("height", x.count(1), 0);
        c.due("falls", x.count(5), 1);
        for (int one = 0; one < 3; one++) {
            c.due("bruises of " + one, x.about(one, 8), 1);
        }
        c.due("bill", x.bill(), 0);
        Checks.ruled(x, "10");
        c.refused(x, "one who would reply", () -> x.rise(1), STATE);
        c.due("rise(2)", x.rise(2), 1);
        c.due("rise(0): a chair alone is too much", x.rise(0), 0);
        c.due("bruises of 0", x.about(0, 8), 2);
        c.due("bruises of 1", x.about(1, 8), 1);
        c.due("falls", x.count(5), 2);
        kindsAtTheirLimits();
    }

    private static void kindsAtTheirLimits() {
        c.due("a fat one's chair bears 9 as 5", pairHeight(FAT, 5, PLAIN, 8), 2);
        c.due("a fat one's chair bears 9 as 5", pairHeight(FAT, 4, PLAIN, 8), 0);
        c.due("a fat one's chair bears 10 as 5", pairHeight(FAT, 5, PLAIN, 9), 2);
        c.due("a fat one weighs 8", pairHeight(PLAIN, 9, FAT, 4), 2);
        c.due("a fat one weighs 10", pairHeight(PLAIN, 10, FAT, 5), 0);
        c.due("a joiner's chair bears 10 more", pairHeight(JOINER, 0, PLAIN, 9), 2);
        c.due("and no more", pairHeight(JOINER, 0, FAT, 5), 0);
        c.due("an elder's chair, too", pairHeight(ELDER, 0, PLAIN, 9), 2);
        c.due("a steady one's does not", pairHeight(STEADY, 0, PLAIN, 9), 0);
    }

    /** How high a tower of two is then. */
    private static int pairHeight(int lowKind, int lowChair, int highKind, int highWeight) {
        TopSpeaks x = new TopSpeaks();
        x.member(lowKind, 1, 0, 0, lowChair);
        x.member(highKind, highWeight, 0, 0, 0);
        x.rise(0);
        return x.rise(1);
    }

    private static void riseAndLean() {
        c.part("13 rise, leans");
        TopSpeaks x = new TopSpeaks();
        x.member(PLAIN, 1, 3, 0, 99);
        x.member(JOINER, 1, 1, 0, 99);
        x.member(STEADY, 1, 3, 0, 99);
        x.member(ELDER, 1, 3, 0, 99);
        x.member(PLAIN, 1, -3, 0, 99);
        x.member(FAT, 1, -1, 0, 99);
        c.due("at the limit", x.rise(0), 1);
        c.due("a steady one's counts nothing", x.rise(2), 2);
        c.due("an elder's counts nothing", x.rise(3), 3);
        c.due("above the limit", x.rise(1), 0);
        c.due("the other side at the limit", x.rise(4), 1);
        c.due("beyond it", x.rise(5), 0);
        x.rise(4);
        x.rise(0);
        c.due("both sides even out", x.rise(1), 3);
        x.down();
        Checks.ruled(x, "65;0");
        c.due("limit 0", x.rise(5), 0);
        x.rise(2);
        Checks.ruled(x, "65;4");
        x.rise(0);
        c.due("limit 4", x.rise(1), 3);
        Checks.ruled(x, "65;2");
        c.due("it stands till somebody rises", x.count(1), 3);
        c.due("then it falls", x.rise(3), 0);
    }

    /** How high seven come who weigh 1 each, the lowest with a chair of his own and the leans told. */
    private static int sevenHigh(int lowestChair, int lowestLean, int topLean) {
        TopSpeaks x = new TopSpeaks();
        x.member(PLAIN, 1, lowestLean, 0, lowestChair);
        for (int i = 1; i < 7; i++) {
            x.member(PLAIN, 1, i == 6 ? topLean : 0, 0, 99);
        }
        int high = 0;
        for (int i = 0; i < 7; i++) {
            high = x.rise(i);
        }
        if (high == 7) {
            c.due("the lowest chair bears", x.about(0, 11), 12);
            c.due("the lowest may not rise", x.may(0), 0);
            c.due("the lowest is who stands at 1", x.at(1), 0);
            c.due("image", x.image(), 7);
            x.down();
            x.chair(6, 1);
            c.due("restore", x.restore(), 7);
            c.due("the last one's chair is back", x.about(6, 4), 99);
        }
        return high;
    }

    private static void riseOfSeven() {
        c.part("13 rise, seven high");
        c.due("seven", sevenHigh(12, 0, 0), 7);
        c.due("too much by one", sevenHigh(11, 0, 0), 0);
        c.due("leans at the limit", sevenHigh(12, 3, 0), 7);
        c.due("leans above it", sevenHigh(12, 3, 1), 0);
        c.due("leans below it", sevenHigh(12, -3, -1), 0);
        c.due("leans even out", sevenHigh(12, -3, 3), 7);
    }

    private static void down() {
        c.part("14 down");
        TopSpeaks x = easy(3);
        c.due("empty", x.down(), 0);
        x.rise(0);
        x.rise(2);
        c.due("two", x.down(), 2);
        c.due("height", x.count(1), 0);
        c.due("unhurt", x.about(0, 8) + x.about(2, 8), 0);
        c.due("no fall", x.count(5), 0);
        c.due("again", x.rise(2), 1);
    }

    private static void at() {
        c.part("15 at");
        TopSpeaks x = easy(7);
        for (int i = 0; i < 7; i++) {
            c.refused(x, "at(" + (i + 1) + ")", () -> x.at(x.count(1) + 1), UNKNOWN);
            x.rise(i * 3 % 7);
        }
        for (int i = 0; i < 7; i++) {
            c.due("at(" + (i + 1) + ")", x.at(i + 1), i * 3 % 7);
        }
        for (int wrong : new int[] {0, -1, 8, LOW, HIGH}) {
            c.refused(x, "at(" + wrong + ")", () -> x.at(wrong), UNKNOWN);
        }
    }

    private static void bill() {
        c.part("16 bill");
        TopSpeaks x = easy(7);
        x.speech(0, 2, 5);
        x.speech(1, 1, 9);
        x.speech(2, 3, 9);
        x.speech(3, 0, 9);
        x.speech(4, 2, 4);
        x.speech(5, 3, 9);
        x.speech(6, 4, 6);
        int[] bills = {0, 9, 81, 81, 77, 693, 6};
        c.due("bill()", x.bill(), 0);
        for (int one = 0; one < 7; one++) {
            x.rise(one);
            c.due("bill() behind " + one, x.bill(), bills[one]);
        }
        x.speech(4, 3, 9);
        x.speech(6, 2, 9);
        c.due("999 at most behind each", x.bill(), 990);
        x.speech(6, 1, 1);
        c.due("999 at most", x.bill(), 999);
        x.speech(6, 3, 0);
        c.due("times 0", x.bill(), 0);
        x.down();
        c.due("0 below", x.bill(), 0);
        x.rise(1);
        x.rise(0);
        c.due("from below", x.bill(), 4);
        TopSpeaks y = easy(7);
        y.speech(0, 1, 8);
        y.speech(6, 3, 3);
        for (int one = 0; one < 7; one++) {
            y.rise(one);
        }
        c.due("of seven", y.bill(), 24);
    }

    private static void debate() {
        c.part("17 debate");
        TopSpeaks x = new TopSpeaks();
        x.member(PLAIN, 1, 0, 0, 10);
        x.member(PLAIN, 2, 0, 0, 2);
        x.member(PLAIN, 3, 0, 0, 0);
        x.member(PLAIN, 4, 3, 0, 99);
        x.member(PLAIN, 5, 1, 0, 99);
        x.speech(0, 1, 7);
        x.speech(1, 3, 5);
        x.speech(2, 2, 1);
        x.speech(4, 4, 3);
        debateIs(x, "012", 3, 0);
        debateIs(x, "01", 0, 35);
        debateIs(x, "10", 0, 7);
        debateIs(x, "34", 2, 0);
        debateIs(x, "4", 0, 3);
        Checks.ruled(x, "10,30");
        debateIs(x, "1", 0, 0);
        debateIs(x, "13", 0, 0);
        debateIs(x, "10", 0, 7);
        debateIs(x, "1024", 4, 0);
        x.rise(0);
        debateIs(x, "01", 0, 35);
        Checks.page(x, "01");
        c.due("the page stays", x.debate(1) + x.debate(0) + x.count(4), 37);
        debateRefusals(x, () -> x.debate(0));
        debateRefusals(x, () -> x.debate(1));
        c.refused(x, "what -1", () -> x.debate(-1), OUTSIDE);
        c.refused(x, "what 2, on no debate", () -> x.debate(2), OUTSIDE);
    }

    private static void debateIs(TopSpeaks x, String text, int fell, int bill) {
        Checks.page(x, text);
        long before = x.digest();
        c.due("debate(0) of " + text, x.debate(0), fell);
        c.due("debate(1) of " + text, x.debate(1), bill);
        c.due("digest() behind it", x.digest(), before);
    }

    /** For an object with the members 0 to 4. */
    private static void debateRefusals(TopSpeaks x, java.util.function.LongSupplier call) {
        for (String none : new String[] {"", "00", "0,1", "7", "5", "015", "6", "01 "}) {
            Checks.page(x, none);
            c.refused(x, "on \"" + none + "\"", call, STATE);
        }
    }

    private static TopSpeaks wobbly() {
        TopSpeaks x = new TopSpeaks();
        x.member(PLAIN, 9, 0, 0, 0);
        x.member(FAT, 9, 1, 0, 0);
        x.member(JOINER, 8, -2, 0, 0);
        x.member(STEADY, 9, 3, 0, 5);
        x.member(PLAIN, 9, 3, 0, 30);
        return x;
    }

    private static void nailsAre(TopSpeaks x, String text, int want) {
        Checks.page(x, text);
        long before = x.digest();
        c.due("nails() of " + text, x.nails(), want);
        c.due("digest() behind it", x.digest(), before);
    }

    private static void nails() {
        c.part("18 nails");
        TopSpeaks x = wobbly();
        nailsAre(x, "0", 0);
        nailsAre(x, "02", 1);
        nailsAre(x, "03", 2);
        nailsAre(x, "01", 3);
        nailsAre(x, "12", 1);
        nailsAre(x, "20", 0);
        nailsAre(x, "21", 1);
        // 10 on 3; 10 + 9 + 1 of 3 on the fat 1: one half; 10 + 10 + 19 on 2, which bears 10
        nailsAre(x, "2130", 4 + 2 + 1);
        nailsAre(x, "14", NONE);
        nailsAre(x, "41", NONE);
        nailsAre(x, "4", 0);
        Checks.ruled(x, "02;9");
        nailsAre(x, "02", 1);
        nailsAre(x, "41", 0);
        Checks.ruled(x, "02;0");
        nailsAre(x, "2", NONE);
        debateRefusals(x, x::nails);
        int[] chairs = {19, 18, 17, 11, 10, 9, 2, 1, 0};
        int[] fewest = {0, 0, 0, 0, 0, 1, 1, 1, 2};
        for (int i = 0; i < chairs.length; i++) {
            TopSpeaks y = new TopSpeaks();
            y.member(PLAIN, 1, 0, 0, chairs[i]);
            y.member(PLAIN, 9, 0, 0, 0);
            nailsAre(y, "01", fewest[i]);
        }
        nailsAre(seven(11, 0), "0123456", 1);
        nailsAre(seven(12, 3), "0123456", 0);
        nailsAre(seven(12, 4), "0123456", NONE);
    }

    /** Seven who weigh 1 each, the lowest with this chair; they lean so much in all, if it is above 2. */
    private static TopSpeaks seven(int lowestChair, int leans) {
        TopSpeaks x = new TopSpeaks();
        x.member(PLAIN, 1, leans > 2 ? 3 : 0, 0, lowestChair);
        for (int i = 1; i < 7; i++) {
            x.member(PLAIN, 1, i == 6 ? Math.max(0, leans - 3) : 0, 0, 99);
        }
        return x;
    }

    private static void shookBy(TopSpeaks x, String text, int want) {
        Checks.page(x, text);
        long before = x.digest();
        c.due("shook() of " + text, x.shook(), want);
        c.due("digest() behind it", x.digest(), before);
    }

    private static void shook() {
        c.part("19 shook");
        TopSpeaks x = wobbly();
        shookBy(x, "0", 0);
        shookBy(x, "20", 0);
        shookBy(x, "02", 5);
        shookBy(x, "40", 0);
        shookBy(x, "402", 5);
        shookBy(x, "032", 0);
        shookBy(x, "41", 18);
        shookBy(x, "3", 0);
        // 4 bears 30: 10, 10 and 9 are less, but 0 and 3 bear too little
        shookBy(x, "4302", 0);
        shookBy(x, "4230", 8 + 1);
        Checks.ruled(x, "02;0");
        shookBy(x, "02", 4);
        shookBy(x, "2", 4);
        debateRefusals(x, x::shook);
    }

    private static void orderIs(TopSpeaks x, int set, int... row) {
        for (int place = 0; place <= 6; place++) {
            int want = place < row.length ? row[place] : NONE;
            c.due("order(" + set + ", " + place + ")", x.order(set, place), want);
        }
    }

    private static void order() {
        c.part("20 order");
        TopSpeaks x = easy(4);
        Checks.ruled(x, "02,13");
        orderIs(x, 15, 2, 0, 3, 1);
        orderIs(x, 0);
        orderIs(x, 1);
        orderIs(x, 12, 2, 3);
        TopSpeaks y = new TopSpeaks();
        y.member(PLAIN, 5, 2, 0, 4);
        y.member(PLAIN, 1, 2, 0, 20);
        y.member(PLAIN, 3, -2, 0, 11);
        orderIs(y, 7, 1, 2, 0);
        orderIs(y, 3);
        y.rise(2);
        orderIs(y, 3, 0, 1);
        orderIs(y, 7);
        long before = y.digest();
        c.refused(y, "set -1", () -> y.order(-1, 0), OUTSIDE);
        c.refused(y, "a set with nobody", () -> y.order(8, 0), OUTSIDE);
        c.refused(y, "place -1", () -> y.order(3, -1), OUTSIDE);
        c.refused(y, "place 7", () -> y.order(3, 7), OUTSIDE);
        c.due("digest()", y.digest(), before);
        TopSpeaks z = easy(7);
        orderIs(z, 127, 0, 1, 2, 3, 4, 5, 6);
        c.refused(z, "set 128", () -> z.order(128, 0), OUTSIDE);
    }

    private static void lawsAre(TopSpeaks x, int set, int many, int greatest) {
        c.due("laws(" + set + ", 0)", x.laws(set, 0), many);
        c.due("laws(" + set + ", 1)", x.laws(set, 1), greatest);
    }

    private static void laws() {
        c.part("21 laws");
        TopSpeaks x = easy(4);
        x.speech(0, 1, 2);
        x.speech(1, 3, 5);
        x.speech(2, 2, 1);
        x.speech(3, 4, 9);
        lawsAre(x, 0, 1, 0);
        lawsAre(x, 1, 1, 2);
        lawsAre(x, 3, 2, 10);
        // 012: 9, 021: 5, 102: 1, 120: 2, 201: 10, 210: 2
        lawsAre(x, 7, 5, 10);
        lawsAre(x, 11, 5, 55);
        Checks.ruled(x, "10");
        lawsAre(x, 7, 3, 10);
        lawsAre(x, 2, 0, NONE);
        x.rise(3);
        lawsAre(x, 0, 1, 9);
        lawsAre(x, 3, 1, 55);
        lawsAre(x, 9, 0, NONE);
        c.refused(x, "set -1", () -> x.laws(-1, 0), OUTSIDE);
        c.refused(x, "a set with nobody", () -> x.laws(16, 0), OUTSIDE);
        c.refused(x, "what -1", () -> x.laws(1, -1), OUTSIDE);
        c.refused(x, "what 2", () -> x.laws(1, 2), OUTSIDE);
        TopSpeaks y = new TopSpeaks();
        y.member(PLAIN, 5, 3, 0, 2);
        y.member(PLAIN, 1, 1, 0, 9);
        y.speech(0, 1, 8);
        lawsAre(y, 3, 0, NONE);
        Checks.ruled(y, "32;4");
        y.speech(1, 4, 3);
        lawsAre(y, 3, 2, 11);
        TopSpeaks z = easy(4);
        z.speech(0, 4, 9);
        z.speech(1, 3, 9);
        z.speech(2, 3, 9);
        z.speech(3, 3, 9);
        lawsAre(z, 15, 4, 999);
    }

    private static void searchesAreCounted() {
        c.part("20, 21: forty times");
        TopSpeaks x = easy(2);
        for (int i = 0; i < 20; i++) {
            c.due("order", x.order(3, 1), 1);
            c.due("order refused", x.order(3, 7), OUTSIDE);
            c.due("laws", x.laws(i % 2, 0), 1);
            c.due("laws refused", x.laws(4, 0), OUTSIDE);
        }
        c.due("count(6)", x.count(6), 40);
        c.refused(x, "order", () -> x.order(3, 1), STATE);
        c.refused(x, "laws", () -> x.laws(3, 1), STATE);
        c.refused(x, "OUTSIDE ahead of STATE", () -> x.order(3, 7), OUTSIDE);
        c.refused(x, "OUTSIDE ahead of STATE", () -> x.laws(4, 0), OUTSIDE);
        TopSpeaks y = easy(1);
        Checks.ruled(y, "06");
        for (int i = 0; i < 40; i++) {
            c.due("NONE counts", y.order(1, 0), NONE);
        }
        c.due("order", y.order(1, 0), STATE);
        c.due("count(7)", y.count(7), 0);
    }

    private static void changed() {
        c.part("22 changed");
        TopSpeaks x = new TopSpeaks();
        x.member(PLAIN, 3, 0, 0, 10);
        x.member(JOINER, 4, 0, 0, 20);
        x.member(FAT, 2, 0, 0, 30);
        x.member(PLAIN, 9, 0, 0, 99);
        c.due("none, if it is empty", x.changed(), NONE);
        x.rise(0);
        c.due("one", x.changed(), 10);
        x.rise(1);
        // 5 on 0; 20 to 0 leaves 15, 10 to the joiner leaves 20
        c.due("two", x.changed(), 15);
        x.rise(2);
        // 10 on 0, 5 on the joiner 1 (bears 10 more), nothing on the fat one
        c.due("three", x.changed(), 15);
        long before = x.digest();
        x.changed();
        c.due("digest()", x.digest(), before);
        c.due("about(0, 4)", x.about(0, 4), 10);
        x.down();
        x.chair(2, 0);
        x.rise(1);
        x.rise(2);
        c.due("the joiner's ten stay with him", x.changed(), 5);
    }

    private static void midnightIs(TopSpeaks x, int... wants) {
        long before = x.count(7);
        for (int turns = 1; turns <= wants.length; turns++) {
            c.due("midnight(" + turns + ")", x.midnight(turns), wants[turns - 1]);
        }
        c.due("count(7)", x.count(7), before + wants.length);
    }

    private static void midnight() {
        c.part("23 midnight");
        midnightIs(new TopSpeaks(), 0, 0, 0, 0, 0);
        TopSpeaks x = easy(1);
        midnightIs(x, 1, 1, 1, 1, 1);
        x.member(PLAIN, 1, 0, 1, 99);
        // who has the last turn waits for it
        midnightIs(x, 1, -1, 1, -1, 1);
        x.rise(0);
        midnightIs(x, 1, -1, -1, -1, -1);
        x.rise(1);
        midnightIs(x, -1, -1, -1, -1, -1);
        TopSpeaks one = easy(2);
        one.rise(1);
        c.due("0 answers 1", one.midnight(1), 1);
        TopSpeaks two = easy(3);
        two.rise(2);
        Checks.ruled(two, "06,16");
        midnightIs(two, 0, 0, 0, 0, 0);
        TopSpeaks fallen = new TopSpeaks();
        fallen.member(PLAIN, 9, 0, 1, 0);
        fallen.member(PLAIN, 9, 0, 0, 0);
        fallen.rise(0);
        // 1 makes all fall, so that nobody is on top; but then 0 may rise again
        midnightIs(fallen, 0, -1, 0, -1, 0);
        long before = fallen.count(1) + fallen.count(5) + fallen.about(0, 8);
        c.due("as it would be", before, 1);
        c.refused(x, "turns 0", () -> x.midnight(0), -100102);
        c.refused(x, "turns 6", () -> x.midnight(6), -100102);
        c.refused(x, "turns LOW", () -> x.midnight(LOW), -100102);
        c.refused(x, "turns HIGH", () -> x.midnight(HIGH), -100102);
    }

    private static void midnightsAreCounted() {
        c.part("23 midnight, thirty times");
        TopSpeaks x = easy(3);
        for (int i = 0; i < 30; i++) {
            c.due("midnight(1)", x.midnight(1), 1);
            c.due("midnight(6)", x.midnight(6), -100102);
        }
        c.due("count(7)", x.count(7), 30);
        c.refused(x, "midnight(1)", () -> x.midnight(1), -100103);
        c.refused(x, "OUTSIDE ahead of STATE", () -> x.midnight(0), -100102);
        c.due("count(6)", x.count(6), 0);
    }

    private static void sessions() {
        c.part("24 sessions");
        TopSpeaks x = new TopSpeaks();
        c.due("nothing is drawn", x.sessions(60, 71, 3), 71);
        c.due("height", x.sessions(60, 71, 0), 0);
        // 12345 behind seed 0, 65536 times 0 is rounded away: member 0
        x.member(PLAIN, 3, 0, 0, 99);
        x.speech(0, 1, 5);
        c.due("one draw", x.sessions(1, 0, 3), 12345);
        c.due("height", x.sessions(1, 0, 0), 1);
        c.due("bill", x.sessions(1, 0, 2), 5);
        c.due("fell", x.sessions(1, 0, 1), 0);
        c.due("two draws", x.sessions(2, 0, 3), (1103515245L * 12345 + 12345) % (1L << 31));
        c.due("the greatest seed", x.sessions(1, HIGH, 3), (1103515245L * HIGH + 12345) % (1L << 31));
        x.chair(0, 0);
        x.member(PLAIN, 3, 0, 0, 0);
        // each second one who rises makes it fall
        c.due("fell", x.sessions(60, 5, 1), fallsOfTwo(60, 5, -1));
        x.rise(1);
        c.due("from the tower as it is", x.sessions(60, 5, 1), fallsOfTwo(60, 5, 1));
        c.due("as it would be", x.count(1) + x.count(5), 1);
        int[][] wrongs = {{0, 1, 0}, {61, 1, 0}, {1, -1, 0}, {1, 1, -1}, {1, 1, 4}, {LOW, LOW, LOW}};
        for (int[] w : wrongs) {
            c.refused(x, java.util.Arrays.toString(w), () -> x.sessions(w[0], w[1], w[2]), OUTSIDE);
        }
        c.due("sixty", x.sessions(60, 0, 0) >= 0 ? 1 : 0, 1);
    }

    /** Two members whose chairs bear nothing: whoever rises as the second makes both fall. */
    private static int fallsOfTwo(int times, long seed, int standing) {
        int falls = 0;
        int on = standing;
        long s = seed;
        for (int i = 0; i < times; i++) {
            s = (1103515245L * s + 12345L) % 2147483648L;
            int one = (int) (s / 65536 % 2);
            if (on == -1) {
                on = one;
            } else if (on != one) {
                on = -1;
                falls++;
            }
        }
        return falls;
    }

    private static void image() {
        c.part("25 image");
        TopSpeaks x = easy(3);
        c.due("empty", x.image(), 0);
        x.rise(1);
        x.rise(2);
        c.due("two", x.image(), 2);
        x.down();
        c.due("the latest", x.restore(), 2);
        c.due("at(1)", x.at(1), 1);
        c.due("at(2)", x.at(2), 2);
    }

    private static void restore() {
        c.part("26 restore");
        TopSpeaks x = easy(3);
        c.refused(x, "none was kept", x::restore, STATE);
        x.rise(1);
        x.rise(0);
        x.image();
        x.down();
        x.chair(0, 1);
        x.chair(2, 2);
        x.speech(0, 1, 9);
        Checks.ruled(x, "12");
        x.rise(2);
        c.due("it falls", x.rise(0), 2);
        c.due("it falls", x.rise(1), 0);
        c.due("restore()", x.restore(), 2);
        c.due("at(1)", x.at(1), 1);
        c.due("at(2)", x.at(2), 0);
        c.due("chairs", x.about(0, 4) + x.about(2, 4), 198);
        c.due("bruises", x.about(0, 8) + x.about(1, 8) + x.about(2, 8), 0);
        c.due("how often it fell stays", x.count(5), 1);
        c.due("speeches stay", x.bill(), 9);
        c.due("the house rule stays", x.replies(1, 2), 1);
        x.down();
        c.due("again", x.restore(), 2);
        x.member(PLAIN, 1, 0, 0, 0);
        c.refused(x, "members came since", x::restore, STATE);
        c.due("another image", x.image(), 2);
        c.due("restore()", x.restore(), 2);
        TopSpeaks y = new TopSpeaks();
        y.image();
        c.due("an image of nobody", y.restore(), 0);
    }

    private static void count() {
        c.part("27 count");
        TopSpeaks x = easy(3);
        x.chair(2, 0);
        Checks.ruled(x, "34,45;7");
        Checks.page(x, "abc");
        x.rise(2);
        x.rise(1);
        x.rise(1);
        x.order(1, 0);
        x.laws(1, 0);
        x.laws(2, 0);
        x.midnight(1);
        x.midnight(2);
        int[] wants = {3, 1, 2, 7, 3, 1, 3, 2};
        for (int what = 0; what <= 7; what++) {
            c.due("count(" + what + ")", x.count(what), wants[what]);
        }
        for (int wrong : new int[] {-1, 8, LOW, HIGH}) {
            c.refused(x, "count(" + wrong + ")", () -> x.count(wrong), OUTSIDE);
        }
    }

    private static long digestOf(TopSpeaks x, String page) {
        long h = 653;
        for (int a = 0; a <= 6; a++) {
            for (int b = 0; b <= 6; b++) {
                h = 31 * h + x.replies(a, b);
            }
        }
        for (int m = 0; m < x.count(0); m++) {
            for (int what = 0; what <= 11; what++) {
                h = 31 * h + x.about(m, what);
            }
            h = 31 * h + x.may(m);
        }
        for (int height = 1; height <= x.count(1); height++) {
            h = 31 * h + x.at(height);
        }
        h = 31 * h + x.bill();
        h = 31 * h + x.changed();
        for (int i = 0; i < page.length(); i++) {
            h = 31 * h + page.charAt(i);
        }
        for (int what = 0; what <= 7; what++) {
            h = 31 * h + x.count(what);
        }
        return h;
    }

    private static void digest() {
        c.part("28 digest");
        TopSpeaks x = new TopSpeaks();
        c.due("of a new object", x.digest(), digestOf(x, ""));
        x.member(ELDER, 3, -2, 1, 17);
        x.member(FAT, 5, 1, 2, 40);
        x.member(STEADY, 9, 3, 0, 3);
        x.speech(1, 4, 8);
        Checks.ruled(x, "10,26,63;5");
        x.rise(0);
        x.rise(1);
        Checks.page(x, "3~a,");
        x.order(1, 0);
        x.midnight(2);
        c.due("of all", x.digest(), digestOf(x, "3~a,"));
        c.due("it changes nothing", x.digest(), digestOf(x, "3~a,"));
        x.down();
        c.due("of an empty tower", x.digest(), digestOf(x, "3~a,"));
    }
}
