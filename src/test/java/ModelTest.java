import java.util.ArrayList;
import java.util.List;
import java.util.TreeSet;
import java.util.regex.Matcher;
import java.util.regex.Pattern;

/**
 * Many runs of drawn calls, each answer held against a second, slow way to reckon it: rows as
 * lists, texts by regular expressions, all permutations instead of short cuts.
 */
public final class ModelTest {
    private static final int RUNS = 4000;
    // some of these make several calls; an object is good for 512
    private static final int CALLS = 220;

    private static final Checks c = new Checks();
    private static long seed = 42;

    public static void main(String[] args) {
        for (int run = 0; run < RUNS; run++) {
            c.part("run " + run);
            oneRun(run);
        }
        c.end();
    }

    private static int draw(int many) {
        seed = seed * 6364136223846793005L + 1442695040888963407L;
        return (int) ((seed >>> 33) % many);
    }

    private static final int[] ODD = {-1, 7, 8, 100, 127, 128, Integer.MIN_VALUE, Integer.MAX_VALUE};

    /** Mostly 0 to many - 1, sometimes something else. */
    private static int near(int many) {
        return draw(12) == 0 ? ODD[draw(ODD.length)] : draw(many);
    }

    private static void oneRun(int run) {
        TopSpeaks x = new TopSpeaks();
        Model m = new Model();
        // by turns heavy and light houses: towers that fall and towers that stand
        int strength = new int[] {8, 25, 60, 100}[run % 4];
        for (int i = draw(8); i > 0; i--) {
            enter(x, m, strength);
        }
        for (int call = 0; call < CALLS; call++) {
            if (draw(60) == 0) {
                enter(x, m, strength);
            }
            oneCall(x, m, draw(30), strength);
            if (call % 20 == 0) {
                c.due("digest", x.digest(), m.digest());
            }
        }
    }

    private static void enter(TopSpeaks x, Model m, int strength) {
        int kind = near(5);
        int weight = draw(20) == 0 ? near(12) : 1 + draw(9);
        int lean = draw(20) == 0 ? near(12) : draw(7) - 3;
        int party = near(3);
        int chair = draw(20) == 0 ? near(120) : draw(strength);
        c.due("member", x.member(kind, weight, lean, party, chair), m.member(kind, weight, lean, party, chair));
    }

    private static String ruleText() {
        StringBuilder text = new StringBuilder();
        int pairs = draw(8) == 0 ? 1 + draw(11) : 1 + draw(3);
        for (int i = 0; i < pairs; i++) {
            text.append(i == 0 ? "" : ",").append(draw(7)).append(draw(draw(10) == 0 ? 8 : 7));
        }
        return draw(2) == 0 ? text.toString() : text.append(";").append(draw(10)).toString();
    }

    private static String debateText(Model m) {
        StringBuilder text = new StringBuilder();
        for (int i = draw(8); i > 0; i--) {
            int one = draw(Math.max(1, m.all.size()));
            if (draw(15) == 0 || text.indexOf("" + one) < 0) {
                text.append(one);
            }
        }
        return text.toString();
    }

    private static void write(TopSpeaks x, Model m, String text) {
        if (draw(5) > 0) {
            c.due("blank", x.blank(), m.blank());
        }
        for (int from = 0; from < text.length(); from += 8) {
            long w = Checks.packed(text.substring(from, Math.min(from + 8, text.length())));
            w = draw(40) == 0 ? seed : w;
            c.due("letters " + text, x.letters(w), m.letters(w));
        }
        c.due("fault 0 of " + m.page, x.fault(0), m.fault(0));
        c.due("fault 1 of " + m.page, x.fault(1), m.fault(1));
    }

    private static void oneCall(TopSpeaks x, Model m, int which, int strength) {
        int one = near(7);
        int what;
        switch (which) {
            case 0: write(x, m, ruleText()); c.due("rule " + m.page, x.rule(), m.rule()); break;
            case 1: case 2: case 3:
                write(x, m, debateText(m));
                c.due("debate(0) of " + m.page, x.debate(0), m.debate(0));
                c.due("debate(1) of " + m.page, x.debate(1), m.debate(1));
                c.due("nails of " + m.page, x.nails(), m.nails());
                c.due("shook of " + m.page, x.shook(), m.shook());
                break;
            case 4: what = near(7); c.due("replies", x.replies(one, what), m.replies(one, what)); break;
            case 5: what = near(5); int n = near(10);
                c.due("speech", x.speech(one, what, n), m.speech(one, what, n)); break;
            case 6: what = near(12); c.due("about " + what, x.about(one, what), m.about(one, what)); break;
            case 7: what = near(5); c.due("as", x.as(one, what), m.as(one, what)); break;
            case 8: what = draw(strength); c.due("chair", x.chair(one, what), m.chair(one, what)); break;
            case 9: c.due("may", x.may(one), m.may(one)); break;
            case 10: if (draw(3) == 0) { c.due("down", x.down(), m.down()); } break;
            case 11: c.due("at", x.at(one), m.at(one)); break;
            case 12: c.due("bill", x.bill(), m.bill()); break;
            case 13: what = draw(4) - 1; c.due("debate", x.debate(what), m.debate(what)); break;
            case 14: what = near(128); one = near(7);
                c.due("order", x.order(what, one), m.order(what, one)); break;
            case 15: what = near(128); one = near(2);
                c.due("laws", x.laws(what, one), m.laws(what, one)); break;
            case 16: c.due("changed", x.changed(), m.changed()); break;
            case 17: what = near(6); c.due("midnight", x.midnight(what), m.midnight(what)); break;
            case 18: int times = near(61); int s = draw(10) == 0 ? near(9) : draw(Integer.MAX_VALUE);
                what = near(4);
                c.due("sessions", x.sessions(times, s, what), m.sessions(times, s, what)); break;
            case 19: if (draw(3) == 0) { c.due("image", x.image(), m.image()); } break;
            case 20: if (draw(3) == 0) { c.due("restore", x.restore(), m.restore()); } break;
            case 21: what = near(8); c.due("count", x.count(what), m.count(what)); break;
            case 22: c.due("rule", x.rule(), m.rule()); break;
            case 23: what = near(2); c.due("fault", x.fault(what), m.fault(what)); break;
            default: c.due("rise " + one, x.rise(one), m.rise(one)); break;
        }
    }

    /** The second way. */
    private static final class Model {
        private static final Pattern RULE = Pattern.compile("[0-6][0-6](,[0-6][0-6]){0,9}(;[0-9])?");
        private static final Pattern DEBATE = Pattern.compile("[0-6]{1,7}");

        final List<int[]> all = new ArrayList<>(); // kind, weight, lean, party, chair, sort, number, bruises
        List<Integer> tower = new ArrayList<>();
        String page = "";
        final TreeSet<String> pairs = new TreeSet<>();
        int limit = 3;
        int falls, searches, midnights;
        List<Integer> keptTower;
        int[][] keptMembers;

        private boolean there(int one) {
            return one >= 0 && one < all.size();
        }

        int member(int kind, int weight, int lean, int party, int chair) {
            if (kind < 0 || kind > 4 || weight < 1 || weight > 9 || lean < -3 || lean > 3
                    || party < 0 || party > 2 || chair < 0 || chair > 99) {
                return -102;
            }
            if (all.size() == 7) {
                return -104;
            }
            all.add(new int[] {kind, weight, lean, party, chair, 0, 0, 0});
            return all.size() - 1;
        }

        int letters(long w) {
            String more = "";
            boolean end = false;
            for (int i = 0; i < 8; i++, w >>>= 8) {
                int code = (int) (w % 256 + 256) % 256;
                if (code > 126 || end && code > 0) {
                    return -102;
                }
                end = code == 0;
                more += end ? "" : "" + (char) code;
            }
            if ((page + more).length() > 32) {
                return -104;
            }
            page += more;
            return page.length();
        }

        int blank() {
            int had = page.length();
            page = "";
            return had;
        }

        private static boolean unlikeRule(String text) {
            List<String> told = new ArrayList<>();
            String head = text.contains(";") ? text.substring(0, text.indexOf(';')) : text;
            for (String pair : head.split(",")) {
                if (pair.length() == 2 && (pair.charAt(0) == pair.charAt(1) || told.contains(pair))) {
                    return false;
                }
                told.add(pair);
            }
            return true;
        }

        private static boolean unlikeDebate(String text) {
            return text.chars().distinct().count() == text.length();
        }

        private static boolean good(int sort, String text, boolean whole) {
            if (text.isEmpty()) {
                return !whole;
            }
            Matcher matcher = (sort == 0 ? RULE : DEBATE).matcher(text);
            boolean fits = matcher.matches() || !whole && matcher.hitEnd();
            return fits && (sort == 0 ? unlikeRule(text) : unlikeDebate(text));
        }

        int fault(int sort) {
            if (sort != 0 && sort != 1) {
                return -102;
            }
            for (int i = 1; i <= page.length(); i++) {
                if (!good(sort, page.substring(0, i), false)) {
                    return i - 1;
                }
            }
            return page.length();
        }

        int rule() {
            if (!good(0, page, true)) {
                return -103;
            }
            int mark = page.indexOf(';');
            limit = mark < 0 ? 3 : page.charAt(mark + 1) - '0';
            pairs.clear();
            pairs.addAll(List.of((mark < 0 ? page : page.substring(0, mark)).split(",")));
            page = "";
            return pairs.size();
        }

        int replies(int a, int b) {
            if (a < 0 || a > 6 || b < 0 || b > 6) {
                return -101;
            }
            return pairs.contains("" + a + b) ? 1 : 0;
        }

        int speech(int one, int sort, int number) {
            if (!there(one)) {
                return -101;
            }
            if (sort < 0 || sort > 4 || number < 0 || number > 9) {
                return -102;
            }
            int was = all.get(one)[5];
            all.get(one)[5] = sort;
            all.get(one)[6] = number;
            return was;
        }

        private int weighs(int one) {
            return all.get(one)[1] * (all.get(one)[0] == 1 ? 2 : 1);
        }

        private int bears(int one) {
            int kind = all.get(one)[0];
            return all.get(one)[4] + (kind == 2 || kind == 4 ? 10 : 0);
        }

        private int load(List<Integer> row, int one) {
            int sum = 0;
            for (int i = row.indexOf(one) + 1; i < row.size() && row.contains(one); i++) {
                sum += weighs(row.get(i)) + 1;
            }
            return all.get(one)[0] == 1 ? sum / 2 + sum % 2 : sum;
        }

        private boolean leansOver(List<Integer> row) {
            int sum = 0;
            for (int one : row) {
                sum += all.get(one)[0] >= 3 ? 0 : all.get(one)[2];
            }
            return sum > limit || -sum > limit;
        }

        private boolean holds(List<Integer> row) {
            for (int one : row) {
                if (load(row, one) > bears(one)) {
                    return false;
                }
            }
            return !leansOver(row);
        }

        private boolean can(List<Integer> row, int one) {
            for (String pair : pairs) {
                if (pair.charAt(0) - '0' == one && !row.contains(pair.charAt(1) - '0')) {
                    return false;
                }
            }
            return !row.contains(one);
        }

        private static List<Integer> plus(List<Integer> row, int one) {
            List<Integer> more = new ArrayList<>(row);
            more.add(one);
            return more;
        }

        private int billOf(List<Integer> row) {
            int bill = 0;
            for (int one : row) {
                int number = all.get(one)[6];
                int[] next = {bill, bill + number, bill - number, bill * number, number};
                bill = Math.min(999, Math.max(0, next[all.get(one)[5]]));
            }
            return bill;
        }

        int about(int one, int what) {
            if (!there(one)) {
                return -101;
            }
            int[] of = all.get(one);
            if (what >= 0 && what <= 6) {
                return of[what];
            }
            return what == 7 ? tower.indexOf(one) + 1 : what == 8 ? of[7] : what == 9 ? weighs(one)
                    : what == 10 ? bears(one) : what == 11 ? load(tower, one) : -102;
        }

        int as(int one, int kind) {
            if (!there(one)) {
                return -101;
            }
            if (kind < 0 || kind > 4) {
                return -102;
            }
            int is = all.get(one)[0];
            return kind == 0 || kind == is || is == 4 && kind == 2 ? one : -1;
        }

        int chair(int one, int v) {
            if (!there(one) || v < 0 || v > 99 || tower.contains(one)) {
                return !there(one) ? -101 : v < 0 || v > 99 ? -102 : -103;
            }
            int was = all.get(one)[4];
            all.get(one)[4] = v;
            return was;
        }

        int may(int one) {
            return !there(one) ? -101 : can(tower, one) ? 1 : 0;
        }

        int rise(int one) {
            if (may(one) != 1) {
                return there(one) ? -103 : -101;
            }
            tower.add(one);
            if (!holds(tower)) {
                falls++;
                for (int each : tower) {
                    all.get(each)[7]++;
                }
                tower.clear();
            }
            return tower.size();
        }

        int down() {
            int was = tower.size();
            tower.clear();
            return was;
        }

        int at(int height) {
            return height >= 1 && height <= tower.size() ? tower.get(height - 1) : -101;
        }

        int bill() {
            return billOf(tower);
        }

        private List<Integer> row() {
            List<Integer> row = new ArrayList<>();
            for (char digit : page.toCharArray()) {
                row.add(digit - '0');
            }
            boolean isOne = good(1, page, true) && row.stream().allMatch(this::there);
            return isOne ? row : null;
        }

        int debate(int what) {
            if (what != 0 && what != 1) {
                return -102;
            }
            List<Integer> row = row();
            if (row == null) {
                return -103;
            }
            List<Integer> would = new ArrayList<>();
            for (int i = 0; i < row.size(); i++) {
                if (can(would, row.get(i))) {
                    would.add(row.get(i));
                }
                if (!holds(would)) {
                    return what == 0 ? i + 1 : 0;
                }
            }
            return what == 0 ? 0 : billOf(would);
        }

        int nails() {
            List<Integer> row = row();
            if (row == null || leansOver(row)) {
                return row == null ? -103 : -1;
            }
            int nails = 0;
            for (int one : row) {
                for (int bears = bears(one); bears < load(row, one); bears += 9) {
                    nails++;
                }
            }
            return nails;
        }

        int shook() {
            List<Integer> row = row();
            if (row == null) {
                return -103;
            }
            int bits = 0;
            for (Integer one : row) {
                List<Integer> others = new ArrayList<>(row);
                others.remove(one);
                bits += !holds(row) && holds(others) ? 1 << one : 0;
            }
            return bits;
        }

        /** All rows of the set, in their order by numbers, that can be made on the tower. */
        private void rows(List<Integer> onto, int set, List<List<Integer>> found) {
            if (set == 0) {
                found.add(onto);
            }
            for (int one = 0; one < 7; one++) {
                if ((set & 1 << one) != 0 && can(onto, one) && holds(plus(onto, one))) {
                    rows(plus(onto, one), set - (1 << one), found);
                }
            }
        }

        int order(int set, int place) {
            if (set < 0 || set >= 1 << all.size() || place < 0 || place > 6) {
                return -102;
            }
            if (searches == 40) {
                return -103;
            }
            searches++;
            List<List<Integer>> found = new ArrayList<>();
            rows(tower, set, found);
            int at = tower.size() + place;
            return found.isEmpty() || at >= found.get(0).size() ? -1 : found.get(0).get(at);
        }

        int laws(int set, int what) {
            if (set < 0 || set >= 1 << all.size() || what < 0 || what > 1) {
                return -102;
            }
            if (searches == 40) {
                return -103;
            }
            searches++;
            List<List<Integer>> found = new ArrayList<>();
            rows(tower, set, found);
            TreeSet<Integer> bills = new TreeSet<>();
            for (List<Integer> row : found) {
                bills.add(billOf(row));
            }
            return what == 0 ? bills.size() : bills.isEmpty() ? -1 : bills.last();
        }

        /** The best spare when the chairs of the tower from this place on are dealt out. */
        private int dealt(int place, List<Integer> chairs) {
            if (place == tower.size()) {
                return 1000;
            }
            int one = tower.get(place);
            int best = -1000;
            for (int i = 0; i < chairs.size(); i++) {
                List<Integer> rest = new ArrayList<>(chairs);
                int spare = rest.remove(i) + bears(one) - all.get(one)[4] - load(tower, one);
                if (spare > best) {
                    best = Math.max(best, Math.min(spare, dealt(place + 1, rest)));
                }
            }
            return best;
        }

        int changed() {
            List<Integer> chairs = new ArrayList<>();
            for (int one : tower) {
                chairs.add(all.get(one)[4]);
            }
            return tower.isEmpty() ? -1 : dealt(0, chairs);
        }

        private int play(List<Integer> row, int turn, int turns) {
            if (turn == turns) {
                int party = row.isEmpty() ? 2 : all.get(row.get(row.size() - 1))[3];
                return new int[] {1, -1, 0}[party];
            }
            int best = play(row, turn + 1, turns);
            for (int one = 0; one < all.size(); one++) {
                if (all.get(one)[3] == turn % 2 && can(row, one)) {
                    List<Integer> next = holds(plus(row, one)) ? plus(row, one) : new ArrayList<>();
                    int end = play(next, turn + 1, turns);
                    best = turn % 2 == 0 ? Math.max(best, end) : Math.min(best, end);
                }
            }
            return best;
        }

        int midnight(int turns) {
            if (turns < 1 || turns > 5 || midnights == 30) {
                return turns < 1 || turns > 5 ? -100102 : -100103;
            }
            midnights++;
            return play(tower, 0, turns);
        }

        int sessions(int times, int seed, int what) {
            if (times < 1 || times > 60 || seed < 0 || what < 0 || what > 3) {
                return -102;
            }
            java.math.BigInteger s = java.math.BigInteger.valueOf(seed);
            List<Integer> would = new ArrayList<>(tower);
            int fell = 0;
            for (int i = 0; i < times && !all.isEmpty(); i++) {
                s = s.multiply(java.math.BigInteger.valueOf(1103515245)).add(java.math.BigInteger.valueOf(12345))
                        .mod(java.math.BigInteger.TWO.pow(31));
                int one = s.intValueExact() / 65536 % all.size();
                if (can(would, one) && !holds(plus(would, one))) {
                    would.clear();
                    fell++;
                } else if (can(would, one)) {
                    would.add(one);
                }
            }
            return new int[] {would.size(), fell, billOf(would), s.intValueExact()}[what];
        }

        int image() {
            keptTower = new ArrayList<>(tower);
            keptMembers = new int[all.size()][];
            for (int i = 0; i < keptMembers.length; i++) {
                keptMembers[i] = all.get(i).clone();
            }
            return tower.size();
        }

        int restore() {
            if (keptTower == null || keptMembers.length != all.size()) {
                return -103;
            }
            tower = new ArrayList<>(keptTower);
            for (int i = 0; i < keptMembers.length; i++) {
                all.get(i)[4] = keptMembers[i][4];
                all.get(i)[7] = keptMembers[i][7];
            }
            return tower.size();
        }

        int count(int what) {
            int[] counts = {all.size(), tower.size(), pairs.size(), limit, page.length(), falls, searches, midnights};
            return what >= 0 && what < counts.length ? counts[what] : -102;
        }

        long digest() {
            List<Integer> told = new ArrayList<>();
            for (int pair = 0; pair < 49; pair++) {
                told.add(replies(pair / 7, pair % 7));
            }
            for (int one = 0; one < all.size(); one++) {
                for (int what = 0; what < 12; what++) {
                    told.add(about(one, what));
                }
                told.add(may(one));
            }
            told.addAll(tower);
            told.add(bill());
            told.add(changed());
            page.chars().forEach(told::add);
            for (int what = 0; what < 8; what++) {
                told.add(count(what));
            }
            long h = 653;
            for (int number : told) {
                h = h * 31 + number;
            }
            return h;
        }
    }
}
