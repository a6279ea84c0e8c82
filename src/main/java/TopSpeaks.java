/**
 * The one on top speaks: a parliament in which one rises by a chair that is set on the last
 * speaker's. A tower, and every row of members that could become one, is a number (see Row), so
 * that what would be is tried out without touching what is, and without making new objects.
 */
public final class TopSpeaks {
    public static final int NONE = -1, UNKNOWN = -101, OUTSIDE = -102, STATE = -103, FULL = -104;

    private static final int SEATS = 7;
    private static final int MOST_BILL = 999;
    private static final int FIRST_LIMIT = 3;
    private static final int MOST_STRENGTH = 99;
    private static final int MOST_TURNS = 5;
    private static final int MOST_SESSIONS = 60;
    private static final int MOST_ROW_SEARCHES = 40;
    private static final int MOST_MIDNIGHTS = 30;
    // midnight() answers -1, 0, 1, so the document sets its refusals apart from all others.
    private static final int MIDNIGHT_REFUSED = -100000;

    private final Page page;
    private final RuleText ruleText;
    private final DebateText debateText;
    private final Chamber chamber;
    private final Image kept;
    private final Bills heardBills;
    private int tower;
    private int falls;
    private int rowSearches;
    private int midnights;

    public TopSpeaks() {
        page = new Page();
        ruleText = new RuleText();
        debateText = new DebateText();
        chamber = new Chamber();
        kept = new Image();
        heardBills = new Bills();
    }

    // ---- texts

    public int letters(long w) {
        int come = Page.lettersIn(w);
        if (come == NONE) {
            return OUTSIDE;
        }
        if (!page.hasRoomFor(come)) {
            return FULL;
        }
        page.add(w, come);
        return page.length();
    }

    public int blank() {
        int had = page.length();
        page.clear();
        return had;
    }

    public int fault(int sort) {
        if (sort == 0) {
            return page.faultOf(ruleText);
        }
        return sort == 1 ? page.faultOf(debateText) : OUTSIDE;
    }

    public int rule() {
        if (!page.isWhole(ruleText)) {
            return STATE;
        }
        chamber.adopt(ruleText);
        page.clear();
        return chamber.pairs();
    }

    public int replies(int a, int b) {
        if (!isBetween(a, 0, SEATS - 1) || !isBetween(b, 0, SEATS - 1)) {
            return UNKNOWN;
        }
        return (chamber.repliesOf(a) >>> b) & 1;
    }

    // ---- members

    public int member(int kind, int weight, int lean, int party, int chair) {
        if (!isBetween(kind, Member.PLAIN, Member.ELDER) || !isBetween(weight, 1, 9)) {
            return OUTSIDE;
        }
        if (!isBetween(lean, -3, 3) || !isBetween(party, 0, 2)) {
            return OUTSIDE;
        }
        if (!isBetween(chair, 0, MOST_STRENGTH)) {
            return OUTSIDE;
        }
        if (chamber.size() >= SEATS) {
            return FULL;
        }
        Member one = chamber.seatNext();
        one.become(kind, weight, lean);
        one.party = party;
        one.strength = chair;
        return chamber.size() - 1;
    }

    public int speech(int member, int sort, int number) {
        if (!chamber.has(member)) {
            return UNKNOWN;
        }
        if (!isBetween(sort, Member.NOTHING, Member.BECOMES) || !isBetween(number, 0, 9)) {
            return OUTSIDE;
        }
        Member one = chamber.who(member);
        int soFar = one.sort;
        one.sort = sort;
        one.number = number;
        return soFar;
    }

    public int about(int member, int what) {
        if (!chamber.has(member)) {
            return UNKNOWN;
        }
        Member one = chamber.who(member);
        switch (what) {
            case 0: return one.kind;
            case 1: return one.weight;
            case 2: return one.lean;
            case 3: return one.party;
            case 4: return one.strength;
            case 5: return one.sort;
            case 6: return one.number;
            case 7: return Row.heightOf(tower, member);
            case 8: return one.bruises;
            case 9: return one.weighs;
            case 10: return one.canBear();
            case 11: return chamber.loadOn(tower, member);
            default: return OUTSIDE;
        }
    }

    public int as(int member, int kind) {
        if (!chamber.has(member)) {
            return UNKNOWN;
        }
        if (!isBetween(kind, Member.PLAIN, Member.ELDER)) {
            return OUTSIDE;
        }
        return chamber.who(member).isA(kind) ? member : NONE;
    }

    public int chair(int member, int v) {
        if (!chamber.has(member)) {
            return UNKNOWN;
        }
        if (!isBetween(v, 0, MOST_STRENGTH)) {
            return OUTSIDE;
        }
        if (Row.heightOf(tower, member) > 0) {
            return STATE;
        }
        Member one = chamber.who(member);
        int was = one.strength;
        one.strength = v;
        return was;
    }

    // ---- the tower

    public int may(int member) {
        if (!chamber.has(member)) {
            return UNKNOWN;
        }
        return chamber.canRise(tower, member) ? 1 : 0;
    }

    public int rise(int member) {
        if (!chamber.has(member)) {
            return UNKNOWN;
        }
        if (!chamber.canRise(tower, member)) {
            return STATE;
        }
        int risen = chamber.risen(tower, member);
        if (risen == Row.EMPTY) {
            falls++;
            chamber.bruise(Row.with(tower, member));
        }
        tower = risen;
        return Row.size(tower);
    }

    public int down() {
        int was = Row.size(tower);
        tower = Row.EMPTY;
        return was;
    }

    public int at(int height) {
        int standing = Row.memberAt(tower, height);
        return standing == NONE ? UNKNOWN : standing;
    }

    public int bill() {
        return chamber.billOf(tower);
    }

    // ---- debates

    public int debate(int what) {
        if (!isBetween(what, 0, 1)) {
            return OUTSIDE;
        }
        int row = debateRow();
        if (row == Row.EMPTY) {
            return STATE;
        }
        int would = Row.EMPTY;
        for (int place = 1; place <= Row.size(row); place++) {
            int next = Row.memberAt(row, place);
            if (chamber.canRise(would, next)) {
                would = chamber.risen(would, next);
                if (would == Row.EMPTY) {
                    return what == 0 ? place : 0;
                }
            }
        }
        return what == 0 ? 0 : chamber.billOf(would);
    }

    public int nails() {
        int row = debateRow();
        if (row == Row.EMPTY) {
            return STATE;
        }
        return chamber.leansTooMuch(row) ? NONE : chamber.nailsFor(row);
    }

    public int shook() {
        int row = debateRow();
        if (row == Row.EMPTY) {
            return STATE;
        }
        int shakers = 0;
        if (!chamber.holds(row)) {
            for (int one = 0; one < chamber.size(); one++) {
                if (Row.heightOf(row, one) > 0 && chamber.holds(Row.without(row, one))) {
                    shakers |= 1 << one;
                }
            }
        }
        return shakers;
    }

    /** THE PAGE as a row, all on one another; empty, if it is no DEBATE of MEMBERS that are there. */
    private int debateRow() {
        if (!page.isWhole(debateText)) {
            return Row.EMPTY;
        }
        boolean allThere = debateText.said() < 1 << chamber.size();
        return allThere ? debateText.row() : Row.EMPTY;
    }

    // ---- what would be

    public int order(int set, int place) {
        if (!isSet(set) || !isBetween(place, 0, SEATS - 1)) {
            return OUTSIDE;
        }
        if (rowSearches >= MOST_ROW_SEARCHES) {
            return STATE;
        }
        rowSearches++;
        int first = firstTower(chamber, tower, set, 0);
        return first == NONE ? NONE : Row.memberAt(first, Row.size(tower) + 1 + place);
    }

    public int laws(int set, int what) {
        if (!isSet(set) || !isBetween(what, 0, 1)) {
            return OUTSIDE;
        }
        if (rowSearches >= MOST_ROW_SEARCHES) {
            return STATE;
        }
        rowSearches++;
        heardBills.clear();
        hearBills(chamber, tower, set, chamber.billOf(tower), 0, heardBills);
        return what == 0 ? heardBills.howMany() : heardBills.greatest();
    }

    public int changed() {
        return tower == Row.EMPTY ? NONE : chamber.bestSpare(tower);
    }

    public int midnight(int turns) {
        if (!isBetween(turns, 1, MOST_TURNS)) {
            return MIDNIGHT_REFUSED + OUTSIDE;
        }
        if (midnights >= MOST_MIDNIGHTS) {
            return MIDNIGHT_REFUSED + STATE;
        }
        midnights++;
        return bestEnd(chamber, tower, turns, 0);
    }

    public int sessions(int times, int seed, int what) {
        if (!isBetween(times, 1, MOST_SESSIONS) || seed < 0 || !isBetween(what, 0, 3)) {
            return OUTSIDE;
        }
        int size = chamber.size();
        int would = tower;
        int fell = 0;
        long drawn = seed;
        for (int i = 0; i < times && size > 0; i++) {
            drawn = (1103515245L * drawn + 12345L) % (1L << 31);
            int one = (int) (drawn / 65536L % size);
            if (chamber.canRise(would, one)) {
                would = chamber.risen(would, one);
                fell += would == Row.EMPTY ? 1 : 0;
            }
        }
        switch (what) {
            case 0: return Row.size(would);
            case 1: return fell;
            case 2: return chamber.billOf(would);
            default: return (int) drawn;
        }
    }

    private boolean isSet(int set) {
        return isBetween(set, 0, (1 << chamber.size()) - 1);
    }

    /** The tower behind the first row, by numbers, in which all of the set rise; NONE without one. */
    private static int firstTower(Chamber chamber, int tower, int set, int depth) {
        if (set == 0 || depth > SEATS) {
            return set == 0 ? tower : NONE;
        }
        for (int one = 0; one < SEATS; one++) {
            if ((set >>> one & 1) == 1 && chamber.canRise(tower, one)) {
                int risen = chamber.risen(tower, one);
                if (risen != Row.EMPTY) {
                    int first = firstTower(chamber, risen, set & ~(1 << one), depth + 1);
                    if (first != NONE) {
                        return first;
                    }
                }
            }
        }
        return NONE;
    }

    /** Adds each bill that comes of a row in which all of the set rise. */
    private static void hearBills(Chamber chamber, int tower, int set, int bill, int depth, Bills heard) {
        if (set == 0) {
            heard.add(bill);
            return;
        }
        for (int one = 0; one < SEATS && depth <= SEATS; one++) {
            if ((set >>> one & 1) == 1 && chamber.canRise(tower, one)) {
                int risen = chamber.risen(tower, one);
                if (risen != Row.EMPTY) {
                    int next = chamber.who(one).speak(bill);
                    hearBills(chamber, risen, set & ~(1 << one), next, depth + 1, heard);
                }
            }
        }
    }

    /** Whose side is on top in the end, if the PARTY whose turn it is and the other play their best. */
    private static int bestEnd(Chamber chamber, int tower, int turns, int party) {
        if (turns <= 0 || turns > MOST_TURNS) {
            return chamber.sideOnTop(tower);
        }
        int sign = party == 0 ? 1 : -1;
        int best = sign * bestEnd(chamber, tower, turns - 1, 1 - party);
        for (int one = 0; one < chamber.size() && best < 1; one++) {
            if (chamber.who(one).party == party && chamber.canRise(tower, one)) {
                int risen = chamber.risen(tower, one);
                best = Math.max(best, sign * bestEnd(chamber, risen, turns - 1, 1 - party));
            }
        }
        return sign * best;
    }

    // ---- what is told of all

    public int image() {
        kept.keep(chamber, tower);
        return Row.size(tower);
    }

    public int restore() {
        if (!kept.fits(chamber)) {
            return STATE;
        }
        tower = kept.giveBack(chamber);
        return Row.size(tower);
    }

    public int count(int what) {
        switch (what) {
            case 0: return chamber.size();
            case 1: return Row.size(tower);
            case 2: return chamber.pairs();
            case 3: return chamber.limit();
            case 4: return page.length();
            case 5: return falls;
            case 6: return rowSearches;
            case 7: return midnights;
            default: return OUTSIDE;
        }
    }

    public long digest() {
        long h = 653;
        for (int pair = 0; pair < SEATS * SEATS; pair++) {
            h = 31 * h + replies(pair / SEATS, pair % SEATS);
        }
        for (int one = 0; one < chamber.size(); one++) {
            for (int what = 0; what <= 11; what++) {
                h = 31 * h + about(one, what);
            }
            h = 31 * h + may(one);
        }
        for (int height = 1; height <= Row.size(tower); height++) {
            h = 31 * h + at(height);
        }
        h = 31 * h + bill();
        h = 31 * h + changed();
        for (int place = 0; place < page.length(); place++) {
            h = 31 * h + page.letter(place);
        }
        for (int what = 0; what <= 7; what++) {
            h = 31 * h + count(what);
        }
        return h;
    }

    private static boolean isBetween(int number, int least, int most) {
        return number >= least && number <= most;
    }

    /**
     * A row of members, from below, as a number: three bits each, the topmost in the lowest bits,
     * member m as m + 1, so that 0 is the empty row. Seven members fill 21 bits.
     */
    private static final class Row {
        static final int EMPTY = 0;

        private Row() {
        }

        static int with(int row, int member) {
            return row << 3 | (member + 1 & 7);
        }

        /** Who stands on top; NONE of an empty row. */
        static int top(int row) {
            return (row & 7) - 1;
        }

        static int belowTop(int row) {
            return row >>> 3;
        }

        static int size(int row) {
            int size = 0;
            while (size < SEATS && row >>> 3 * size != 0) {
                size++;
            }
            return size;
        }

        /** Who stands so high (1 below); NONE: nobody does. */
        static int memberAt(int row, int height) {
            int size = size(row);
            if (height < 1 || height > size) {
                return NONE;
            }
            return top(row >>> 3 * (size - height));
        }

        /** How high a member stands (1 below); 0: not in the row. */
        static int heightOf(int row, int member) {
            int height = size(row);
            int rest = row;
            while (height > 0 && top(rest) != member) {
                rest = belowTop(rest);
                height--;
            }
            return height;
        }

        static int members(int row) {
            int bits = 0;
            int rest = row;
            for (int i = 0; i < SEATS && rest != EMPTY; i++) {
                bits |= 1 << top(rest);
                rest = belowTop(rest);
            }
            return bits;
        }

        /** The row upside down. */
        static int turned(int row) {
            int turned = EMPTY;
            int rest = row;
            for (int i = 0; i < SEATS && rest != EMPTY; i++) {
                turned = with(turned, top(rest));
                rest = belowTop(rest);
            }
            return turned;
        }

        static int without(int row, int member) {
            int others = EMPTY;
            int size = size(row);
            for (int height = 1; height <= size; height++) {
                int one = memberAt(row, height);
                others = one == member ? others : with(others, one);
            }
            return others;
        }
    }

    /** A member, on a chair or not. */
    private static final class Member {
        static final int PLAIN = 0, FAT = 1, JOINER = 2, STEADY = 3, ELDER = 4;
        static final int NOTHING = 0, MORE = 1, LESS = 2, TIMES = 3, BECOMES = 4;
        private static final int JOINED = 10;

        private int kind;
        private int weight;
        private int lean;
        private int party;
        private int strength;
        private int sort;
        private int number;
        private int bruises;
        // what comes of the kind alone, reckoned once, as all searches ask for it at every step
        private boolean fat;
        private int weighs;
        private int joined;
        private int leans;

        void become(int newKind, int newWeight, int newLean) {
            kind = newKind;
            weight = newWeight;
            lean = newLean;
            fat = isA(FAT);
            weighs = fat ? 2 * weight : weight;
            joined = isA(JOINER) ? JOINED : 0;
            leans = isA(STEADY) || isA(ELDER) ? 0 : lean;
        }

        boolean isA(int what) {
            return what == PLAIN || what == kind || (what == JOINER && kind == ELDER);
        }

        int canBear() {
            return strength + joined;
        }

        /** What the chair bears of all that is above it. */
        int loadUnder(int above) {
            return fat ? (above + 1) / 2 : above;
        }

        int speak(int bill) {
            int next = bill;
            switch (sort) {
                case MORE: next = bill + number; break;
                case LESS: next = bill - number; break;
                case TIMES: next = bill * number; break;
                case BECOMES: next = number; break;
                default: break;
            }
            return Math.max(0, Math.min(MOST_BILL, next));
        }
    }

    /** The members and the house rule: all that says what a tower does, but for the tower. */
    private static final class Chamber {
        private static final int NAIL = 9;

        private final Member[] members;
        private final Member nobody;
        private final int[] strengths;
        private final int[] needs;
        private int size;
        private long told;
        private int pairs;
        private int limit;

        Chamber() {
            members = new Member[SEATS];
            for (int i = 0; i < members.length; i++) {
                members[i] = new Member();
            }
            nobody = new Member();
            strengths = new int[SEATS];
            needs = new int[SEATS];
            limit = FIRST_LIMIT;
        }

        int size() {
            return size;
        }

        int pairs() {
            return pairs;
        }

        int limit() {
            return limit;
        }

        boolean has(int number) {
            return number >= 0 && number < size;
        }

        /** The member of this number; one who is nobody, weightless, if there is none. */
        Member who(int number) {
            if (number < 0 || number >= members.length || members[number] == null) {
                return nobody;
            }
            return members[number];
        }

        Member seatNext() {
            Member next = who(size);
            size = Math.min(size + 1, SEATS);
            return next;
        }

        void adopt(RuleText text) {
            told = text.told();
            pairs = text.pairs();
            limit = text.limit();
        }

        /** To whom a member would reply, as bits. */
        int repliesOf(int number) {
            return (int) (told >>> SEATS * number) & (1 << SEATS) - 1;
        }

        boolean canRise(int tower, int number) {
            if (!has(number)) {
                return false;
            }
            int standing = Row.members(tower);
            boolean stands = (standing >>> number & 1) == 1;
            return !stands && (repliesOf(number) & ~standing) == 0;
        }

        /** The tower with one more on top; empty, if it falls then. */
        int risen(int tower, int number) {
            int higher = Row.with(tower, number);
            return holds(higher) ? higher : Row.EMPTY;
        }

        boolean holds(int tower) {
            int leans = 0;
            int above = 0;
            int rest = tower;
            for (int i = 0; i < SEATS && rest != Row.EMPTY; i++) {
                Member one = who(Row.top(rest));
                if (one.loadUnder(above) > one.canBear()) {
                    return false;
                }
                leans += one.leans;
                above += one.weighs + 1;
                rest = Row.belowTop(rest);
            }
            return Math.abs(leans) <= limit;
        }

        boolean leansTooMuch(int tower) {
            int leans = 0;
            int rest = tower;
            for (int i = 0; i < SEATS && rest != Row.EMPTY; i++) {
                leans += who(Row.top(rest)).leans;
                rest = Row.belowTop(rest);
            }
            return Math.abs(leans) > limit;
        }

        /** How many nails it takes that no chair bears more than it can. */
        int nailsFor(int tower) {
            int nails = 0;
            int above = 0;
            int rest = tower;
            for (int i = 0; i < SEATS && rest != Row.EMPTY; i++) {
                Member one = who(Row.top(rest));
                int tooMuch = one.loadUnder(above) - one.canBear();
                nails += tooMuch > 0 ? (tooMuch + NAIL - 1) / NAIL : 0;
                above += one.weighs + 1;
                rest = Row.belowTop(rest);
            }
            return nails;
        }

        /** What the chair of a member bears; 0, if he does not stand there. */
        int loadOn(int tower, int number) {
            int above = 0;
            int rest = tower;
            for (int i = 0; i < SEATS && rest != Row.EMPTY; i++) {
                Member one = who(Row.top(rest));
                if (Row.top(rest) == number) {
                    return one.loadUnder(above);
                }
                above += one.weighs + 1;
                rest = Row.belowTop(rest);
            }
            return 0;
        }

        int billOf(int tower) {
            int bill = 0;
            int rest = Row.turned(tower);
            for (int i = 0; i < SEATS && rest != Row.EMPTY; i++) {
                bill = who(Row.top(rest)).speak(bill);
                rest = Row.belowTop(rest);
            }
            return bill;
        }

        /**
         * The least that any chair could bear more, with strengths changed about for the best: that
         * is when the strongest goes to whom needs most, the next to the next, and so on.
         */
        int bestSpare(int tower) {
            int high = Row.size(tower);
            for (int i = 0; i < high; i++) {
                int number = Row.memberAt(tower, i + 1);
                Member one = who(number);
                insert(strengths, i, one.strength);
                insert(needs, i, loadOn(tower, number) - one.joined);
            }
            int least = strengths[0] - needs[0];
            for (int i = 1; i < high && i < SEATS; i++) {
                least = Math.min(least, strengths[i] - needs[i]);
            }
            return least;
        }

        /** Puts a value among the first ones of a row, which are sorted, so that they stay so. */
        private static void insert(int[] sorted, int used, int value) {
            if (used < 0 || used >= sorted.length) {
                return;
            }
            int place = used;
            while (place > 0 && sorted[place - 1] > value) {
                sorted[place] = sorted[place - 1];
                place--;
            }
            sorted[place] = value;
        }

        /** 1: one of party 0 is on top, -1: one of party 1, 0: nobody of both. */
        int sideOnTop(int tower) {
            if (tower == Row.EMPTY) {
                return 0;
            }
            int party = who(Row.top(tower)).party;
            return party == 0 ? 1 : party == 1 ? -1 : 0;
        }

        void bruise(int row) {
            int standing = Row.members(row);
            for (int number = 0; number < size; number++) {
                who(number).bruises += standing >>> number & 1;
            }
        }
    }

    /** A set of bills, a bit each. */
    private static final class Bills {
        private static final int WORD = 64;

        private final long[] words;

        Bills() {
            words = new long[MOST_BILL / WORD + 1];
        }

        void clear() {
            for (int i = 0; i < words.length; i++) {
                words[i] = 0;
            }
        }

        void add(int bill) {
            if (bill >= 0 && bill / WORD < words.length) {
                words[bill / WORD] |= 1L << bill % WORD;
            }
        }

        int howMany() {
            int many = 0;
            for (int i = 0; i < words.length; i++) {
                many += Long.bitCount(words[i]);
            }
            return many;
        }

        /** NONE, if there is no bill. */
        int greatest() {
            for (int i = words.length - 1; i >= 0; i--) {
                if (words[i] != 0) {
                    return (i + 1) * WORD - 1 - Long.numberOfLeadingZeros(words[i]);
                }
            }
            return NONE;
        }
    }

    /** The tower, the bruises and the chairs, as they were. */
    private static final class Image {
        private final int[] strengths;
        private final int[] bruises;
        private int tower;
        private int size;

        Image() {
            strengths = new int[SEATS];
            bruises = new int[SEATS];
            size = NONE;
        }

        void keep(Chamber chamber, int standing) {
            tower = standing;
            size = chamber.size();
            for (int i = 0; i < size && i < SEATS; i++) {
                strengths[i] = chamber.who(i).strength;
                bruises[i] = chamber.who(i).bruises;
            }
        }

        boolean fits(Chamber chamber) {
            return size == chamber.size();
        }

        int giveBack(Chamber chamber) {
            for (int i = 0; i < size && i < SEATS; i++) {
                chamber.who(i).strength = strengths[i];
                chamber.who(i).bruises = bruises[i];
            }
            return tower;
        }
    }

    /** THE PAGE. */
    private static final class Page {
        private static final int ROOM = 32;
        private static final int LETTERS_AT_ONCE = 8;
        private static final int HIGHEST_CODE = 126;

        private final int[] codes;
        private int length;

        Page() {
            codes = new int[ROOM];
        }

        /** How many letters the bytes tell; NONE, if they are no letters. */
        static int lettersIn(long bytes) {
            int many = 0;
            boolean ended = false;
            for (int i = 0; i < LETTERS_AT_ONCE; i++) {
                int code = codeIn(bytes, i);
                if (code > HIGHEST_CODE || (ended && code != 0)) {
                    return NONE;
                }
                ended = code == 0;
                many += ended ? 0 : 1;
            }
            return many;
        }

        private static int codeIn(long bytes, int place) {
            return (int) (bytes >>> 8 * place) & 255;
        }

        boolean hasRoomFor(int more) {
            return length + more <= ROOM;
        }

        void add(long bytes, int many) {
            for (int i = 0; i < many && length < ROOM; i++) {
                codes[length] = codeIn(bytes, i);
                length++;
            }
        }

        void clear() {
            length = 0;
        }

        int length() {
            return length;
        }

        int letter(int place) {
            return place >= 0 && place < length && place < ROOM ? codes[place] : 0;
        }

        /** The place of the first letter that the text does not take; the length, if it takes all. */
        int faultOf(Text text) {
            text.begin();
            for (int place = 0; place < length; place++) {
                if (!text.takes(letter(place))) {
                    return place;
                }
            }
            return length;
        }

        boolean isWhole(Text text) {
            return faultOf(text) == length && text.canEnd();
        }
    }

    /** A sort of text that is read letter by letter. */
    private abstract static class Text {
        abstract void begin();

        /** Reads the next letter, if some text of the sort goes on so. */
        abstract boolean takes(int letter);

        /** Whether what was read so far is a whole text. */
        abstract boolean canEnd();
    }

    /** A house rule as a text. */
    private static final class RuleText extends Text {
        private static final int MOST_PAIRS = 10;
        // what is due next, or, at END, that nothing is
        private static final int REPLIER = 0, REPLIED = 1, MARK = 2, LIMIT = 3, END = 4;

        private int due;
        private int replier;
        private long told;
        private int pairs;
        private int limit;

        void begin() {
            due = REPLIER;
            replier = 0;
            told = 0;
            pairs = 0;
            limit = FIRST_LIMIT;
        }

        boolean takes(int letter) {
            switch (due) {
                case REPLIER: return takesReplier(letter - '0');
                case REPLIED: return takesReplied(letter - '0');
                case MARK: return takesMark(letter);
                case LIMIT: return takesLimit(letter - '0');
                default: return false;
            }
        }

        boolean canEnd() {
            return due == MARK || due == END;
        }

        private boolean takesReplier(int digit) {
            if (!isBetween(digit, 0, SEATS - 1)) {
                return false;
            }
            replier = digit;
            due = REPLIED;
            return true;
        }

        private boolean takesReplied(int digit) {
            if (!isBetween(digit, 0, SEATS - 1) || digit == replier) {
                return false;
            }
            long pair = 1L << SEATS * replier + digit;
            if ((told & pair) != 0) {
                return false;
            }
            told |= pair;
            pairs++;
            due = MARK;
            return true;
        }

        private boolean takesMark(int letter) {
            if (letter == ',' && pairs < MOST_PAIRS) {
                due = REPLIER;
                return true;
            }
            if (letter == ';') {
                due = LIMIT;
                return true;
            }
            return false;
        }

        private boolean takesLimit(int digit) {
            if (!isBetween(digit, 0, 9)) {
                return false;
            }
            limit = digit;
            due = END;
            return true;
        }

        /** The pairs told, a bit each: seven for each who would reply. */
        long told() {
            return told;
        }

        int pairs() {
            return pairs;
        }

        int limit() {
            return limit;
        }
    }

    /** A debate as a text. */
    private static final class DebateText extends Text {
        private int said;
        private int row;

        void begin() {
            said = 0;
            row = Row.EMPTY;
        }

        boolean takes(int letter) {
            int digit = letter - '0';
            if (!isBetween(digit, 0, SEATS - 1) || (said >>> digit & 1) == 1) {
                return false;
            }
            said |= 1 << digit;
            row = Row.with(row, digit);
            return true;
        }

        boolean canEnd() {
            return said != 0;
        }

        /** The members of the text, as bits. */
        int said() {
            return said;
        }

        int row() {
            return row;
        }
    }
}
