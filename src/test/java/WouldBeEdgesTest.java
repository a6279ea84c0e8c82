/** The boundaries of promises 20 to 24: what would be. */
public final class WouldBeEdgesTest extends Edges {
    private static final int TIMES_AT_MOST = 40;
    private static final int MIDNIGHTS_AT_MOST = 30;
    private static final int MIDNIGHT_OUTSIDE = -100102;
    private static final int MIDNIGHT_STATE = -100103;

    public static void main(String[] args) throws Exception {
        runAll(WouldBeEdgesTest.class, 20, 24);
    }

    private static void orderIs(TopSpeaks x, int set, int... row) {
        for (int place = 0; place <= row.length && place <= 6; place++) {
            int want = place < row.length ? row[place] : NONE;
            due("order(" + set + ", " + place + ")", x.order(set, place), want);
        }
    }

    private static void lawsAre(TopSpeaks x, int set, int many, int greatest) {
        due("laws(" + set + ", 0)", x.laws(set, 0), many);
        due("laws(" + set + ", 1)", x.laws(set, 1), greatest);
    }

    // ---- 20 order

    static void p20_order_ofTheEmptySetIsNone() {
        TopSpeaks x = easy(2);
        due("order(0, 0)", x.order(0, 0), NONE);
        due("order(0, 6)", x.order(0, 6), NONE);
        due("count(6)", x.count(6), 2);
    }

    static void p20_order_setBelow0IsOutside() {
        TopSpeaks x = easy(7);
        refused(x, "order(-1, 0)", () -> x.order(-1, 0), OUTSIDE);
        refused(x, "order(LOW, 0)", () -> x.order(LOW, 0), OUTSIDE);
    }

    static void p20_order_ofAllMembersNotOfOneMore() {
        for (int many = 1; many <= 7; many++) {
            TopSpeaks x = easy(many);
            int all = (1 << many) - 1;
            due("order(" + all + ", 0)", x.order(all, 0), 0);
            due("order(" + all + ", " + (many - 1) + ")", x.order(all, many - 1), many - 1);
            refused(x, "order(" + (all + 1) + ", 0)", () -> x.order(all + 1, 0), OUTSIDE);
            refused(x, "order(" + (2 * all + 1) + ", 0)", () -> x.order(2 * all + 1, 0), OUTSIDE);
        }
    }

    static void p20_order_setFarAboveIsOutside() {
        TopSpeaks x = easy(7);
        refused(x, "order(HIGH, 0)", () -> x.order(HIGH, 0), OUTSIDE);
        refused(x, "order(1 << 30, 0)", () -> x.order(1 << 30, 0), OUTSIDE);
        refused(x, "order(256, 0)", () -> x.order(256, 0), OUTSIDE);
    }

    static void p20_order_withoutMembersTheEmptySetAlone() {
        TopSpeaks x = new TopSpeaks();
        due("order(0, 0)", x.order(0, 0), NONE);
        refused(x, "order(1, 0)", () -> x.order(1, 0), OUTSIDE);
    }

    static void p20_order_place0And6() {
        TopSpeaks x = easy(7);
        due("order(127, 0)", x.order(127, 0), 0);
        due("order(127, 6)", x.order(127, 6), 6);
    }

    static void p20_order_placeBelow0IsOutside() {
        TopSpeaks x = easy(7);
        refused(x, "order(127, -1)", () -> x.order(127, -1), OUTSIDE);
        refused(x, "order(127, LOW)", () -> x.order(127, LOW), OUTSIDE);
    }

    static void p20_order_placeAbove6IsOutside() {
        TopSpeaks x = easy(7);
        refused(x, "order(127, 7)", () -> x.order(127, 7), OUTSIDE);
        refused(x, "order(127, HIGH)", () -> x.order(127, HIGH), OUTSIDE);
        refused(x, "order(0, 7)", () -> x.order(0, 7), OUTSIDE);
    }

    static void p20_order_theLastOfTheRowAndNoneBehind() {
        TopSpeaks x = easy(4);
        due("order(10, 1)", x.order(10, 1), 3);
        due("order(10, 2)", x.order(10, 2), NONE);
        due("order(10, 6)", x.order(10, 6), NONE);
    }

    static void p20_order_noneBehindTheRowOnAHighTower() {
        TopSpeaks x = easy(7);
        allRise(x, 5, 4, 3, 2, 1, 0);
        due("order(64, 0)", x.order(64, 0), 6);
        for (int place = 1; place <= 6; place++) {
            due("order(64, " + place + ")", x.order(64, place), NONE);
        }
        x.rise(6);
        for (int place = 0; place <= 6; place++) {
            due("order(0, " + place + ") on seven", x.order(0, place), NONE);
        }
    }

    static void p20_order_theFirstByNumbers() {
        orderIs(easy(4), 15, 0, 1, 2, 3);
    }

    static void p20_order_theFirstByNumbersThatHolds() {
        TopSpeaks x = house(one(PLAIN, 1, 0, 0), one(PLAIN, 1, 0, 99), one(PLAIN, 1, 0, 99));
        orderIs(x, 7, 1, 2, 0);
    }

    static void p20_order_theFirstMemberCountsMost() {
        TopSpeaks x = easy(3);
        ruled(x, "01");
        // 1 0 2 comes ahead of 1 2 0 and of 2 1 0
        orderIs(x, 7, 1, 0, 2);
    }

    static void p20_order_goesBackFromABlindAlley() {
        // 0 1 holds, but then 2 is too much; 0 2 1 is not
        TopSpeaks x = house(one(PLAIN, 1, 0, 99), one(PLAIN, 1, 0, 1), one(PLAIN, 1, 0, 2));
        orderIs(x, 7, 0, 2, 1);
    }

    static void p20_order_noneMayFallOnTheWay() {
        TopSpeaks x = house(one(PLAIN, 1, 3, 99), one(PLAIN, 1, 3, 99), one(PLAIN, 1, -3, 99));
        orderIs(x, 7, 0, 2, 1);
        orderIs(x, 3);
    }

    static void p20_order_theChairJustBearsTheRow() {
        TopSpeaks x = house(one(PLAIN, 1, 0, 4), one(PLAIN, 1, 0, 2), one(PLAIN, 1, 0, 0));
        orderIs(x, 7, 0, 1, 2);
        x.chair(0, 3);
        orderIs(x, 7);
    }

    static void p20_order_noRowIfSomeoneStands() {
        TopSpeaks x = easy(3);
        x.rise(1);
        orderIs(x, 7);
        orderIs(x, 2);
        orderIs(x, 5, 0, 2);
    }

    static void p20_order_noRowIfWhoIsRepliedToIsMissing() {
        TopSpeaks x = easy(3);
        ruled(x, "12");
        orderIs(x, 3);
        orderIs(x, 7, 0, 2, 1);
        x.rise(2);
        orderIs(x, 3, 0, 1);
    }

    static void p20_order_onTheTowerAsItIs() {
        TopSpeaks x = house(one(PLAIN, 1, 0, 4), one(PLAIN, 1, 0, 2), one(PLAIN, 1, 0, 0), one(PLAIN, 1, 0, 9));
        x.rise(0);
        orderIs(x, 6, 1, 2);
        orderIs(x, 14);
    }

    static void p20_order_leavesAllButItsCount() {
        TopSpeaks x = house(one(PLAIN, 1, 0, 0), one(PLAIN, 1, 0, 0));
        due("order(3, 0)", x.order(3, 0), NONE);
        due("count(1)", x.count(1), 0);
        due("count(5)", x.count(5), 0);
        due("bruises", x.about(0, 8) + x.about(1, 8), 0);
        due("count(6)", x.count(6), 1);
        due("count(7)", x.count(7), 0);
    }

    static void p20_order_fortyTimesNotFortyOne() {
        TopSpeaks x = easy(2);
        for (int i = 0; i < TIMES_AT_MOST; i++) {
            due("order(3, 0)", x.order(3, 0), 0);
        }
        refused(x, "order(3, 0)", () -> x.order(3, 0), STATE);
        refused(x, "laws(3, 0)", () -> x.laws(3, 0), STATE);
        due("count(6)", x.count(6), TIMES_AT_MOST);
    }

    static void p20_order_thirtyNineOfLawsAndOne() {
        TopSpeaks x = easy(2);
        for (int i = 1; i < TIMES_AT_MOST; i++) {
            x.laws(3, 0);
        }
        due("the fortieth", x.order(3, 0), 0);
        due("the next", x.order(3, 0), STATE);
    }

    static void p20_order_refusalsDoNotCount() {
        TopSpeaks x = easy(2);
        for (int i = 0; i < TIMES_AT_MOST + 5; i++) {
            due("order(4, 0)", x.order(4, 0), OUTSIDE);
            due("order(3, 7)", x.order(3, 7), OUTSIDE);
        }
        due("count(6)", x.count(6), 0);
        due("order(3, 0)", x.order(3, 0), 0);
        due("count(6)", x.count(6), 1);
    }

    static void p20_order_noneCounts() {
        TopSpeaks x = easy(2);
        ruled(x, "01,10");
        for (int i = 0; i < TIMES_AT_MOST; i++) {
            due("order(1, 0)", x.order(1, 0), NONE);
        }
        due("order(1, 0)", x.order(1, 0), STATE);
    }

    static void p20_order_theStateBehindFortyDoesNotCount() {
        TopSpeaks x = easy(1);
        for (int i = 0; i < TIMES_AT_MOST + 5; i++) {
            x.order(1, 0);
        }
        due("count(6)", x.count(6), TIMES_AT_MOST);
    }

    static void p20_order_outsideIsToldAheadOfState() {
        TopSpeaks x = easy(2);
        for (int i = 0; i < TIMES_AT_MOST; i++) {
            x.order(3, 0);
        }
        refused(x, "order(4, 0)", () -> x.order(4, 0), OUTSIDE);
        refused(x, "order(-1, 0)", () -> x.order(-1, 0), OUTSIDE);
        refused(x, "order(3, 7)", () -> x.order(3, 7), OUTSIDE);
        refused(x, "order(3, -1)", () -> x.order(3, -1), OUTSIDE);
    }

    // ---- 21 laws

    static void p21_laws_ofTheEmptySetIsTheBillAsItIs() {
        TopSpeaks x = easy(2);
        lawsAre(x, 0, 1, 0);
        x.speech(1, MORE, 7);
        x.rise(1);
        lawsAre(x, 0, 1, 7);
    }

    static void p21_laws_setBelow0IsOutside() {
        TopSpeaks x = easy(7);
        refused(x, "laws(-1, 0)", () -> x.laws(-1, 0), OUTSIDE);
        refused(x, "laws(LOW, 0)", () -> x.laws(LOW, 0), OUTSIDE);
    }

    static void p21_laws_ofAllMembersNotOfOneMore() {
        for (int many = 1; many <= 7; many++) {
            TopSpeaks x = easy(many);
            int all = (1 << many) - 1;
            lawsAre(x, all, 1, 0);
            refused(x, "laws(" + (all + 1) + ", 0)", () -> x.laws(all + 1, 0), OUTSIDE);
            refused(x, "laws(" + (2 * all + 1) + ", 1)", () -> x.laws(2 * all + 1, 1), OUTSIDE);
        }
    }

    static void p21_laws_setFarAboveIsOutside() {
        TopSpeaks x = easy(7);
        refused(x, "laws(HIGH, 0)", () -> x.laws(HIGH, 0), OUTSIDE);
        refused(x, "laws(1 << 30, 0)", () -> x.laws(1 << 30, 0), OUTSIDE);
    }

    static void p21_laws_withoutMembersTheEmptySetAlone() {
        TopSpeaks x = new TopSpeaks();
        lawsAre(x, 0, 1, 0);
        refused(x, "laws(1, 0)", () -> x.laws(1, 0), OUTSIDE);
    }

    static void p21_laws_what0And1() {
        TopSpeaks x = easy(2);
        taken("laws(3, 0)", x.laws(3, 0));
        taken("laws(3, 1)", x.laws(3, 1));
        due("count(6)", x.count(6), 2);
    }

    static void p21_laws_whatBelow0IsOutside() {
        TopSpeaks x = easy(2);
        refused(x, "laws(3, -1)", () -> x.laws(3, -1), OUTSIDE);
        refused(x, "laws(3, LOW)", () -> x.laws(3, LOW), OUTSIDE);
    }

    static void p21_laws_whatAbove1IsOutside() {
        TopSpeaks x = easy(2);
        refused(x, "laws(3, 2)", () -> x.laws(3, 2), OUTSIDE);
        refused(x, "laws(3, HIGH)", () -> x.laws(3, HIGH), OUTSIDE);
    }

    static void p21_laws_noneWithoutARow() {
        TopSpeaks x = house(one(PLAIN, 1, 0, 0), one(PLAIN, 1, 0, 0));
        lawsAre(x, 3, 0, NONE);
    }

    static void p21_laws_noneIfSomeoneStands() {
        TopSpeaks x = easy(2);
        x.speech(0, MORE, 5);
        x.rise(0);
        lawsAre(x, 1, 0, NONE);
        lawsAre(x, 3, 0, NONE);
        lawsAre(x, 2, 1, 5);
    }

    static void p21_laws_theGreatestMayBe0() {
        TopSpeaks x = easy(2);
        x.speech(0, LESS, 9);
        lawsAre(x, 1, 1, 0);
    }

    static void p21_laws_theSameBillOfSeveralRowsIsOne() {
        TopSpeaks x = easy(3);
        x.speech(0, MORE, 1);
        x.speech(1, MORE, 2);
        x.speech(2, MORE, 3);
        lawsAre(x, 7, 1, 6);
    }

    static void p21_laws_twoBillsOfTwoRows() {
        TopSpeaks x = easy(2);
        x.speech(0, MORE, 4);
        x.speech(1, LESS, 4);
        // 4 more, 4 less: 0; 4 less, 4 more: 4
        lawsAre(x, 3, 2, 4);
    }

    static void p21_laws_ofRowsThatHoldAlone() {
        TopSpeaks x = house(one(PLAIN, 1, 0, 2), one(PLAIN, 1, 0, 1));
        x.speech(0, MORE, 4);
        x.speech(1, LESS, 4);
        // 1 below 0 falls
        lawsAre(x, 3, 1, 0);
    }

    static void p21_laws_ofRowsInWhichAllMayRise() {
        TopSpeaks x = easy(2);
        x.speech(0, MORE, 4);
        x.speech(1, LESS, 4);
        ruled(x, "10");
        lawsAre(x, 3, 1, 0);
        ruled(x, "01");
        lawsAre(x, 3, 1, 4);
        ruled(x, "01,10");
        lawsAre(x, 3, 0, NONE);
    }

    static void p21_laws_upTo999() {
        TopSpeaks x = easy(5);
        x.speech(0, BECOMES, 9);
        for (int one = 1; one < 4; one++) {
            x.speech(one, TIMES, 9);
        }
        x.speech(4, LESS, 1);
        // 9, and times 9 none to three times behind it
        lawsAre(x, 15, 4, 999);
        allRise(x, 0, 1, 2, 3);
        lawsAre(x, 0, 1, 999);
        lawsAre(x, 16, 1, 998);
    }

    static void p21_laws_manyBills() {
        TopSpeaks x = easy(7);
        for (int one = 0; one < 6; one++) {
            x.speech(one, one % 2 == 0 ? MORE : TIMES, one + 2);
        }
        x.speech(6, LESS, 5);
        java.util.TreeSet<Integer> bills = new java.util.TreeSet<>();
        allBills(x, 0, 0, bills);
        lawsAre(x, 127, bills.size(), bills.last());
    }

    /** All bills that come of rows of seven who may stand in any order. */
    private static void allBills(TopSpeaks x, int risen, int bill, java.util.TreeSet<Integer> bills) {
        if (risen == 127) {
            bills.add(bill);
        }
        for (int one = 0; one < 7; one++) {
            if ((risen >> one & 1) == 0) {
                int number = one + 2;
                int next = one == 6 ? bill - 5 : one % 2 == 0 ? bill + number : bill * number;
                allBills(x, risen | 1 << one, Math.max(0, Math.min(999, next)), bills);
            }
        }
    }

    static void p21_laws_leavesAllButItsCount() {
        TopSpeaks x = house(one(PLAIN, 1, 0, 0), one(PLAIN, 1, 0, 0));
        due("laws(3, 0)", x.laws(3, 0), 0);
        due("count(1)", x.count(1), 0);
        due("count(5)", x.count(5), 0);
        due("bruises", x.about(0, 8) + x.about(1, 8), 0);
        due("count(6)", x.count(6), 1);
        due("count(7)", x.count(7), 0);
    }

    static void p21_laws_fortyTimesNotFortyOne() {
        TopSpeaks x = easy(2);
        for (int i = 0; i < TIMES_AT_MOST; i++) {
            due("laws(3, 0)", x.laws(3, 0), 1);
        }
        refused(x, "laws(3, 0)", () -> x.laws(3, 0), STATE);
        refused(x, "laws(0, 1)", () -> x.laws(0, 1), STATE);
        refused(x, "order(3, 0)", () -> x.order(3, 0), STATE);
        due("count(6)", x.count(6), TIMES_AT_MOST);
    }

    static void p21_laws_thirtyNineOfOrderAndOne() {
        TopSpeaks x = easy(2);
        for (int i = 1; i < TIMES_AT_MOST; i++) {
            x.order(3, 0);
        }
        due("the fortieth", x.laws(3, 0), 1);
        due("the next", x.laws(3, 0), STATE);
    }

    static void p21_laws_refusalsDoNotCount() {
        TopSpeaks x = easy(2);
        for (int i = 0; i < TIMES_AT_MOST + 5; i++) {
            due("laws(4, 0)", x.laws(4, 0), OUTSIDE);
            due("laws(3, 2)", x.laws(3, 2), OUTSIDE);
        }
        due("laws(3, 0)", x.laws(3, 0), 1);
        due("count(6)", x.count(6), 1);
    }

    static void p21_laws_noneCounts() {
        TopSpeaks x = easy(2);
        ruled(x, "01,10");
        for (int i = 0; i < TIMES_AT_MOST; i++) {
            due("laws(1, 1)", x.laws(1, 1), NONE);
        }
        due("laws(1, 1)", x.laws(1, 1), STATE);
    }

    static void p21_laws_outsideIsToldAheadOfState() {
        TopSpeaks x = easy(2);
        for (int i = 0; i < TIMES_AT_MOST; i++) {
            x.laws(3, 0);
        }
        refused(x, "laws(4, 0)", () -> x.laws(4, 0), OUTSIDE);
        refused(x, "laws(-1, 0)", () -> x.laws(-1, 0), OUTSIDE);
        refused(x, "laws(3, 2)", () -> x.laws(3, 2), OUTSIDE);
        refused(x, "laws(3, -1)", () -> x.laws(3, -1), OUTSIDE);
    }

    // ---- 22 changed

    static void p22_changed_noneIfTheTowerIsEmpty() {
        TopSpeaks x = easy(3);
        due("changed()", x.changed(), NONE);
        x.rise(0);
        x.down();
        due("changed() behind down()", x.changed(), NONE);
        due("without members", new TopSpeaks().changed(), NONE);
    }

    static void p22_changed_ofOneIsWhatHisChairBears() {
        for (int chair : new int[] {0, 1, 99}) {
            TopSpeaks x = house(one(PLAIN, 9, 0, chair));
            x.rise(0);
            due("changed() of " + chair, x.changed(), chair);
        }
    }

    static void p22_changed_ofOneJoiner() {
        TopSpeaks x = house(one(JOINER, 9, 0, 0));
        x.rise(0);
        due("changed()", x.changed(), 10);
    }

    static void p22_changed_mayBe0() {
        TopSpeaks x = house(one(PLAIN, 1, 0, 2), one(PLAIN, 1, 0, 0));
        due("rise(1)", allRise(x, 0, 1), 2);
        due("changed()", x.changed(), 0);
    }

    static void p22_changed_theStrongestGoesToTheLowest() {
        TopSpeaks x = house(one(PLAIN, 1, 0, 2), one(PLAIN, 1, 0, 12));
        allRise(x, 0, 1);
        // 12 for 2 leaves 10, 2 for 0 leaves 2
        due("changed()", x.changed(), 2);
    }

    static void p22_changed_leavesThemIfThatIsBest() {
        TopSpeaks x = house(one(PLAIN, 1, 0, 12), one(PLAIN, 1, 0, 2));
        allRise(x, 0, 1);
        due("changed()", x.changed(), 2);
    }

    static void p22_changed_theGreatestIsNotAlwaysForTheLowest() {
        TopSpeaks x = house(one(JOINER, 1, 0, 3), one(PLAIN, 1, 0, 9), one(PLAIN, 1, 0, 5));
        allRise(x, 0, 1, 2);
        // a joiner's ten are enough for his 4: 3, 9, 5 leave 9, 7, 5; 9, 5, 3 would leave 15, 3, 3
        due("changed()", x.changed(), 5);
    }

    static void p22_changed_theTenOfAJoinerStayWithHim() {
        TopSpeaks x = house(one(JOINER, 1, 0, 0), one(PLAIN, 1, 0, 0));
        allRise(x, 0, 1);
        due("changed()", x.changed(), 0);
    }

    static void p22_changed_theHalfOfAFatOneStaysWithHim() {
        TopSpeaks x = house(one(FAT, 1, 0, 5), one(PLAIN, 8, 0, 7));
        allRise(x, 0, 1);
        // half of 9 is 5: 7 for it leaves 2, and 5 for nothing leaves 5
        due("changed()", x.changed(), 2);
    }

    static void p22_changed_chairsOfWhoDoesNotStandAreNotTaken() {
        TopSpeaks x = house(one(PLAIN, 1, 0, 5), one(PLAIN, 1, 0, 4), one(PLAIN, 1, 0, 99));
        allRise(x, 0, 1);
        due("changed()", x.changed(), 3);
    }

    static void p22_changed_ofSeven() {
        TopSpeaks x = new TopSpeaks();
        for (int one = 0; one < 7; one++) {
            x.member(PLAIN, 1, 0, 0, 20 + one);
        }
        allRise(x, 0, 1, 2, 3, 4, 5, 6);
        // loads 12, 10, 8, 6, 4, 2, 0 for 26, 25, 24, 23, 22, 21, 20
        due("changed()", x.changed(), 14);
    }

    static void p22_changed_changesNothing() {
        TopSpeaks x = house(one(PLAIN, 1, 0, 2), one(PLAIN, 1, 0, 12));
        allRise(x, 0, 1);
        long before = x.digest();
        x.changed();
        due("digest()", x.digest(), before);
        due("about(0, 4)", x.about(0, 4), 2);
        due("about(1, 4)", x.about(1, 4), 12);
    }

    // ---- 23 midnight

    /** Members who can bear all, of these parties. */
    private static TopSpeaks parties(int... parties) {
        TopSpeaks x = new TopSpeaks();
        for (int party : parties) {
            x.member(PLAIN, 1, 0, party, 99);
        }
        return x;
    }

    private static void midnightIs(TopSpeaks x, int turns, int want) {
        due("midnight(" + turns + ")", x.midnight(turns), want);
    }

    static void p23_midnight_turns1And5() {
        TopSpeaks x = parties(0);
        midnightIs(x, 1, 1);
        midnightIs(x, 5, 1);
        due("count(7)", x.count(7), 2);
    }

    static void p23_midnight_turnsBelow1AreOutside() {
        TopSpeaks x = parties(0);
        refused(x, "midnight(0)", () -> x.midnight(0), MIDNIGHT_OUTSIDE);
        refused(x, "midnight(-1)", () -> x.midnight(-1), MIDNIGHT_OUTSIDE);
        refused(x, "midnight(LOW)", () -> x.midnight(LOW), MIDNIGHT_OUTSIDE);
    }

    static void p23_midnight_turnsAbove5AreOutside() {
        TopSpeaks x = parties(0);
        refused(x, "midnight(6)", () -> x.midnight(6), MIDNIGHT_OUTSIDE);
        refused(x, "midnight(HIGH)", () -> x.midnight(HIGH), MIDNIGHT_OUTSIDE);
    }

    static void p23_midnight_withoutMembersIs0() {
        for (int turns = 1; turns <= 5; turns++) {
            midnightIs(new TopSpeaks(), turns, 0);
        }
    }

    static void p23_midnight_ofParty2AloneIs0() {
        TopSpeaks x = parties(2, 2);
        midnightIs(x, 5, 0);
        x.rise(0);
        midnightIs(x, 1, 0);
        midnightIs(x, 5, 0);
    }

    static void p23_midnight_party0HasTheFirstTurn() {
        TopSpeaks x = parties(0, 1);
        midnightIs(x, 1, 1);
        TopSpeaks y = parties(1);
        midnightIs(y, 1, 0);
    }

    static void p23_midnight_party1HasTheSecondTurn() {
        midnightIs(parties(1), 2, -1);
        midnightIs(parties(0, 1), 2, -1);
    }

    static void p23_midnight_theyTakeTurns() {
        TopSpeaks x = parties(0, 1);
        midnightIs(x, 3, 1);
        midnightIs(x, 4, -1);
        midnightIs(x, 5, 1);
    }

    static void p23_midnight_nobodyNeedRise() {
        TopSpeaks x = parties(0, 0);
        x.chair(0, 0);
        x.chair(1, 0);
        x.rise(0);
        // whoever rises makes all fall
        midnightIs(x, 1, 1);
        midnightIs(x, 2, 1);
    }

    static void p23_midnight_whoMayNotRiseDoesNot() {
        TopSpeaks x = parties(0, 2);
        ruled(x, "01");
        midnightIs(x, 1, 0);
        midnightIs(x, 5, 0);
        x.rise(1);
        midnightIs(x, 1, 1);
    }

    static void p23_midnight_whoStandsDoesNotRiseAgain() {
        TopSpeaks x = parties(0, 1);
        allRise(x, 0, 1);
        midnightIs(x, 1, -1);
        midnightIs(x, 5, -1);
    }

    static void p23_midnight_nobodyOnTopIsBetterThanTheOther() {
        TopSpeaks x = parties(1, 0);
        x.chair(0, 0);
        x.rise(0);
        // 0 can but make all fall
        midnightIs(x, 1, 0);
    }

    static void p23_midnight_party2OnTopIsBetterThanTheOther() {
        TopSpeaks x = parties(2, 0, 1);
        ruled(x, "12,20");
        x.rise(0);
        midnightIs(x, 1, 0);
        midnightIs(x, 2, -1);
        // if 2 rises at the second turn, 1 may at the third: so nobody does
        midnightIs(x, 3, 0);
        midnightIs(x, 4, -1);
        midnightIs(x, 5, 0);
    }

    static void p23_midnight_whoFellMayRiseAgain() {
        TopSpeaks x = house(new int[] {PLAIN, 1, 0, 0, 0});
        x.member(PLAIN, 1, 0, 1, 0);
        x.rise(0);
        // turn 2: 1 makes all fall; turn 3: 0 rises again
        midnightIs(x, 1, 1);
        midnightIs(x, 2, 0);
        midnightIs(x, 3, 1);
    }

    static void p23_midnight_theTopmostOfTheTowerAsItIs() {
        TopSpeaks x = parties(0, 1, 2);
        ruled(x, "01,12,20");
        midnightIs(x, 5, 0);
        ruled(x, "10,20");
        x.rise(0);
        midnightIs(x, 1, 1);
        x.rise(1);
        midnightIs(x, 1, -1);
        x.rise(2);
        midnightIs(x, 1, 0);
    }

    static void p23_midnight_leavesAllButItsCount() {
        TopSpeaks x = house(one(PLAIN, 1, 0, 0), one(PLAIN, 1, 0, 0));
        x.rise(0);
        midnightIs(x, 5, 1);
        due("count(1)", x.count(1), 1);
        due("count(5)", x.count(5), 0);
        due("bruises", x.about(0, 8) + x.about(1, 8), 0);
        due("count(6)", x.count(6), 0);
        due("count(7)", x.count(7), 1);
    }

    static void p23_midnight_thirtyTimesNotThirtyOne() {
        TopSpeaks x = parties(0);
        for (int i = 0; i < MIDNIGHTS_AT_MOST; i++) {
            midnightIs(x, 1, 1);
        }
        refused(x, "midnight(1)", () -> x.midnight(1), MIDNIGHT_STATE);
        refused(x, "midnight(5)", () -> x.midnight(5), MIDNIGHT_STATE);
        due("count(7)", x.count(7), MIDNIGHTS_AT_MOST);
    }

    static void p23_midnight_refusalsDoNotCount() {
        TopSpeaks x = parties(0);
        for (int i = 0; i < MIDNIGHTS_AT_MOST + 5; i++) {
            midnightIs(x, 0, MIDNIGHT_OUTSIDE);
            midnightIs(x, 6, MIDNIGHT_OUTSIDE);
        }
        due("count(7)", x.count(7), 0);
        midnightIs(x, 1, 1);
    }

    static void p23_midnight_0Counts() {
        TopSpeaks x = new TopSpeaks();
        for (int i = 0; i < MIDNIGHTS_AT_MOST; i++) {
            midnightIs(x, 1 + i % 5, 0);
        }
        midnightIs(x, 1, MIDNIGHT_STATE);
    }

    static void p23_midnight_outsideIsToldAheadOfState() {
        TopSpeaks x = parties(0);
        for (int i = 0; i < MIDNIGHTS_AT_MOST; i++) {
            x.midnight(1);
        }
        refused(x, "midnight(0)", () -> x.midnight(0), MIDNIGHT_OUTSIDE);
        refused(x, "midnight(6)", () -> x.midnight(6), MIDNIGHT_OUTSIDE);
    }

    static void p23_midnight_isNotCountedWithOrderAndLaws() {
        TopSpeaks x = parties(0);
        for (int i = 0; i < TIMES_AT_MOST; i++) {
            x.laws(1, 0);
        }
        midnightIs(x, 1, 1);
        for (int i = 1; i < MIDNIGHTS_AT_MOST; i++) {
            x.midnight(1);
        }
        due("count(6)", x.count(6), TIMES_AT_MOST);
        due("count(7)", x.count(7), MIDNIGHTS_AT_MOST);
    }

    // ---- 24 sessions

    private static long nextSeed(long seed) {
        return (1103515245L * seed + 12345L) % 2147483648L;
    }

    private static void outsideSessions(int times, int seed, int what) {
        TopSpeaks x = easy(2);
        String call = "sessions(" + times + ", " + seed + ", " + what + ")";
        refused(x, call, () -> x.sessions(times, seed, what), OUTSIDE);
        due("may(0) behind it", x.may(0), 1);
    }

    static void p24_sessions_times1And60() {
        TopSpeaks x = easy(1);
        due("once", x.sessions(1, 5, 3), nextSeed(5));
        long seed = 5;
        for (int i = 0; i < 60; i++) {
            seed = nextSeed(seed);
        }
        due("sixty times", x.sessions(60, 5, 3), seed);
    }

    static void p24_sessions_timesBelow1AreOutside() {
        outsideSessions(0, 5, 0);
        outsideSessions(-1, 5, 0);
        outsideSessions(LOW, 5, 0);
    }

    static void p24_sessions_timesAbove60AreOutside() {
        outsideSessions(61, 5, 0);
        outsideSessions(HIGH, 5, 0);
    }

    static void p24_sessions_seed0() {
        due("behind seed 0", easy(1).sessions(1, 0, 3), 12345);
    }

    static void p24_sessions_theGreatestSeed() {
        due("behind seed 2147483647", easy(1).sessions(1, HIGH, 3), nextSeed(HIGH));
        due("wrapped round", nextSeed(HIGH), (12345L - 1103515245L % 2147483648L + 2147483648L) % 2147483648L);
    }

    static void p24_sessions_seedBelow0IsOutside() {
        outsideSessions(1, -1, 0);
        outsideSessions(1, LOW, 3);
    }

    static void p24_sessions_what0And3() {
        TopSpeaks x = easy(1);
        due("what 0", x.sessions(1, 5, 0), 1);
        due("what 1", x.sessions(1, 5, 1), 0);
        due("what 2", x.sessions(1, 5, 2), 0);
        due("what 3", x.sessions(1, 5, 3), nextSeed(5));
    }

    static void p24_sessions_whatBelow0IsOutside() {
        outsideSessions(1, 5, -1);
        outsideSessions(1, 5, LOW);
    }

    static void p24_sessions_whatAbove3IsOutside() {
        outsideSessions(1, 5, 4);
        outsideSessions(1, 5, HIGH);
    }

    static void p24_sessions_allOutside() {
        outsideSessions(0, -1, 4);
        outsideSessions(61, LOW, -1);
    }

    static void p24_sessions_outsideWithoutMembersToo() {
        TopSpeaks x = new TopSpeaks();
        refused(x, "sessions(0, 5, 3)", () -> x.sessions(0, 5, 3), OUTSIDE);
        refused(x, "sessions(1, -5, 3)", () -> x.sessions(1, -5, 3), OUTSIDE);
        refused(x, "sessions(1, 5, 4)", () -> x.sessions(1, 5, 4), OUTSIDE);
    }

    static void p24_sessions_withoutMembersNothingIsDrawn() {
        TopSpeaks x = new TopSpeaks();
        due("height", x.sessions(60, 71, 0), 0);
        due("falls", x.sessions(60, 71, 1), 0);
        due("bill", x.sessions(60, 71, 2), 0);
        due("seed", x.sessions(60, 71, 3), 71);
        due("seed 0", x.sessions(1, 0, 3), 0);
        due("the greatest seed", x.sessions(1, HIGH, 3), HIGH);
    }

    static void p24_sessions_ofOneMemberAreDrawnToo() {
        TopSpeaks x = easy(1);
        due("height", x.sessions(3, 71, 0), 1);
        due("seed", x.sessions(3, 71, 3), nextSeed(nextSeed(nextSeed(71))));
    }

    static void p24_sessions_theDrawIsByTheSeedsUpperPart() {
        TopSpeaks x = easy(7);
        for (int one = 0; one < 7; one++) {
            x.speech(one, BECOMES, one + 1);
        }
        for (int seed : new int[] {0, 1, 2, 3, 70, 71, 12345, HIGH - 1, HIGH}) {
            due("seed " + seed, x.sessions(1, seed, 2), nextSeed(seed) / 65536 % 7 + 1);
        }
    }

    static void p24_sessions_whoMayNotRiseDoesNot() {
        TopSpeaks x = easy(2);
        ruled(x, "01,10");
        due("height", x.sessions(60, 5, 0), 0);
        due("falls", x.sessions(60, 5, 1), 0);
        due("it is drawn all the same", x.sessions(1, 5, 3), nextSeed(5));
    }

    static void p24_sessions_whoStandsDoesNotRiseAgain() {
        TopSpeaks x = easy(1);
        x.speech(0, MORE, 3);
        x.rise(0);
        due("height", x.sessions(60, 5, 0), 1);
        due("bill", x.sessions(60, 5, 2), 3);
    }

    static void p24_sessions_allFallAndRiseAgain() {
        TopSpeaks x = house(one(PLAIN, 1, 3, 0));
        ruled(x, "56;2");
        due("each of sixty", x.sessions(60, 5, 1), 60);
        due("one", x.sessions(1, 5, 1), 1);
        due("height", x.sessions(60, 5, 0), 0);
        due("bill", x.sessions(60, 5, 2), 0);
    }

    static void p24_sessions_onTheTowerAsItIs() {
        TopSpeaks x = easy(2);
        x.speech(0, MORE, 4);
        x.speech(1, MORE, 5);
        allRise(x, 1, 0);
        due("height", x.sessions(1, 5, 0), 2);
        due("bill", x.sessions(1, 5, 2), 9);
    }

    static void p24_sessions_changeNothing() {
        TopSpeaks x = house(one(PLAIN, 1, 3, 0));
        ruled(x, "56;2");
        long before = x.digest();
        x.sessions(60, 5, 1);
        due("digest()", x.digest(), before);
        due("count(5)", x.count(5), 0);
        due("bruises", x.about(0, 8), 0);
        due("the same again", x.sessions(60, 5, 1), 60);
    }
}
