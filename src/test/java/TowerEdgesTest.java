/** The boundaries of promises 12 to 16: the tower. */
public final class TowerEdgesTest extends Edges {
    public static void main(String[] args) throws Exception {
        runAll(TowerEdgesTest.class, 12, 16);
    }

    // ---- 12 may

    static void p12_may_theFirstAndTheLastMember() {
        TopSpeaks x = easy(7);
        due("may(0)", x.may(0), 1);
        due("may(6)", x.may(6), 1);
    }

    static void p12_may_nobodyIsUnknown() {
        TopSpeaks x = easy(3);
        for (int nobody : new int[] {-1, 3, 6, 7, LOW, HIGH}) {
            refused(x, "may(" + nobody + ")", () -> x.may(nobody), UNKNOWN);
        }
    }

    static void p12_may_notWhoStands() {
        TopSpeaks x = easy(3);
        allRise(x, 1, 2);
        due("may(1), the lowest", x.may(1), 0);
        due("may(2), on top", x.may(2), 0);
        due("may(0)", x.may(0), 1);
    }

    static void p12_may_againWhoCameDown() {
        TopSpeaks x = easy(2);
        allRise(x, 0, 1);
        x.down();
        due("may(0)", x.may(0), 1);
        due("may(1)", x.may(1), 1);
    }

    static void p12_may_againWhoFell() {
        TopSpeaks x = house(one(PLAIN, 1, 0, 0), one(PLAIN, 1, 0, 0));
        allRise(x, 0, 1);
        due("may(0)", x.may(0), 1);
        due("may(1)", x.may(1), 1);
    }

    static void p12_may_notIfOneOfTwoToReplyToIsMissing() {
        TopSpeaks x = easy(4);
        ruled(x, "01,02");
        due("none stands", x.may(0), 0);
        x.rise(1);
        due("1 stands", x.may(0), 0);
        x.down();
        x.rise(2);
        due("2 stands", x.may(0), 0);
        x.rise(3);
        due("2 and 3 stand", x.may(0), 0);
    }

    static void p12_may_ifAllToReplyToStand() {
        TopSpeaks x = easy(4);
        ruled(x, "01,02");
        allRise(x, 2, 3, 1);
        due("may(0)", x.may(0), 1);
    }

    static void p12_may_whoIsRepliedToNeedsNobody() {
        TopSpeaks x = easy(3);
        ruled(x, "01,02");
        due("may(1)", x.may(1), 1);
        due("may(2)", x.may(2), 1);
    }

    static void p12_may_neitherOfTwoWhoReplyToEachOther() {
        TopSpeaks x = easy(2);
        ruled(x, "01,10");
        due("may(0)", x.may(0), 0);
        due("may(1)", x.may(1), 0);
    }

    static void p12_may_notIfNobodyHasTheNumberToReplyTo() {
        TopSpeaks x = easy(2);
        ruled(x, "02");
        x.rise(1);
        due("may(0)", x.may(0), 0);
        x.member(PLAIN, 1, 0, 0, 99);
        due("who comes does not stand", x.may(0), 0);
        x.rise(2);
        due("may(0) behind rise(2)", x.may(0), 1);
    }

    static void p12_may_thoughTheTowerWouldFall() {
        TopSpeaks x = house(one(PLAIN, 1, 0, 0), one(PLAIN, 1, 0, 0));
        x.rise(0);
        due("may(1)", x.may(1), 1);
        due("rise(1)", x.rise(1), 0);
    }

    static void p12_may_allBySevenReplies() {
        TopSpeaks x = easy(7);
        ruled(x, "60,61,62,63,64,65");
        allRise(x, 0, 1, 2, 3, 4);
        due("five stand", x.may(6), 0);
        x.rise(5);
        due("six stand", x.may(6), 1);
    }

    // ---- 13 rise

    static void p13_rise_theFirstAndTheLastMember() {
        TopSpeaks x = easy(7);
        due("rise(6)", x.rise(6), 1);
        due("rise(0)", x.rise(0), 2);
    }

    static void p13_rise_nobodyIsUnknown() {
        TopSpeaks x = easy(3);
        x.rise(0);
        for (int nobody : new int[] {-1, 3, 6, 7, LOW, HIGH}) {
            refused(x, "rise(" + nobody + ")", () -> x.rise(nobody), UNKNOWN);
        }
        due("at(2) behind them", x.at(2), UNKNOWN);
    }

    static void p13_rise_whoStandsIsState() {
        TopSpeaks x = easy(3);
        allRise(x, 0, 1);
        refused(x, "rise(0)", () -> x.rise(0), STATE);
        refused(x, "rise(1)", () -> x.rise(1), STATE);
        due("at(2) behind them", x.at(2), 1);
        due("rise(2) behind them", x.rise(2), 3);
    }

    static void p13_rise_whoWouldReplyToWhoIsMissingIsState() {
        TopSpeaks x = easy(3);
        ruled(x, "01");
        refused(x, "rise(0)", () -> x.rise(0), STATE);
        due("rise(1)", x.rise(1), 1);
        due("rise(0) behind it", x.rise(0), 2);
    }

    static void p13_rise_unknownIsToldAheadOfState() {
        TopSpeaks x = easy(3);
        ruled(x, "30");
        refused(x, "rise(3), who would reply", () -> x.rise(3), UNKNOWN);
    }

    static void p13_rise_upToSeven() {
        TopSpeaks x = easy(7);
        for (int one = 0; one < 7; one++) {
            due("rise(" + one + ")", x.rise(one), one + 1);
        }
        refused(x, "none is left", () -> x.rise(0), STATE);
    }

    /** How high two come: the lower of a kind, on a chair; the upper of a kind, with a weight. */
    private static int two(int lowKind, int lowChair, int highKind, int highWeight) {
        return allRise(house(one(lowKind, 1, 0, lowChair), one(highKind, highWeight, 0, 0)), 0, 1);
    }

    static void p13_rise_aChairThatBearsJustAsMuchAsItCanHolds() {
        due("9 and 1 on 10", two(PLAIN, 10, PLAIN, 9), 2);
        due("1 and 1 on 2", two(PLAIN, 2, PLAIN, 1), 2);
        due("of a steady one", two(STEADY, 10, PLAIN, 9), 2);
    }

    static void p13_rise_aChairThatBears1TooMuchDoesNotHold() {
        due("9 and 1 on 9", two(PLAIN, 9, PLAIN, 9), 0);
        due("1 and 1 on 1", two(PLAIN, 1, PLAIN, 1), 0);
        due("of a steady one", two(STEADY, 9, PLAIN, 9), 0);
    }

    static void p13_rise_aFatOneWeighsTwiceOnTheChairBelow() {
        due("18 and 1 on 19", two(PLAIN, 19, FAT, 9), 2);
        due("18 and 1 on 18", two(PLAIN, 18, FAT, 9), 0);
    }

    static void p13_rise_theChairOfAFatOneBearsHalf() {
        due("half of 10 on 5", two(FAT, 5, PLAIN, 9), 2);
        due("half of 10 on 4", two(FAT, 4, PLAIN, 9), 0);
    }

    static void p13_rise_theHalfIsRoundedUp() {
        due("half of 9 on 5", two(FAT, 5, PLAIN, 8), 2);
        due("half of 9 on 4", two(FAT, 4, PLAIN, 8), 0);
    }

    static void p13_rise_theChairOfAJoinerBears10More() {
        due("18 and 1 on 9 and 10", two(JOINER, 9, FAT, 9), 2);
        due("18 and 1 on 8 and 10", two(JOINER, 8, FAT, 9), 0);
    }

    static void p13_rise_theChairOfAnElderBears10More() {
        due("18 and 1 on 9 and 10", two(ELDER, 9, FAT, 9), 2);
        due("18 and 1 on 8 and 10", two(ELDER, 8, FAT, 9), 0);
    }

    static void p13_rise_theTopmostChairMayBear0() {
        due("rise(0)", house(one(PLAIN, 9, 0, 0)).rise(0), 1);
        due("rise(0) of a fat one", house(one(FAT, 9, 0, 0)).rise(0), 1);
    }

    /** How high seven of weight 1 come; the one at a height (1 below) has a chair, all others 99. */
    private static int sevenWithChairAt(int height, int chair) {
        TopSpeaks x = easy(7);
        x.chair(height - 1, chair);
        return allRise(x, 0, 1, 2, 3, 4, 5, 6);
    }

    static void p13_rise_noChairAtAnyHeightMayBearTooMuch() {
        for (int height = 1; height <= 7; height++) {
            int load = 2 * (7 - height);
            due(load + " at " + height, sevenWithChairAt(height, load), 7);
            if (load > 0) {
                due(load + " less 1 at " + height, sevenWithChairAt(height, load - 1), 0);
            }
        }
    }

    /** How high two who lean so come, under a limit. */
    private static int leaning(int limit, int kind, int first, int second) {
        TopSpeaks x = house(one(PLAIN, 1, first, 99), one(kind, 1, second, 99));
        ruled(x, "56;" + limit);
        return allRise(x, 0, 1);
    }

    static void p13_rise_leansJustAtTheLimitHold() {
        due("3 and 2 of 5", leaning(5, PLAIN, 3, 2), 2);
        due("1 and 0 of 1", leaning(1, PLAIN, 1, 0), 2);
        due("of a fat one, not twice", leaning(5, FAT, 3, 2), 2);
        due("of a joiner", leaning(5, JOINER, 3, 2), 2);
    }

    static void p13_rise_leansAboveTheLimitDoNotHold() {
        due("3 and 3 of 5", leaning(5, PLAIN, 3, 3), 0);
        due("1 and 1 of 1", leaning(1, PLAIN, 1, 1), 0);
        due("of a fat one", leaning(5, FAT, 3, 3), 0);
        due("of a joiner", leaning(5, JOINER, 3, 3), 0);
    }

    static void p13_rise_leansToTheOtherSideAtTheLimitHold() {
        due("-3 and -2 of 5", leaning(5, PLAIN, -3, -2), 2);
        due("-1 and 0 of 1", leaning(1, PLAIN, -1, 0), 2);
    }

    static void p13_rise_leansToTheOtherSideAboveTheLimitDoNotHold() {
        due("-3 and -3 of 5", leaning(5, PLAIN, -3, -3), 0);
        due("-1 and -1 of 1", leaning(1, PLAIN, -1, -1), 0);
    }

    static void p13_rise_leansToBothSidesEvenOut() {
        due("3 and -3 of 3", leaning(3, PLAIN, 3, -3), 2);
        due("-3 and 3 of 3", leaning(3, PLAIN, -3, 3), 2);
    }

    static void p13_rise_limit0HoldsNoLean() {
        TopSpeaks x = house(one(PLAIN, 1, 1, 99), one(PLAIN, 1, -1, 99), one(PLAIN, 1, 0, 99));
        ruled(x, "56;0");
        due("lean 0", x.rise(2), 1);
        due("lean 1", x.rise(0), 0);
        due("lean -1", x.rise(1), 0);
    }

    static void p13_rise_limit9Holds9() {
        TopSpeaks x = house(one(PLAIN, 1, 3, 99), one(PLAIN, 1, 3, 99), one(PLAIN, 1, 3, 99),
            one(PLAIN, 1, 0, 99), one(PLAIN, 1, 1, 99));
        ruled(x, "56;9");
        due("9", allRise(x, 0, 1, 2, 3), 4);
        due("10", x.rise(4), 0);
    }

    static void p13_rise_theLeanOfASteadyOneCountsNothing() {
        due("3 and a steady 3 of 3", leaning(3, STEADY, 3, 3), 2);
        due("0 and a steady -3 of 0", leaning(0, STEADY, 0, -3), 2);
    }

    static void p13_rise_theLeanOfAnElderCountsNothing() {
        due("3 and an elder's 3 of 3", leaning(3, ELDER, 3, 3), 2);
        due("0 and an elder's -3 of 0", leaning(0, ELDER, 0, -3), 2);
    }

    static void p13_rise_aSteadyOneEvensNothingOut() {
        TopSpeaks x = house(one(STEADY, 1, -3, 99), one(ELDER, 1, -3, 99), one(PLAIN, 1, 3, 99),
            one(PLAIN, 1, 1, 99));
        due("steady, elder, 3", allRise(x, 0, 1, 2), 3);
        due("1 more", x.rise(3), 0);
    }

    static void p13_rise_aloneOnTheGroundMayFall() {
        TopSpeaks x = house(one(PLAIN, 1, 3, 99));
        ruled(x, "56;2");
        due("rise(0)", x.rise(0), 0);
        due("bruises", x.about(0, 8), 1);
        due("falls", x.count(5), 1);
        due("he may again", x.may(0), 1);
    }

    static void p13_rise_eachWhoFallsIsBruisedOnceMore() {
        TopSpeaks x = house(one(PLAIN, 1, 0, 2), one(PLAIN, 1, 0, 2), one(PLAIN, 1, 0, 2), one(PLAIN, 1, 0, 2));
        due("rise(0), rise(1), rise(2)", allRise(x, 0, 1, 2), 0);
        due("the lowest", x.about(0, 8), 1);
        due("the next", x.about(1, 8), 1);
        due("who came last", x.about(2, 8), 1);
        due("who did not stand", x.about(3, 8), 0);
        due("rise(3), rise(2), rise(1)", allRise(x, 3, 2, 1), 0);
        due("once", x.about(0, 8), 1);
        due("twice", x.about(1, 8), 2);
        due("twice", x.about(2, 8), 2);
        due("once", x.about(3, 8), 1);
    }

    static void p13_rise_allSevenFall() {
        TopSpeaks x = easy(7);
        x.chair(0, 11);
        allRise(x, 0, 1, 2, 3, 4, 5);
        due("rise(6)", x.rise(6), 0);
        for (int one = 0; one < 7; one++) {
            due("bruises of " + one, x.about(one, 8), 1);
            due("how high stands " + one, x.about(one, 7), 0);
        }
        due("count(5)", x.count(5), 1);
    }

    static void p13_rise_theTowerIsEmptyBehindAFall() {
        TopSpeaks x = house(one(PLAIN, 1, 0, 0), one(PLAIN, 1, 0, 0));
        x.speech(0, BECOMES, 9);
        allRise(x, 0, 1);
        due("count(1)", x.count(1), 0);
        due("at(1)", x.at(1), UNKNOWN);
        due("bill()", x.bill(), 0);
        due("changed()", x.changed(), NONE);
        due("rise(1)", x.rise(1), 1);
    }

    static void p13_rise_whoStandsUnhurtIsNotBruised() {
        TopSpeaks x = easy(7);
        allRise(x, 0, 1, 2, 3, 4, 5, 6);
        for (int one = 0; one < 7; one++) {
            due("bruises of " + one, x.about(one, 8), 0);
        }
        due("count(5)", x.count(5), 0);
    }

    static void p13_rise_underANewLimitTheWholeTowerIsLookedAt() {
        TopSpeaks x = house(one(PLAIN, 1, 2, 99), one(STEADY, 1, 0, 99), one(STEADY, 1, 0, 99));
        x.rise(0);
        ruled(x, "56;2");
        due("rise(1) under 2", x.rise(1), 2);
        ruled(x, "56;1");
        due("it stands under 1", x.count(1), 2);
        due("rise(2) under 1", x.rise(2), 0);
    }

    // ---- 14 down

    static void p14_down_ofAnEmptyTower() {
        TopSpeaks x = easy(2);
        long before = x.digest();
        due("down()", x.down(), 0);
        due("digest()", x.digest(), before);
    }

    static void p14_down_ofOne() {
        TopSpeaks x = easy(2);
        x.rise(1);
        due("down()", x.down(), 1);
        due("count(1)", x.count(1), 0);
        due("again", x.down(), 0);
    }

    static void p14_down_ofSeven() {
        TopSpeaks x = easy(7);
        allRise(x, 6, 5, 4, 3, 2, 1, 0);
        due("down()", x.down(), 7);
        due("at(1)", x.at(1), UNKNOWN);
    }

    static void p14_down_allAreUnhurt() {
        TopSpeaks x = easy(3);
        allRise(x, 0, 1, 2);
        x.down();
        for (int one = 0; one < 3; one++) {
            due("bruises of " + one, x.about(one, 8), 0);
        }
        due("falls", x.count(5), 0);
    }

    static void p14_down_leavesAllElse() {
        TopSpeaks x = easy(3);
        ruled(x, "10;4");
        page(x, "12");
        long before = x.digest();
        allRise(x, 0, 1, 2);
        x.down();
        due("digest()", x.digest(), before);
    }

    // ---- 15 at

    static void p15_at_1AndTheTopmost() {
        TopSpeaks x = easy(4);
        allRise(x, 2, 0, 3);
        due("at(1)", x.at(1), 2);
        due("at(2)", x.at(2), 0);
        due("at(3)", x.at(3), 3);
    }

    static void p15_at_0AndBelowIsUnknown() {
        TopSpeaks x = easy(4);
        allRise(x, 2, 0, 3);
        refused(x, "at(0)", () -> x.at(0), UNKNOWN);
        refused(x, "at(-1)", () -> x.at(-1), UNKNOWN);
        refused(x, "at(LOW)", () -> x.at(LOW), UNKNOWN);
    }

    static void p15_at_aboveTheTopmostIsUnknown() {
        TopSpeaks x = easy(4);
        allRise(x, 2, 0, 3);
        refused(x, "at(4)", () -> x.at(4), UNKNOWN);
        refused(x, "at(8)", () -> x.at(8), UNKNOWN);
        refused(x, "at(HIGH)", () -> x.at(HIGH), UNKNOWN);
    }

    static void p15_at_ofAnEmptyTowerIsUnknown() {
        TopSpeaks x = easy(4);
        refused(x, "at(1)", () -> x.at(1), UNKNOWN);
        refused(x, "at(0)", () -> x.at(0), UNKNOWN);
    }

    static void p15_at_ofSeven() {
        TopSpeaks x = easy(7);
        allRise(x, 6, 4, 2, 0, 5, 3, 1);
        due("at(1)", x.at(1), 6);
        due("at(7)", x.at(7), 1);
        refused(x, "at(8)", () -> x.at(8), UNKNOWN);
    }

    static void p15_at_noHeightFarOffComesRoundAgain() {
        TopSpeaks x = easy(7);
        allRise(x, 6, 4, 2, 0, 5, 3, 1);
        for (int height = -70; height <= 70; height++) {
            if (height < 1 || height > 7) {
                due("at(" + height + ")", x.at(height), UNKNOWN);
            }
        }
        for (int bit = 3; bit < 32; bit++) {
            due("at(1 << " + bit + ")", x.at(1 << bit), UNKNOWN);
            due("at(1 + (1 << " + bit + "))", x.at(1 + (1 << bit)), UNKNOWN);
        }
    }

    // ---- 16 bill

    /** The bill of a tower whose members say, from below, a sort and a number each. */
    private static int billOf(int... speeches) {
        TopSpeaks x = easy(speeches.length / 2);
        for (int i = 0; i < speeches.length / 2; i++) {
            x.speech(i, speeches[2 * i], speeches[2 * i + 1]);
            x.rise(i);
        }
        return x.bill();
    }

    static void p16_bill_is0BelowTheTower() {
        due("of an empty tower", new TopSpeaks().bill(), 0);
        due("nothing", billOf(NOTHING, 9), 0);
        due("3 more", billOf(MORE, 3), 3);
        due("times 9", billOf(TIMES, 9), 0);
    }

    static void p16_bill_is0AtLeast() {
        due("0 less 1", billOf(LESS, 1), 0);
        due("0 less 0", billOf(LESS, 0), 0);
        due("5 less 5", billOf(MORE, 5, LESS, 5), 0);
        due("5 less 4", billOf(MORE, 5, LESS, 4), 1);
        due("5 less 6", billOf(MORE, 5, LESS, 6), 0);
    }

    static void p16_bill_is0AtLeastBehindEach() {
        due("0 less 9, 4 more", billOf(LESS, 9, MORE, 4), 4);
        due("5 less 6, 1 more", billOf(MORE, 5, LESS, 6, MORE, 1), 1);
    }

    static void p16_bill_of998And999() {
        due("110 times 9, 8 more", billOf(MORE, 9, TIMES, 6, MORE, 1, TIMES, 2, TIMES, 9, MORE, 8), 998);
        due("110 times 9, 9 more", billOf(MORE, 9, TIMES, 6, MORE, 1, TIMES, 2, TIMES, 9, MORE, 9), 999);
        due("111 times 9", billOf(MORE, 9, TIMES, 6, MORE, 1, TIMES, 2, MORE, 1, TIMES, 9), 999);
    }

    static void p16_bill_is999AtMost() {
        due("729 times 9", billOf(BECOMES, 9, TIMES, 9, TIMES, 9, TIMES, 9), 999);
        due("112 times 9", billOf(BECOMES, 8, TIMES, 7, TIMES, 2, TIMES, 9), 999);
        due("999, 1 more", billOf(BECOMES, 9, TIMES, 9, TIMES, 9, TIMES, 9, MORE, 1), 999);
        due("991, 9 more", billOf(MORE, 9, TIMES, 6, MORE, 1, TIMES, 2, TIMES, 9, MORE, 1, MORE, 9), 999);
    }

    static void p16_bill_is999AtMostBehindEach() {
        due("729 times 9, 9 less", billOf(BECOMES, 9, TIMES, 9, TIMES, 9, TIMES, 9, LESS, 9), 990);
        due("999, 9 more, 1 less", billOf(BECOMES, 9, TIMES, 9, TIMES, 9, TIMES, 9, MORE, 9, LESS, 1), 998);
    }

    static void p16_bill_number0() {
        due("0 more", billOf(BECOMES, 5, MORE, 0), 5);
        due("0 less", billOf(BECOMES, 5, LESS, 0), 5);
        due("times 0", billOf(BECOMES, 5, TIMES, 0), 0);
        due("becomes 0", billOf(BECOMES, 5, BECOMES, 0), 0);
    }

    static void p16_bill_number9() {
        due("nothing", billOf(BECOMES, 5, NOTHING, 9), 5);
        due("9 more", billOf(BECOMES, 5, MORE, 9), 14);
        due("9 less", billOf(MORE, 5, MORE, 5, LESS, 9), 1);
        due("times 9", billOf(BECOMES, 5, TIMES, 9), 45);
        due("becomes 9", billOf(BECOMES, 5, BECOMES, 9), 9);
    }

    static void p16_bill_goesFromBelow() {
        due("2 more, times 3", billOf(MORE, 2, TIMES, 3), 6);
        due("times 3, 2 more", billOf(TIMES, 3, MORE, 2), 2);
    }

    static void p16_bill_ofAllSeven() {
        due("seven", billOf(MORE, 1, MORE, 1, MORE, 1, MORE, 1, MORE, 1, MORE, 1, MORE, 1), 7);
        due("the lowest counts", billOf(BECOMES, 7, TIMES, 1, TIMES, 1, TIMES, 1, TIMES, 1, TIMES, 1, TIMES, 1), 7);
        due("the topmost counts", billOf(MORE, 1, MORE, 1, MORE, 1, MORE, 1, MORE, 1, MORE, 1, BECOMES, 0), 0);
    }

    static void p16_bill_ofWhoDoesNotStandCountsNothing() {
        TopSpeaks x = easy(2);
        x.speech(1, MORE, 9);
        x.rise(0);
        due("bill()", x.bill(), 0);
    }
}
