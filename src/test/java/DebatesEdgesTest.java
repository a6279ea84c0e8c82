import java.util.function.ToIntFunction;

/** The boundaries of promises 17 to 19: debates. */
public final class DebatesEdgesTest extends Edges {
    public static void main(String[] args) throws Exception {
        runAll(DebatesEdgesTest.class, 17, 19);
    }

    private static void debateIs(TopSpeaks x, String text, int fell, int bill) {
        page(x, text);
        due("debate(0) of " + text, x.debate(0), fell);
        due("debate(1) of " + text, x.debate(1), bill);
    }

    /** What is no DEBATE, or not one of the three members 0 to 2, is STATE. */
    private static void stateOf(String text, ToIntFunction<TopSpeaks> call) {
        TopSpeaks x = easy(3);
        page(x, text);
        refused(x, "on \"" + text + "\"", () -> call.applyAsInt(x), STATE);
        due("blank() behind it", x.blank(), text.length());
    }

    private static void stateOnNoDebate(ToIntFunction<TopSpeaks> call) {
        for (String none : new String[] {"00", "010", "0,1", "01,", "01;3", "01 ", " 01", "7", "9", "x"}) {
            stateOf(none, call);
        }
    }

    private static void stateOnTooMany(ToIntFunction<TopSpeaks> call) {
        TopSpeaks x = easy(7);
        page(x, "01234560");
        refused(x, "on eight", () -> call.applyAsInt(x), STATE);
        page(x, "01234567");
        refused(x, "on eight", () -> call.applyAsInt(x), STATE);
        page(x, "0123456");
        taken("on seven", call.applyAsInt(x));
    }

    /** With one member more than the call before, who alone is told on the page. */
    private static void stateWithoutTheMember(ToIntFunction<TopSpeaks> call) {
        TopSpeaks x = new TopSpeaks();
        for (int number = 0; number <= 6; number++) {
            page(x, String.valueOf(number));
            refused(x, "before " + number + " comes", () -> call.applyAsInt(x), STATE);
            x.member(PLAIN, 1, 0, 0, 99);
            taken("when " + number + " is there", call.applyAsInt(x));
        }
    }

    private static void stateWithOneNotThere(ToIntFunction<TopSpeaks> call) {
        stateOf("3", call);
        stateOf("30", call);
        stateOf("0123", call);
        stateOf("6012", call);
    }

    /** It is asked of an empty tower, as it would be, and leaves the page and the tower. */
    private static void leavesAll(ToIntFunction<TopSpeaks> call) {
        TopSpeaks x = house(one(PLAIN, 1, 0, 0), one(PLAIN, 1, 0, 9), one(PLAIN, 1, 3, 0));
        allRise(x, 1, 0);
        page(x, "201");
        long before = x.digest();
        int first = call.applyAsInt(x);
        due("digest()", x.digest(), before);
        due("the same again", call.applyAsInt(x), first);
        due("blank()", x.blank(), 3);
        due("at(2)", x.at(2), 0);
        due("bruises", x.about(0, 8) + x.about(1, 8) + x.about(2, 8), 0);
    }

    // ---- 17 debate

    static void p17_debate_what0And1() {
        TopSpeaks x = easy(1);
        page(x, "0");
        taken("debate(0)", x.debate(0));
        taken("debate(1)", x.debate(1));
    }

    static void p17_debate_whatBelow0IsOutside() {
        TopSpeaks x = easy(1);
        page(x, "0");
        refused(x, "debate(-1)", () -> x.debate(-1), OUTSIDE);
        refused(x, "debate(LOW)", () -> x.debate(LOW), OUTSIDE);
    }

    static void p17_debate_whatAbove1IsOutside() {
        TopSpeaks x = easy(1);
        page(x, "0");
        refused(x, "debate(2)", () -> x.debate(2), OUTSIDE);
        refused(x, "debate(HIGH)", () -> x.debate(HIGH), OUTSIDE);
    }

    static void p17_debate_outsideIsToldAheadOfState() {
        TopSpeaks x = easy(1);
        refused(x, "debate(2) on an empty page", () -> x.debate(2), OUTSIDE);
        refused(x, "debate(-1) on an empty page", () -> x.debate(-1), OUTSIDE);
        page(x, "5");
        refused(x, "debate(2) of nobody", () -> x.debate(2), OUTSIDE);
    }

    static void p17_debate_onAnEmptyPageIsState() {
        stateOf("", x -> x.debate(0));
        stateOf("", x -> x.debate(1));
    }

    static void p17_debate_onNoDebateIsState() {
        stateOnNoDebate(x -> x.debate(0));
        stateOnNoDebate(x -> x.debate(1));
    }

    static void p17_debate_ofSevenNotOfEight() {
        stateOnTooMany(x -> x.debate(0));
        stateOnTooMany(x -> x.debate(1));
    }

    static void p17_debate_withoutTheMemberIsState() {
        stateWithoutTheMember(x -> x.debate(0));
        stateWithoutTheMember(x -> x.debate(1));
    }

    static void p17_debate_withOneWhoIsNotThereIsState() {
        stateWithOneNotThere(x -> x.debate(0));
        stateWithOneNotThere(x -> x.debate(1));
    }

    static void p17_debate_leavesThePageAndTheTower() {
        leavesAll(x -> x.debate(0));
        leavesAll(x -> x.debate(1));
    }

    static void p17_debate_thatDoesNotFallIs0() {
        TopSpeaks x = easy(7);
        x.speech(6, MORE, 4);
        debateIs(x, "0", 0, 0);
        debateIs(x, "0123456", 0, 4);
    }

    static void p17_debate_fallsAtTheFirst() {
        TopSpeaks x = house(one(PLAIN, 1, 3, 99), one(PLAIN, 1, 0, 99));
        x.speech(0, BECOMES, 9);
        x.speech(1, BECOMES, 8);
        ruled(x, "56;2");
        debateIs(x, "0", 1, 0);
        debateIs(x, "01", 1, 0);
        debateIs(x, "10", 2, 0);
    }

    static void p17_debate_fallsAtTheSeventh() {
        TopSpeaks x = easy(7);
        x.speech(6, BECOMES, 9);
        x.chair(0, 11);
        debateIs(x, "0123456", 7, 0);
        x.chair(0, 12);
        debateIs(x, "0123456", 0, 9);
    }

    static void p17_debate_theLeansOfAllSevenCount() {
        debateIs(sevenLeaning(3, 0), "0123456", 0, 0);
        debateIs(sevenLeaning(3, 1), "0123456", 7, 0);
        debateIs(sevenLeaning(-3, -1), "0123456", 7, 0);
        debateIs(sevenLeaning(-3, 3), "0123456", 0, 0);
    }

    static void p17_debate_thosePassedOverCount() {
        TopSpeaks x = house(one(PLAIN, 1, 0, 0), one(PLAIN, 1, 0, 0), one(PLAIN, 1, 0, 0));
        debateIs(x, "02", 2, 0);
        ruled(x, "10");
        debateIs(x, "102", 3, 0);
        debateIs(x, "12", 0, 0);
    }

    static void p17_debate_whoIsPassedOverDoesNotSpeak() {
        TopSpeaks x = easy(3);
        x.speech(0, MORE, 1);
        x.speech(1, MORE, 2);
        x.speech(2, MORE, 4);
        ruled(x, "10");
        debateIs(x, "10", 0, 1);
        debateIs(x, "12", 0, 4);
        debateIs(x, "01", 0, 3);
        debateIs(x, "210", 0, 5);
    }

    static void p17_debate_inWhichAllArePassedOver() {
        TopSpeaks x = easy(3);
        x.speech(0, MORE, 1);
        ruled(x, "01,10");
        debateIs(x, "0", 0, 0);
        debateIs(x, "01", 0, 0);
    }

    static void p17_debate_whoIsPassedOverMakesNothingFall() {
        TopSpeaks x = house(one(PLAIN, 1, 0, 0), one(PLAIN, 1, 0, 0));
        x.speech(0, MORE, 5);
        ruled(x, "12");
        x.member(PLAIN, 1, 0, 0, 0);
        debateIs(x, "01", 0, 5);
    }

    static void p17_debate_goesOnTillItFalls() {
        TopSpeaks x = house(one(PLAIN, 1, 0, 0), one(PLAIN, 1, 0, 0), one(PLAIN, 1, 0, 0), one(PLAIN, 1, 0, 0));
        x.speech(2, BECOMES, 7);
        x.speech(3, MORE, 7);
        debateIs(x, "012", 2, 0);
        debateIs(x, "0123", 2, 0);
    }

    static void p17_debate_isHeldOnAnEmptyTower() {
        TopSpeaks x = house(one(PLAIN, 1, 0, 2), one(PLAIN, 1, 0, 0), one(PLAIN, 1, 0, 0));
        x.speech(0, MORE, 3);
        x.speech(1, MORE, 2);
        ruled(x, "20");
        allRise(x, 0);
        debateIs(x, "01", 0, 5);
        debateIs(x, "2", 0, 0);
        x.rise(2);
        debateIs(x, "01", 0, 5);
    }

    static void p17_debate_itsFallIsNotCounted() {
        TopSpeaks x = house(one(PLAIN, 1, 0, 0), one(PLAIN, 1, 0, 0));
        debateIs(x, "01", 2, 0);
        due("count(5)", x.count(5), 0);
        due("bruises", x.about(0, 8) + x.about(1, 8), 0);
    }

    static void p17_debate_billUpTo999() {
        TopSpeaks x = easy(5);
        x.speech(0, BECOMES, 9);
        x.speech(1, TIMES, 9);
        x.speech(2, TIMES, 9);
        x.speech(3, TIMES, 9);
        x.speech(4, LESS, 1);
        debateIs(x, "0123", 0, 999);
        debateIs(x, "01234", 0, 998);
        debateIs(x, "4", 0, 0);
    }

    // ---- 18 nails

    static void p18_nails_onAnEmptyPageIsState() {
        stateOf("", TopSpeaks::nails);
    }

    static void p18_nails_onNoDebateIsState() {
        stateOnNoDebate(TopSpeaks::nails);
    }

    static void p18_nails_ofSevenNotOfEight() {
        stateOnTooMany(TopSpeaks::nails);
    }

    static void p18_nails_withoutTheMemberIsState() {
        stateWithoutTheMember(TopSpeaks::nails);
    }

    static void p18_nails_withOneWhoIsNotThereIsState() {
        stateWithOneNotThere(TopSpeaks::nails);
    }

    static void p18_nails_leavesThePageAndTheTower() {
        leavesAll(TopSpeaks::nails);
    }

    private static void nailsAre(TopSpeaks x, String text, int want) {
        page(x, text);
        due("nails() of " + text, x.nails(), want);
    }

    /** Nails for a chair that bears so much more than it can: 19 are on it. */
    private static void nailsForTooMuch(int tooMuch, int want) {
        nailsAre(house(one(PLAIN, 1, 0, 19 - tooMuch), one(FAT, 9, 0, 99)), "01", want);
    }

    static void p18_nails_noneForOneAlone() {
        nailsAre(house(one(PLAIN, 9, 3, 0)), "0", 0);
    }

    static void p18_nails_noneIfTheChairBearsJustAsMuchAsItCan() {
        nailsForTooMuch(0, 0);
    }

    static void p18_nails_oneFor1To9TooMuch() {
        nailsForTooMuch(1, 1);
        nailsForTooMuch(8, 1);
        nailsForTooMuch(9, 1);
    }

    static void p18_nails_twoFor10To18TooMuch() {
        nailsForTooMuch(10, 2);
        nailsForTooMuch(17, 2);
        nailsForTooMuch(18, 2);
    }

    static void p18_nails_threeFor19TooMuch() {
        nailsForTooMuch(19, 3);
    }

    static void p18_nails_eachChairHasItsOwn() {
        TopSpeaks x = house(one(PLAIN, 1, 0, 3), one(PLAIN, 1, 0, 1), one(PLAIN, 1, 0, 0));
        nailsAre(x, "012", 2);
        x.chair(1, 2);
        nailsAre(x, "012", 1);
        x.chair(0, 4);
        nailsAre(x, "012", 0);
    }

    static void p18_nails_theChairOfAFatOneBearsHalfRoundedUp() {
        TopSpeaks x = house(one(FAT, 1, 0, 0), one(FAT, 9, 0, 99), one(PLAIN, 8, 0, 99));
        nailsAre(x, "01", 2);
        nailsAre(x, "02", 1);
        x.chair(0, 1);
        nailsAre(x, "01", 1);
    }

    static void p18_nails_theChairOfAJoinerAndAnElderBears10More() {
        for (int kind : new int[] {JOINER, ELDER}) {
            TopSpeaks x = house(one(kind, 1, 0, 0), one(FAT, 9, 0, 99));
            nailsAre(x, "01", 1);
            x.chair(0, 9);
            nailsAre(x, "01", 0);
        }
    }

    static void p18_nails_forSeven() {
        TopSpeaks x = easy(7);
        for (int one = 0; one < 7; one++) {
            x.chair(one, 0);
        }
        nailsAre(x, "0123456", 2 + 2 + 1 + 1 + 1 + 1);
    }

    static void p18_nails_forTheHeaviestSeven() {
        TopSpeaks x = new TopSpeaks();
        for (int one = 0; one < 7; one++) {
            x.member(one == 0 ? PLAIN : FAT, 9, 0, 0, 0);
        }
        // 114 on the lowest, then half of 95, 76, 57, 38, 19
        nailsAre(x, "0123456", 13 + 6 + 5 + 4 + 3 + 2);
    }

    static void p18_nails_leansAtTheLimit() {
        nailsAre(house(one(PLAIN, 1, 3, 0), one(PLAIN, 1, 0, 0)), "01", 1);
        nailsAre(house(one(PLAIN, 1, -3, 0), one(PLAIN, 1, 0, 0)), "01", 1);
    }

    static void p18_nails_noneIfItLeansTooMuch() {
        nailsAre(house(one(PLAIN, 1, 3, 0), one(PLAIN, 1, 1, 0)), "01", NONE);
        nailsAre(house(one(PLAIN, 1, -3, 0), one(PLAIN, 1, -1, 0)), "01", NONE);
        nailsAre(house(one(PLAIN, 1, 3, 99), one(PLAIN, 1, 1, 99)), "01", NONE);
    }

    static void p18_nails_noneIfItLeansUnderLimit0() {
        TopSpeaks x = house(one(PLAIN, 1, 1, 0), one(PLAIN, 1, -1, 0), one(STEADY, 1, 3, 0));
        ruled(x, "56;0");
        nailsAre(x, "0", NONE);
        nailsAre(x, "1", NONE);
        nailsAre(x, "01", 1);
        nailsAre(x, "2", 0);
    }

    /** Seven who lean so much in all, the first and the last of the row told. */
    private static TopSpeaks sevenLeaning(int first, int last) {
        TopSpeaks x = new TopSpeaks();
        for (int one = 0; one < 7; one++) {
            x.member(PLAIN, 1, one == 0 ? first : one == 6 ? last : 0, 0, 99);
        }
        return x;
    }

    static void p18_nails_theLeansOfAllSevenCount() {
        nailsAre(sevenLeaning(3, 0), "0123456", 0);
        nailsAre(sevenLeaning(3, 1), "0123456", NONE);
        nailsAre(sevenLeaning(1, 3), "0123456", NONE);
        nailsAre(sevenLeaning(-3, -1), "0123456", NONE);
        nailsAre(sevenLeaning(-3, 3), "0123456", 0);
    }

    static void p18_nails_allOnOneAnotherWhoeverTheyWouldReplyTo() {
        TopSpeaks x = house(one(PLAIN, 1, 0, 0), one(PLAIN, 1, 0, 0));
        ruled(x, "01,10");
        nailsAre(x, "01", 1);
        nailsAre(x, "10", 1);
    }

    static void p18_nails_whoeverStandsNow() {
        TopSpeaks x = house(one(PLAIN, 1, 0, 0), one(PLAIN, 1, 0, 0), one(PLAIN, 9, 0, 99));
        allRise(x, 2, 0);
        nailsAre(x, "01", 1);
        nailsAre(x, "21", 0);
    }

    // ---- 19 shook

    static void p19_shook_onAnEmptyPageIsState() {
        stateOf("", TopSpeaks::shook);
    }

    static void p19_shook_onNoDebateIsState() {
        stateOnNoDebate(TopSpeaks::shook);
    }

    static void p19_shook_ofSevenNotOfEight() {
        stateOnTooMany(TopSpeaks::shook);
    }

    static void p19_shook_withoutTheMemberIsState() {
        stateWithoutTheMember(TopSpeaks::shook);
    }

    static void p19_shook_withOneWhoIsNotThereIsState() {
        stateWithOneNotThere(TopSpeaks::shook);
    }

    static void p19_shook_leavesThePageAndTheTower() {
        leavesAll(TopSpeaks::shook);
    }

    private static void shookBy(TopSpeaks x, String text, int want) {
        page(x, text);
        due("shook() of " + text, x.shook(), want);
    }

    static void p19_shook_noneIfTheRowHolds() {
        TopSpeaks x = house(one(PLAIN, 1, 0, 2), one(PLAIN, 1, 0, 0));
        shookBy(x, "0", 0);
        shookBy(x, "01", 0);
    }

    static void p19_shook_ifItJustDoesNotHold() {
        TopSpeaks x = house(one(PLAIN, 1, 0, 1), one(PLAIN, 1, 0, 0));
        shookBy(x, "01", 3);
    }

    static void p19_shook_oneAloneWhoLeansTooMuch() {
        TopSpeaks x = house(one(PLAIN, 1, 0, 0), one(PLAIN, 1, 3, 0));
        shookBy(x, "1", 0);
        ruled(x, "56;2");
        shookBy(x, "1", 2);
        shookBy(x, "0", 0);
    }

    static void p19_shook_someOfARow() {
        TopSpeaks x = house(one(PLAIN, 1, 0, 2), one(PLAIN, 1, 0, 99), one(PLAIN, 1, 0, 99), one(PLAIN, 2, 0, 99));
        // without 0, or without one of two above him
        shookBy(x, "012", 7);
        // without 1 the chair of 0 bears 3 still
        shookBy(x, "013", 1 + 8);
        shookBy(x, "120", 0);
    }

    static void p19_shook_nobodyIfTwoAreTooMany() {
        TopSpeaks x = house(one(PLAIN, 9, 0, 0), one(PLAIN, 9, 0, 0), one(PLAIN, 9, 0, 0));
        shookBy(x, "012", 0);
        shookBy(x, "01", 3);
    }

    static void p19_shook_byLeans() {
        TopSpeaks x = house(one(PLAIN, 1, 2, 99), one(PLAIN, 1, 2, 99), one(STEADY, 1, 3, 99), one(PLAIN, 1, -2, 99));
        shookBy(x, "01", 3);
        shookBy(x, "012", 3);
        shookBy(x, "013", 0);
    }

    static void p19_shook_withoutOneTheOthersMayLeanToo() {
        TopSpeaks x = house(one(PLAIN, 1, 3, 1), one(PLAIN, 1, 3, 99), one(PLAIN, 1, -3, 99));
        // without 1 the lowest bears too much still; without 2 they lean, too
        shookBy(x, "012", 1);
    }

    static void p19_shook_theSeventhBit() {
        TopSpeaks x = easy(7);
        x.chair(0, 11);
        shookBy(x, "0123456", 127);
        x.chair(0, 9);
        shookBy(x, "0123456", 1);
        x.chair(0, 99);
        x.chair(5, 1);
        shookBy(x, "0123456", 32 + 64);
    }

    static void p19_shook_theLeansOfAllSevenCount() {
        shookBy(sevenLeaning(3, 0), "0123456", 0);
        shookBy(sevenLeaning(3, 1), "0123456", 1 + 64);
        shookBy(sevenLeaning(-3, -1), "0123456", 1 + 64);
        shookBy(sevenLeaning(-3, 3), "0123456", 0);
    }

    static void p19_shook_bitsAreMembersNotPlaces() {
        TopSpeaks x = house(one(PLAIN, 1, 0, 99), one(PLAIN, 1, 0, 99), one(PLAIN, 9, 0, 0), one(PLAIN, 1, 0, 0));
        shookBy(x, "32", 12);
        shookBy(x, "23", 12);
    }

    static void p19_shook_allOnOneAnotherWhoeverTheyWouldReplyTo() {
        TopSpeaks x = house(one(PLAIN, 1, 0, 0), one(PLAIN, 1, 0, 0));
        ruled(x, "01,10");
        shookBy(x, "01", 3);
    }
}
