/** The boundaries of promises 1 to 6: a new object, and the texts. */
public final class TextsEdgesTest extends Edges {
    private static final String TEN_PAIRS = "01,02,03,04,05,06,10,12,13,14";
    private static final String THIRTY_TWO = "abcdefghijklmnopqrstuvwxyzABCDEF";

    public static void main(String[] args) throws Exception {
        runAll(TextsEdgesTest.class, 1, 6);
    }

    // ---- 1 a new object

    static void p01_new_noMembers() {
        TopSpeaks x = new TopSpeaks();
        due("count(0)", x.count(0), 0);
        due("about(0, 0)", x.about(0, 0), UNKNOWN);
        due("may(0)", x.may(0), UNKNOWN);
        due("the first to come", x.member(0, 1, 0, 0, 0), 0);
    }

    static void p01_new_anEmptyTower() {
        TopSpeaks x = new TopSpeaks();
        due("count(1)", x.count(1), 0);
        due("at(1)", x.at(1), UNKNOWN);
        due("bill()", x.bill(), 0);
        due("changed()", x.changed(), NONE);
        due("down()", x.down(), 0);
    }

    static void p01_new_nobodyReplies() {
        TopSpeaks x = new TopSpeaks();
        int told = 0;
        for (int a = 0; a <= 6; a++) {
            for (int b = 0; b <= 6; b++) {
                told += x.replies(a, b);
            }
        }
        due("replies()", told, 0);
        due("count(2)", x.count(2), 0);
    }

    static void p01_new_nobodyRepliesSoAllMayRise() {
        TopSpeaks x = easy(7);
        for (int one = 0; one < 7; one++) {
            due("may(" + one + ")", x.may(one), 1);
        }
    }

    static void p01_new_limitIs3() {
        due("count(3)", new TopSpeaks().count(3), 3);
    }

    static void p01_new_aLeanOf3Holds() {
        TopSpeaks x = house(one(PLAIN, 1, 3, 0));
        due("rise(0)", x.rise(0), 1);
    }

    static void p01_new_aLeanOf4DoesNotHold() {
        TopSpeaks x = house(one(PLAIN, 1, 3, 99), one(PLAIN, 1, 1, 99));
        due("rise(0) and rise(1)", allRise(x, 0, 1), 0);
    }

    static void p01_new_thePageIsEmpty() {
        TopSpeaks x = new TopSpeaks();
        due("count(4)", x.count(4), 0);
        due("fault(0)", x.fault(0), 0);
        due("blank()", x.blank(), 0);
    }

    static void p01_new_nothingWasDoneOrKept() {
        TopSpeaks x = new TopSpeaks();
        due("count(5)", x.count(5), 0);
        due("count(6)", x.count(6), 0);
        due("count(7)", x.count(7), 0);
        due("restore()", x.restore(), STATE);
    }

    static void p01_new_knowsNothingOfAnotherObject() {
        TopSpeaks x = easy(3);
        ruled(x, "01;7");
        page(x, "abc");
        x.rise(1);
        x.image();
        x.order(1, 0);
        x.midnight(1);
        long empty = new TopSpeaks().digest();
        TopSpeaks y = new TopSpeaks();
        due("digest()", y.digest(), empty);
        due("restore()", y.restore(), STATE);
        y.member(ELDER, 9, 3, 2, 5);
        y.rise(0);
        due("about(0, 0) of the first", x.about(0, 0), PLAIN);
        due("at(1) of the first", x.at(1), 1);
    }

    // ---- 2 letters

    static void p02_letters_aByteOf1IsALetter() {
        due("letters(1)", new TopSpeaks().letters(1), 1);
    }

    static void p02_letters_aByteOf126IsALetterAtEachPlace() {
        for (int place = 0; place < 8; place++) {
            TopSpeaks x = new TopSpeaks();
            due("126 at " + place, x.letters(withByte(packed("aaaaaaaa"), place, 126)), 8);
        }
    }

    static void p02_letters_aByteOf127IsOutsideAtEachPlace() {
        outsideAtEachPlace(127);
    }

    static void p02_letters_aByteOf128IsOutsideAtEachPlace() {
        outsideAtEachPlace(128);
    }

    static void p02_letters_aByteOf255IsOutsideAtEachPlace() {
        outsideAtEachPlace(255);
    }

    private static void outsideAtEachPlace(int code) {
        for (int place = 0; place < 8; place++) {
            TopSpeaks x = new TopSpeaks();
            long w = withByte(packed("aaaaaaaa"), place, code);
            refused(x, code + " at " + place, () -> x.letters(w), OUTSIDE);
            due("letters() behind it", x.letters('0'), 1);
            due("fault(1) behind it", x.fault(1), 1);
        }
    }

    private static long withByte(long w, int place, int code) {
        return w & ~(255L << 8 * place) | (long) code << 8 * place;
    }

    static void p02_letters_theGreatestAndTheLeastLongAreOutside() {
        TopSpeaks x = new TopSpeaks();
        refused(x, "letters(-1)", () -> x.letters(-1L), OUTSIDE);
        refused(x, "letters(the least)", () -> x.letters(Long.MIN_VALUE), OUTSIDE);
        refused(x, "letters(the greatest)", () -> x.letters(Long.MAX_VALUE), OUTSIDE);
    }

    static void p02_letters_noneComeOf0() {
        TopSpeaks x = new TopSpeaks();
        due("on an empty page", x.letters(0), 0);
        x.letters(packed("ab"));
        due("on a page of two", x.letters(0), 2);
    }

    static void p02_letters_oneToEightComeUntilThe0() {
        for (int many = 1; many <= 8; many++) {
            TopSpeaks x = new TopSpeaks();
            due(many + " letters", x.letters(packed("01234560".substring(0, many))), many);
        }
    }

    static void p02_letters_oneBehindA0IsOutside() {
        for (int place = 1; place < 8; place++) {
            TopSpeaks x = new TopSpeaks();
            long w = withByte(packed("aaaaaaaa"), place - 1, 0);
            refused(x, "0 at " + (place - 1), () -> x.letters(w), OUTSIDE);
        }
    }

    static void p02_letters_oneFarBehindA0IsOutside() {
        TopSpeaks x = new TopSpeaks();
        refused(x, "seven times 0, then a", () -> x.letters((long) 'a' << 56), OUTSIDE);
        refused(x, "a, six times 0, then a", () -> x.letters((long) 'a' << 56 | 'a'), OUTSIDE);
        refused(x, "0, then code 1", () -> x.letters(256), OUTSIDE);
    }

    static void p02_letters_theLowestByteComesFirst() {
        TopSpeaks x = new TopSpeaks();
        x.letters('0' | '1' << 8);
        due("rule()", x.rule(), 1);
        due("replies(0, 1)", x.replies(0, 1), 1);
        due("replies(1, 0)", x.replies(1, 0), 0);
    }

    static void p02_letters_comeBehindThoseOnThePage() {
        TopSpeaks x = new TopSpeaks();
        x.letters(packed("01,12,2"));
        due("how many", x.letters(packed("3;5")), 10);
        due("rule()", x.rule(), 3);
        due("replies(2, 3)", x.replies(2, 3), 1);
        due("limit", x.count(3), 5);
    }

    static void p02_letters_eightUpTo32() {
        TopSpeaks x = new TopSpeaks();
        page(x, THIRTY_TWO.substring(0, 24));
        due("24 and 8", x.letters(packed("abcdefgh")), 32);
    }

    static void p02_letters_eightAbove32AreFull() {
        TopSpeaks x = new TopSpeaks();
        page(x, THIRTY_TWO.substring(0, 25));
        refused(x, "25 and 8", () -> x.letters(packed("abcdefgh")), FULL);
        due("25 and 7", x.letters(packed("abcdefg")), 32);
    }

    static void p02_letters_the32ndComes() {
        TopSpeaks x = new TopSpeaks();
        page(x, THIRTY_TWO.substring(0, 31));
        due("31 and 1", x.letters('x'), 32);
    }

    static void p02_letters_the33rdIsFull() {
        TopSpeaks x = new TopSpeaks();
        page(x, THIRTY_TWO);
        refused(x, "32 and 1", () -> x.letters('x'), FULL);
        due("blank()", x.blank(), 32);
    }

    static void p02_letters_ofTwoNoneComesIfOneIsTooMany() {
        TopSpeaks x = new TopSpeaks();
        page(x, THIRTY_TWO.substring(0, 31));
        refused(x, "31 and 2", () -> x.letters(packed("xy")), FULL);
        due("31 and 1", x.letters('x'), 32);
    }

    static void p02_letters_noneComeOnAFullPage() {
        TopSpeaks x = new TopSpeaks();
        page(x, THIRTY_TWO);
        due("letters(0)", x.letters(0), 32);
    }

    static void p02_letters_outsideIsToldAheadOfFull() {
        TopSpeaks x = new TopSpeaks();
        page(x, THIRTY_TWO);
        refused(x, "byte 127", () -> x.letters(127), OUTSIDE);
        refused(x, "a letter behind 0", () -> x.letters('a' << 16 | 'a'), OUTSIDE);
        refused(x, "byte 127 as the eighth", () -> x.letters(withByte(packed("aaaaaaaa"), 7, 127)), OUTSIDE);
    }

    static void p02_letters_refusedLeaveTheTextAsItWas() {
        TopSpeaks x = new TopSpeaks();
        page(x, "01,12");
        x.letters(0x7f3b);
        x.letters(0x330033);
        due("rule()", x.rule(), 2);
        due("limit", x.count(3), 3);
    }

    // ---- 3 blank

    static void p03_blank_ofAnEmptyPage() {
        TopSpeaks x = new TopSpeaks();
        due("blank()", x.blank(), 0);
        due("again", x.blank(), 0);
    }

    static void p03_blank_ofOneLetter() {
        TopSpeaks x = new TopSpeaks();
        x.letters('0');
        due("blank()", x.blank(), 1);
        due("again", x.blank(), 0);
    }

    static void p03_blank_ofAFullPage() {
        TopSpeaks x = new TopSpeaks();
        page(x, THIRTY_TWO);
        due("blank()", x.blank(), 32);
        due("count(4)", x.count(4), 0);
        due("room for all again", Checks.write(x, THIRTY_TWO), 32);
    }

    static void p03_blank_oldLettersAreGone() {
        TopSpeaks x = easy(3);
        page(x, "012");
        x.blank();
        due("fault(1)", x.fault(1), 0);
        due("debate(0)", x.debate(0), STATE);
        x.letters('2');
        due("fault(0)", x.fault(0), 1);
        due("debate(0)", x.debate(0), 0);
    }

    static void p03_blank_changesNothingElse() {
        TopSpeaks x = easy(3);
        ruled(x, "01;4");
        x.rise(1);
        long before = x.digest();
        page(x, "01");
        x.blank();
        due("digest()", x.digest(), before);
    }

    // ---- 4 fault

    private static void faultIs(int sort, String text, int want) {
        TopSpeaks x = new TopSpeaks();
        page(x, text);
        due("fault(" + sort + ") of \"" + text + "\"", x.fault(sort), want);
        due("count(4) behind it", x.count(4), text.length());
    }

    static void p04_fault_sort0And1AreTaken() {
        TopSpeaks x = new TopSpeaks();
        taken("fault(0)", x.fault(0));
        taken("fault(1)", x.fault(1));
    }

    static void p04_fault_sortBelow0IsOutside() {
        TopSpeaks x = new TopSpeaks();
        page(x, "01");
        refused(x, "fault(-1)", () -> x.fault(-1), OUTSIDE);
        refused(x, "fault(LOW)", () -> x.fault(LOW), OUTSIDE);
        due("fault(0) behind them", x.fault(0), 2);
    }

    static void p04_fault_sortAbove1IsOutside() {
        TopSpeaks x = new TopSpeaks();
        page(x, "01");
        refused(x, "fault(2)", () -> x.fault(2), OUTSIDE);
        refused(x, "fault(HIGH)", () -> x.fault(HIGH), OUTSIDE);
        due("fault(1) behind them", x.fault(1), 2);
    }

    static void p04_fault_ofAnEmptyPageIs0() {
        faultIs(0, "", 0);
        faultIs(1, "", 0);
    }

    static void p04_fault_ruleBeginsWithADigit0To6() {
        for (char letter = '0'; letter <= '6'; letter++) {
            faultIs(0, String.valueOf(letter), 1);
        }
    }

    static void p04_fault_ruleBeginsWithNothingElse() {
        for (char letter : "/789:,; x~\u0001".toCharArray()) {
            faultIs(0, String.valueOf(letter), 0);
        }
    }

    static void p04_fault_ruleRepliedToIsADigit0To6() {
        for (char letter = '1'; letter <= '6'; letter++) {
            faultIs(0, "0" + letter, 2);
        }
        faultIs(0, "60", 2);
    }

    static void p04_fault_ruleRepliedToIsNothingElse() {
        for (char letter : "/789:,; ".toCharArray()) {
            faultIs(0, "0" + letter, 1);
        }
    }

    static void p04_fault_ruleDigitsOfAPairAreUnlike() {
        for (char letter = '0'; letter <= '6'; letter++) {
            faultIs(0, "" + letter + letter, 1);
        }
    }

    static void p04_fault_ruleBehindAPairAreAMarkOrTheEnd() {
        faultIs(0, "01", 2);
        faultIs(0, "01,", 3);
        faultIs(0, "01;", 3);
    }

    static void p04_fault_ruleBehindAPairIsNothingElse() {
        for (char letter : "012+-.:< ".toCharArray()) {
            faultIs(0, "01" + letter, 2);
        }
    }

    static void p04_fault_ruleBehindACommaIsADigitAlone() {
        faultIs(0, "01,6", 4);
        faultIs(0, "01,7", 3);
        faultIs(0, "01,,", 3);
        faultIs(0, "01,;", 3);
    }

    static void p04_fault_ruleNoPairTwice() {
        faultIs(0, "01,01", 4);
        faultIs(0, "12,20,12", 7);
        faultIs(0, "65,65", 4);
    }

    static void p04_fault_rulePairTurnedRoundIsAnother() {
        faultIs(0, "01,10", 5);
        faultIs(0, "65,56,01,10", 11);
    }

    static void p04_fault_ruleReplierStandsThoughAllHisPairsAreTold() {
        faultIs(0, "01,02,03,04,05,06,0", 19);
        faultIs(0, "60,61,62,63,64,65,6", 19);
    }

    static void p04_fault_ruleNoDigitBehindAReplierWhosePairsAreAllTold() {
        for (char letter = '0'; letter <= '6'; letter++) {
            faultIs(0, "01,02,03,04,05,06,0" + letter, 19);
        }
    }

    static void p04_fault_ruleLastPairOfAReplierStands() {
        faultIs(0, "01,02,03,04,05,06", 17);
        faultIs(0, "01,02,03,04,05,0", 16);
    }

    static void p04_fault_ruleTenPairs() {
        faultIs(0, TEN_PAIRS, 29);
        faultIs(0, TEN_PAIRS.substring(0, 27), 27);
    }

    static void p04_fault_ruleNoCommaBehindTenPairs() {
        faultIs(0, TEN_PAIRS + ",", 29);
        faultIs(0, TEN_PAIRS + ",15", 29);
    }

    static void p04_fault_ruleCommaBehindNinePairs() {
        faultIs(0, TEN_PAIRS.substring(0, 26) + ",", 27);
    }

    static void p04_fault_ruleLimitBehindTenPairs() {
        faultIs(0, TEN_PAIRS + ";", 30);
        faultIs(0, TEN_PAIRS + ";9", 31);
    }

    static void p04_fault_ruleLimitIs0To9() {
        for (char letter = '0'; letter <= '9'; letter++) {
            faultIs(0, "01;" + letter, 4);
        }
    }

    static void p04_fault_ruleLimitIsNothingElse() {
        for (char letter : "/:-,; ".toCharArray()) {
            faultIs(0, "01;" + letter, 3);
        }
    }

    static void p04_fault_ruleNothingBehindLimit() {
        for (char letter : "09,; ".toCharArray()) {
            faultIs(0, "01;3" + letter, 4);
        }
    }

    static void p04_fault_ruleOfAFullPage() {
        faultIs(0, TEN_PAIRS + ";55", 31);
        faultIs(0, TEN_PAIRS + ",56", 29);
    }

    static void p04_fault_tellsTheFirstOfSeveral() {
        faultIs(0, "0x,yy;z", 1);
        faultIs(1, "01x2yy", 2);
    }

    static void p04_fault_debateDigitsAre0To6() {
        for (char letter = '0'; letter <= '6'; letter++) {
            faultIs(1, String.valueOf(letter), 1);
        }
    }

    static void p04_fault_debateHasNothingElse() {
        for (char letter : "/789:,; x~\u0001".toCharArray()) {
            faultIs(1, String.valueOf(letter), 0);
            faultIs(1, "4" + letter, 1);
        }
    }

    static void p04_fault_debateOfSeven() {
        faultIs(1, "0123456", 7);
        faultIs(1, "6543210", 7);
        faultIs(1, "012345", 6);
    }

    static void p04_fault_debateOfEight() {
        for (char letter = '0'; letter <= '9'; letter++) {
            faultIs(1, "0123456" + letter, 7);
        }
    }

    static void p04_fault_debateDigitsAreUnlike() {
        faultIs(1, "00", 1);
        faultIs(1, "0120", 3);
        faultIs(1, "0121", 3);
        faultIs(1, "01234566", 7);
    }

    static void p04_fault_debateDoesNotAskWhetherTheMemberIsThere() {
        TopSpeaks x = easy(2);
        page(x, "0126");
        due("fault(1)", x.fault(1), 4);
        due("debate(0)", x.debate(0), STATE);
    }

    static void p04_fault_changesNothing() {
        TopSpeaks x = new TopSpeaks();
        page(x, "10;5");
        long before = x.digest();
        x.fault(0);
        x.fault(1);
        due("digest()", x.digest(), before);
        due("replies(1, 0)", x.replies(1, 0), 0);
        due("rule()", x.rule(), 1);
    }

    // ---- 5 rule

    private static void noRule(String text) {
        TopSpeaks x = easy(3);
        ruled(x, "12,20;7");
        page(x, text);
        refused(x, "rule() of \"" + text + "\"", x::rule, STATE);
        due("replies(1, 2) behind it", x.replies(1, 2), 1);
        due("blank() behind it", x.blank(), text.length());
    }

    static void p05_rule_ofAnEmptyPageIsNone() {
        noRule("");
    }

    static void p05_rule_ofNoPairIsNone() {
        noRule(";3");
        noRule(",");
        noRule("3");
    }

    static void p05_rule_ofOnePair() {
        TopSpeaks x = new TopSpeaks();
        due("rule()", ruled(x, "06"), 1);
        due("replies(0, 6)", x.replies(0, 6), 1);
        due("count(2)", x.count(2), 1);
    }

    static void p05_rule_ofTenPairs() {
        TopSpeaks x = new TopSpeaks();
        due("rule()", ruled(x, TEN_PAIRS), 10);
        due("replies(0, 1)", x.replies(0, 1), 1);
        due("replies(1, 4)", x.replies(1, 4), 1);
        due("count(2)", x.count(2), 10);
    }

    static void p05_rule_ofElevenPairsIsNone() {
        noRule(TEN_PAIRS + ",15");
    }

    static void p05_rule_thatEndsTooEarlyIsNone() {
        noRule("0");
        noRule("01,");
        noRule("01,2");
        noRule("01;");
        noRule("01,02,03,04,05,06,0");
    }

    static void p05_rule_withAFaultIsNone() {
        noRule("00");
        noRule("07");
        noRule("70");
        noRule("01,01");
        noRule("01 12");
        noRule("012");
        noRule(" 01");
        noRule("01 ");
    }

    static void p05_rule_withMoreBehindLimitIsNone() {
        noRule("01;33");
        noRule("01;3;3");
        noRule("01;3,12");
    }

    static void p05_rule_limit0And9() {
        TopSpeaks x = new TopSpeaks();
        ruled(x, "01;0");
        due("limit", x.count(3), 0);
        ruled(x, "01;9");
        due("limit", x.count(3), 9);
    }

    static void p05_rule_limitIs3IfItIsNotTold() {
        TopSpeaks x = new TopSpeaks();
        ruled(x, "01;9");
        ruled(x, "01");
        due("limit", x.count(3), 3);
    }

    static void p05_rule_limitBehindTenPairs() {
        TopSpeaks x = new TopSpeaks();
        due("rule()", ruled(x, TEN_PAIRS + ";8"), 10);
        due("limit", x.count(3), 8);
    }

    static void p05_rule_anotherOneIsGone() {
        TopSpeaks x = new TopSpeaks();
        ruled(x, TEN_PAIRS);
        due("rule()", ruled(x, "65"), 1);
        due("replies(0, 1)", x.replies(0, 1), 0);
        due("replies(1, 4)", x.replies(1, 4), 0);
        due("replies(6, 5)", x.replies(6, 5), 1);
        due("count(2)", x.count(2), 1);
    }

    static void p05_rule_thePageIsEmptyThen() {
        TopSpeaks x = new TopSpeaks();
        ruled(x, "01");
        due("count(4)", x.count(4), 0);
        due("blank()", x.blank(), 0);
        due("once more", x.rule(), STATE);
        due("replies(0, 1)", x.replies(0, 1), 1);
    }

    static void p05_rule_ofMembersWhoAreNotThere() {
        TopSpeaks x = new TopSpeaks();
        due("rule()", ruled(x, "56,65"), 2);
    }

    static void p05_rule_leavesTheTowerAsItIs() {
        TopSpeaks x = house(one(PLAIN, 1, 3, 99), one(PLAIN, 1, 0, 99));
        allRise(x, 0, 1);
        ruled(x, "01;0");
        due("count(1)", x.count(1), 2);
        due("count(5)", x.count(5), 0);
        due("at(1)", x.at(1), 0);
    }

    // ---- 6 replies

    static void p06_replies_aFrom0To6() {
        TopSpeaks x = new TopSpeaks();
        ruled(x, "06,60");
        due("replies(0, 6)", x.replies(0, 6), 1);
        due("replies(6, 0)", x.replies(6, 0), 1);
    }

    static void p06_replies_aIsUnknownOutside0To6() {
        TopSpeaks x = new TopSpeaks();
        for (int a : new int[] {-1, 7, LOW, HIGH}) {
            refused(x, "replies(" + a + ", 0)", () -> x.replies(a, 0), UNKNOWN);
        }
    }

    static void p06_replies_bIsUnknownOutside0To6() {
        TopSpeaks x = new TopSpeaks();
        for (int b : new int[] {-1, 7, LOW, HIGH}) {
            refused(x, "replies(0, " + b + ")", () -> x.replies(0, b), UNKNOWN);
        }
    }

    static void p06_replies_bothUnknown() {
        TopSpeaks x = new TopSpeaks();
        refused(x, "replies(-1, 7)", () -> x.replies(-1, 7), UNKNOWN);
    }

    static void p06_replies_theOrderOfAPairCounts() {
        TopSpeaks x = new TopSpeaks();
        ruled(x, "25");
        due("replies(2, 5)", x.replies(2, 5), 1);
        due("replies(5, 2)", x.replies(5, 2), 0);
        due("replies(2, 4)", x.replies(2, 4), 0);
        due("replies(3, 5)", x.replies(3, 5), 0);
    }

    static void p06_replies_nobodyToHimself() {
        TopSpeaks x = new TopSpeaks();
        ruled(x, "01,10,12,21");
        for (int a = 0; a <= 6; a++) {
            due("replies(" + a + ", " + a + ")", x.replies(a, a), 0);
        }
    }
}
