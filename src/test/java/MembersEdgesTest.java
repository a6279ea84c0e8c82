/** The boundaries of promises 7 to 11: the members. */
public final class MembersEdgesTest extends Edges {
    public static void main(String[] args) throws Exception {
        runAll(MembersEdgesTest.class, 7, 11);
    }

    // ---- 7 member

    private static void comes(int kind, int weight, int lean, int party, int chair) {
        TopSpeaks x = easy(2);
        String call = "member(" + kind + ", " + weight + ", " + lean + ", " + party + ", " + chair + ")";
        due(call, x.member(kind, weight, lean, party, chair), 2);
        int[] told = {kind, weight, lean, party, chair};
        for (int what = 0; what < told.length; what++) {
            due("about(2, " + what + ") behind " + call, x.about(2, what), told[what]);
        }
    }

    private static void outside(int kind, int weight, int lean, int party, int chair) {
        TopSpeaks x = easy(2);
        String call = "member(" + kind + ", " + weight + ", " + lean + ", " + party + ", " + chair + ")";
        refused(x, call, () -> x.member(kind, weight, lean, party, chair), OUTSIDE);
        due("about(2, 0) behind it", x.about(2, 0), UNKNOWN);
        due("the next one's number", x.member(0, 1, 0, 0, 0), 2);
    }

    static void p07_member_kind0() {
        comes(0, 5, 1, 1, 50);
    }

    static void p07_member_kind4() {
        comes(4, 5, 1, 1, 50);
    }

    static void p07_member_kindBelow0IsOutside() {
        outside(-1, 5, 1, 1, 50);
        outside(LOW, 5, 1, 1, 50);
    }

    static void p07_member_kindAbove4IsOutside() {
        outside(5, 5, 1, 1, 50);
        outside(HIGH, 5, 1, 1, 50);
    }

    static void p07_member_weight1() {
        comes(0, 1, 1, 1, 50);
    }

    static void p07_member_weight9() {
        comes(0, 9, 1, 1, 50);
    }

    static void p07_member_weightBelow1IsOutside() {
        outside(0, 0, 1, 1, 50);
        outside(0, -1, 1, 1, 50);
        outside(0, LOW, 1, 1, 50);
    }

    static void p07_member_weightAbove9IsOutside() {
        outside(0, 10, 1, 1, 50);
        outside(0, HIGH, 1, 1, 50);
    }

    static void p07_member_leanMinus3() {
        comes(0, 5, -3, 1, 50);
    }

    static void p07_member_lean3() {
        comes(0, 5, 3, 1, 50);
    }

    static void p07_member_leanBelowMinus3IsOutside() {
        outside(0, 5, -4, 1, 50);
        outside(0, 5, LOW, 1, 50);
    }

    static void p07_member_leanAbove3IsOutside() {
        outside(0, 5, 4, 1, 50);
        outside(0, 5, HIGH, 1, 50);
    }

    static void p07_member_party0() {
        comes(0, 5, 1, 0, 50);
    }

    static void p07_member_party2() {
        comes(0, 5, 1, 2, 50);
    }

    static void p07_member_partyBelow0IsOutside() {
        outside(0, 5, 1, -1, 50);
        outside(0, 5, 1, LOW, 50);
    }

    static void p07_member_partyAbove2IsOutside() {
        outside(0, 5, 1, 3, 50);
        outside(0, 5, 1, HIGH, 50);
    }

    static void p07_member_chair0() {
        comes(0, 5, 1, 1, 0);
    }

    static void p07_member_chair99() {
        comes(0, 5, 1, 1, 99);
    }

    static void p07_member_chairBelow0IsOutside() {
        outside(0, 5, 1, 1, -1);
        outside(0, 5, 1, 1, LOW);
    }

    static void p07_member_chairAbove99IsOutside() {
        outside(0, 5, 1, 1, 100);
        outside(0, 5, 1, 1, HIGH);
    }

    static void p07_member_theChairOfAJoinerIsNoStrongerThan99() {
        comes(JOINER, 5, 1, 1, 99);
        outside(JOINER, 5, 1, 1, 100);
    }

    static void p07_member_allAtTheLeast() {
        comes(0, 1, -3, 0, 0);
    }

    static void p07_member_allAtTheMost() {
        comes(4, 9, 3, 2, 99);
    }

    static void p07_member_theirNumbersAre0To6() {
        TopSpeaks x = new TopSpeaks();
        for (int number = 0; number <= 6; number++) {
            due("member()", x.member(0, 1, 0, 0, 0), number);
            due("count(0)", x.count(0), number + 1);
        }
    }

    static void p07_member_theSeventhComes() {
        TopSpeaks x = easy(6);
        due("member()", x.member(4, 9, 3, 2, 99), 6);
        due("may(6)", x.may(6), 1);
    }

    static void p07_member_theEighthIsFull() {
        TopSpeaks x = easy(7);
        refused(x, "member()", () -> x.member(4, 9, 3, 2, 50), FULL);
        due("may(7) behind it", x.may(7), UNKNOWN);
        due("about(6, 0) behind it", x.about(6, 0), PLAIN);
        due("about(0, 4) behind it", x.about(0, 4), 99);
    }

    static void p07_member_outsideIsToldAheadOfFull() {
        TopSpeaks x = easy(7);
        refused(x, "kind", () -> x.member(5, 1, 0, 0, 0), OUTSIDE);
        refused(x, "weight", () -> x.member(0, 10, 0, 0, 0), OUTSIDE);
        refused(x, "lean", () -> x.member(0, 1, 4, 0, 0), OUTSIDE);
        refused(x, "party", () -> x.member(0, 1, 0, 3, 0), OUTSIDE);
        refused(x, "chair", () -> x.member(0, 1, 0, 0, 100), OUTSIDE);
    }

    static void p07_member_saysNothingAtFirst() {
        TopSpeaks x = new TopSpeaks();
        x.member(0, 1, 0, 0, 0);
        due("sort", x.about(0, 5), NOTHING);
        due("number", x.about(0, 6), 0);
        due("rise(0)", x.rise(0), 1);
        due("bill()", x.bill(), 0);
    }

    static void p07_member_isUnhurtAndDoesNotStandAtFirst() {
        TopSpeaks x = new TopSpeaks();
        x.member(0, 1, 0, 0, 0);
        due("how high", x.about(0, 7), 0);
        due("bruises", x.about(0, 8), 0);
    }

    static void p07_member_comesWhileOthersStand() {
        TopSpeaks x = easy(2);
        allRise(x, 0, 1);
        due("member()", x.member(0, 1, 0, 0, 0), 2);
        due("count(1)", x.count(1), 2);
        due("about(2, 7)", x.about(2, 7), 0);
    }

    // ---- 8 speech

    static void p08_speech_ofTheFirstAndTheLastMember() {
        TopSpeaks x = easy(3);
        due("speech(0, ..)", x.speech(0, 1, 1), NOTHING);
        due("speech(2, ..)", x.speech(2, 1, 1), NOTHING);
    }

    static void p08_speech_ofNobodyIsUnknown() {
        TopSpeaks x = easy(3);
        for (int nobody : new int[] {-1, 3, 6, 7, LOW, HIGH}) {
            refused(x, "speech(" + nobody + ", 1, 1)", () -> x.speech(nobody, 1, 1), UNKNOWN);
        }
    }

    static void p08_speech_ofNobodyAtAllIsUnknown() {
        TopSpeaks x = new TopSpeaks();
        refused(x, "speech(0, 1, 1)", () -> x.speech(0, 1, 1), UNKNOWN);
    }

    static void p08_speech_sort0And4() {
        TopSpeaks x = easy(1);
        taken("sort 4", x.speech(0, 4, 5));
        due("sort", x.about(0, 5), 4);
        taken("sort 0", x.speech(0, 0, 5));
        due("sort", x.about(0, 5), 0);
    }

    static void p08_speech_sortBelow0IsOutside() {
        outsideSpeech(-1, 5);
        outsideSpeech(LOW, 5);
    }

    static void p08_speech_sortAbove4IsOutside() {
        outsideSpeech(5, 5);
        outsideSpeech(HIGH, 5);
    }

    static void p08_speech_number0And9() {
        TopSpeaks x = easy(1);
        taken("number 9", x.speech(0, 1, 9));
        due("number", x.about(0, 6), 9);
        taken("number 0", x.speech(0, 1, 0));
        due("number", x.about(0, 6), 0);
    }

    static void p08_speech_numberBelow0IsOutside() {
        outsideSpeech(2, -1);
        outsideSpeech(2, LOW);
    }

    static void p08_speech_numberAbove9IsOutside() {
        outsideSpeech(2, 10);
        outsideSpeech(2, HIGH);
    }

    private static void outsideSpeech(int sort, int number) {
        TopSpeaks x = easy(1);
        x.speech(0, 3, 7);
        refused(x, "speech(0, " + sort + ", " + number + ")", () -> x.speech(0, sort, number), OUTSIDE);
        due("sort behind it", x.about(0, 5), 3);
        due("number behind it", x.about(0, 6), 7);
    }

    static void p08_speech_unknownIsToldAheadOfOutside() {
        TopSpeaks x = easy(1);
        refused(x, "speech(1, 5, 10)", () -> x.speech(1, 5, 10), UNKNOWN);
        refused(x, "speech(-1, -1, -1)", () -> x.speech(-1, -1, -1), UNKNOWN);
    }

    static void p08_speech_answersTheSortSoFar() {
        TopSpeaks x = easy(1);
        due("the first", x.speech(0, 4, 9), 0);
        due("the next", x.speech(0, 1, 8), 4);
        due("the same", x.speech(0, 1, 8), 1);
    }

    static void p08_speech_ofWhoStandsChangesTheBill() {
        TopSpeaks x = easy(2);
        allRise(x, 0, 1);
        x.speech(0, MORE, 9);
        due("bill()", x.bill(), 9);
        x.speech(1, LESS, 9);
        due("bill()", x.bill(), 0);
    }

    // ---- 9 about

    static void p09_about_theFirstAndTheLastMember() {
        TopSpeaks x = house(one(PLAIN, 3, 0, 0), one(PLAIN, 4, 0, 0), one(PLAIN, 5, 0, 0));
        due("about(0, 1)", x.about(0, 1), 3);
        due("about(2, 1)", x.about(2, 1), 5);
    }

    static void p09_about_nobodyIsUnknown() {
        TopSpeaks x = easy(3);
        for (int nobody : new int[] {-1, 3, 6, 7, LOW, HIGH}) {
            refused(x, "about(" + nobody + ", 0)", () -> x.about(nobody, 0), UNKNOWN);
        }
    }

    static void p09_about_theSeventhIsKnownTheEighthNot() {
        TopSpeaks x = easy(7);
        due("about(6, 1)", x.about(6, 1), 1);
        refused(x, "about(7, 1)", () -> x.about(7, 1), UNKNOWN);
    }

    static void p09_about_what0And11() {
        TopSpeaks x = easy(1);
        taken("about(0, 0)", x.about(0, 0));
        taken("about(0, 11)", x.about(0, 11));
    }

    static void p09_about_whatBelow0IsOutside() {
        TopSpeaks x = easy(1);
        refused(x, "about(0, -1)", () -> x.about(0, -1), OUTSIDE);
        refused(x, "about(0, LOW)", () -> x.about(0, LOW), OUTSIDE);
    }

    static void p09_about_whatAbove11IsOutside() {
        TopSpeaks x = easy(1);
        refused(x, "about(0, 12)", () -> x.about(0, 12), OUTSIDE);
        refused(x, "about(0, HIGH)", () -> x.about(0, HIGH), OUTSIDE);
    }

    static void p09_about_unknownIsToldAheadOfOutside() {
        TopSpeaks x = easy(1);
        refused(x, "about(1, 12)", () -> x.about(1, 12), UNKNOWN);
        refused(x, "about(-1, -1)", () -> x.about(-1, -1), UNKNOWN);
    }

    static void p09_about_howHighIs0ForWhoDoesNotStand() {
        TopSpeaks x = easy(3);
        due("on an empty tower", x.about(1, 7), 0);
        allRise(x, 2, 0);
        due("below others", x.about(1, 7), 0);
        x.down();
        due("who came down", x.about(2, 7), 0);
    }

    static void p09_about_howHighIs1To7() {
        TopSpeaks x = easy(7);
        for (int one = 6; one >= 0; one--) {
            x.rise(one);
            due("about(" + one + ", 7)", x.about(one, 7), 7 - one);
        }
        due("the lowest behind all", x.about(6, 7), 1);
    }

    static void p09_about_bruisesAre0Then1Then2() {
        TopSpeaks x = house(one(PLAIN, 1, 0, 0), one(PLAIN, 1, 0, 0));
        due("at first", x.about(0, 8), 0);
        allRise(x, 0, 1);
        due("once", x.about(0, 8), 1);
        allRise(x, 1, 0);
        due("twice", x.about(0, 8), 2);
        due("the other", x.about(1, 8), 2);
    }

    static void p09_about_aFatOneWeighsTwiceHisWeight() {
        TopSpeaks x = house(one(FAT, 1, 0, 0), one(FAT, 9, 0, 0));
        due("about(0, 9)", x.about(0, 9), 2);
        due("about(1, 9)", x.about(1, 9), 18);
        due("his WEIGHT stays", x.about(1, 1), 9);
    }

    static void p09_about_allOthersWeighTheirWeight() {
        for (int kind : new int[] {PLAIN, JOINER, STEADY, ELDER}) {
            TopSpeaks x = house(one(kind, 1, 0, 0), one(kind, 9, 0, 0));
            due("kind " + kind, x.about(0, 9), 1);
            due("kind " + kind, x.about(1, 9), 9);
        }
    }

    static void p09_about_theChairOfAJoinerAndAnElderBears10More() {
        for (int kind : new int[] {JOINER, ELDER}) {
            TopSpeaks x = house(one(kind, 1, 0, 0), one(kind, 1, 0, 99));
            due("kind " + kind, x.about(0, 10), 10);
            due("kind " + kind, x.about(1, 10), 109);
            due("its STRENGTH stays", x.about(1, 4), 99);
        }
    }

    static void p09_about_theChairOfOthersBearsItsStrength() {
        for (int kind : new int[] {PLAIN, FAT, STEADY}) {
            TopSpeaks x = house(one(kind, 1, 0, 0), one(kind, 1, 0, 99));
            due("kind " + kind, x.about(0, 10), 0);
            due("kind " + kind, x.about(1, 10), 99);
        }
    }

    static void p09_about_theLoadIs0ForWhoDoesNotStand() {
        TopSpeaks x = easy(3);
        allRise(x, 0, 1);
        due("about(2, 11)", x.about(2, 11), 0);
        x.down();
        due("about(0, 11)", x.about(0, 11), 0);
    }

    static void p09_about_theTopmostChairBearsNothing() {
        TopSpeaks x = easy(2);
        x.rise(0);
        due("alone", x.about(0, 11), 0);
        x.rise(1);
        due("above another", x.about(1, 11), 0);
    }

    static void p09_about_eachChairAboveIs1More() {
        TopSpeaks x = easy(7);
        allRise(x, 0, 1, 2, 3, 4, 5, 6);
        for (int one = 0; one < 7; one++) {
            due("about(" + one + ", 11)", x.about(one, 11), 2 * (6 - one));
        }
    }

    static void p09_about_theChairOfAFatOneBearsHalfRoundedUp() {
        for (int weight = 1; weight <= 9; weight++) {
            TopSpeaks x = house(one(FAT, 1, 0, 99), one(PLAIN, weight, 0, 0));
            allRise(x, 0, 1);
            due("weight " + weight + " and a chair", x.about(0, 11), weight / 2 + 1);
        }
    }

    static void p09_about_theHalfIsOfAllTogether() {
        TopSpeaks x = house(one(FAT, 1, 0, 99), one(PLAIN, 2, 0, 99), one(PLAIN, 4, 0, 99));
        allRise(x, 0, 1, 2);
        due("one half of 3 and 5", x.about(0, 11), 4);
    }

    static void p09_about_theChairBelowAFatOnesBearsAllOfIt() {
        TopSpeaks x = house(one(PLAIN, 1, 0, 99), one(FAT, 3, 0, 99), one(PLAIN, 4, 0, 99));
        allRise(x, 0, 1, 2);
        due("6 and 1, 4 and 1", x.about(0, 11), 12);
        due("one half of 5", x.about(1, 11), 3);
    }

    // ---- 10 as

    private static TopSpeaks oneOfEachKind() {
        return house(one(ELDER, 1, 0, 0), one(STEADY, 1, 0, 0), one(JOINER, 1, 0, 0), one(FAT, 1, 0, 0),
            one(PLAIN, 1, 0, 0));
    }

    static void p10_as_allAreMembers() {
        TopSpeaks x = oneOfEachKind();
        for (int number = 0; number < 5; number++) {
            due("as(" + number + ", 0)", x.as(number, PLAIN), number);
        }
    }

    static void p10_as_eachIsOfHisOwnKind() {
        TopSpeaks x = oneOfEachKind();
        for (int number = 0; number < 5; number++) {
            due("as(" + number + ", " + (4 - number) + ")", x.as(number, 4 - number), number);
        }
    }

    static void p10_as_anElderIsAJoiner() {
        due("as(0, JOINER)", oneOfEachKind().as(0, JOINER), 0);
    }

    static void p10_as_aJoinerIsNoElder() {
        due("as(2, ELDER)", oneOfEachKind().as(2, ELDER), NONE);
    }

    static void p10_as_anElderIsNeitherFatNorSteady() {
        TopSpeaks x = oneOfEachKind();
        due("as(0, FAT)", x.as(0, FAT), NONE);
        due("as(0, STEADY)", x.as(0, STEADY), NONE);
    }

    static void p10_as_aMemberAloneIsNoneOfTheOthers() {
        TopSpeaks x = oneOfEachKind();
        for (int kind = FAT; kind <= ELDER; kind++) {
            due("as(4, " + kind + ")", x.as(4, kind), NONE);
        }
    }

    static void p10_as_theOthersAreOfNoOtherKind() {
        TopSpeaks x = oneOfEachKind();
        for (int number = 1; number <= 3; number++) {
            for (int kind = FAT; kind <= ELDER; kind++) {
                due("as(" + number + ", " + kind + ")", x.as(number, kind), kind == 4 - number ? number : NONE);
            }
        }
    }

    static void p10_as_nobodyIsUnknown() {
        TopSpeaks x = easy(3);
        for (int nobody : new int[] {-1, 3, 6, 7, LOW, HIGH}) {
            refused(x, "as(" + nobody + ", 0)", () -> x.as(nobody, 0), UNKNOWN);
        }
    }

    static void p10_as_kindBelow0IsOutside() {
        TopSpeaks x = easy(3);
        refused(x, "as(0, -1)", () -> x.as(0, -1), OUTSIDE);
        refused(x, "as(0, LOW)", () -> x.as(0, LOW), OUTSIDE);
    }

    static void p10_as_kindAbove4IsOutside() {
        TopSpeaks x = easy(3);
        refused(x, "as(0, 5)", () -> x.as(0, 5), OUTSIDE);
        refused(x, "as(0, HIGH)", () -> x.as(0, HIGH), OUTSIDE);
    }

    static void p10_as_unknownIsToldAheadOfOutside() {
        TopSpeaks x = easy(3);
        refused(x, "as(3, 5)", () -> x.as(3, 5), UNKNOWN);
        refused(x, "as(-1, -1)", () -> x.as(-1, -1), UNKNOWN);
    }

    // ---- 11 chair

    static void p11_chair_ofTheFirstAndTheLastMember() {
        TopSpeaks x = house(one(PLAIN, 1, 0, 5), one(PLAIN, 1, 0, 6), one(PLAIN, 1, 0, 7));
        due("chair(0, 50)", x.chair(0, 50), 5);
        due("chair(2, 60)", x.chair(2, 60), 7);
        due("about(0, 4)", x.about(0, 4), 50);
        due("about(2, 4)", x.about(2, 4), 60);
    }

    static void p11_chair_ofNobodyIsUnknown() {
        TopSpeaks x = easy(3);
        for (int nobody : new int[] {-1, 3, 6, 7, LOW, HIGH}) {
            refused(x, "chair(" + nobody + ", 1)", () -> x.chair(nobody, 1), UNKNOWN);
        }
    }

    static void p11_chair_v0And99() {
        TopSpeaks x = easy(1);
        due("chair(0, 0)", x.chair(0, 0), 99);
        due("chair(0, 99)", x.chair(0, 99), 0);
        due("about(0, 4)", x.about(0, 4), 99);
    }

    static void p11_chair_vBelow0IsOutside() {
        outsideChair(-1);
        outsideChair(LOW);
    }

    static void p11_chair_vAbove99IsOutside() {
        outsideChair(100);
        outsideChair(HIGH);
    }

    private static void outsideChair(int v) {
        TopSpeaks x = house(one(JOINER, 1, 0, 42));
        refused(x, "chair(0, " + v + ")", () -> x.chair(0, v), OUTSIDE);
        due("about(0, 4) behind it", x.about(0, 4), 42);
        due("chair(0, 7) behind it", x.chair(0, 7), 42);
    }

    static void p11_chair_ofWhoStandsIsState() {
        TopSpeaks x = easy(3);
        allRise(x, 2, 0, 1);
        for (int standing = 0; standing < 3; standing++) {
            int who = standing;
            refused(x, "chair(" + who + ", 5)", () -> x.chair(who, 5), STATE);
            due("about(.., 4) behind it", x.about(who, 4), 99);
        }
    }

    static void p11_chair_ofWhoDoesNotStandWhileOthersDo() {
        TopSpeaks x = easy(3);
        allRise(x, 2, 0);
        due("chair(1, 5)", x.chair(1, 5), 99);
    }

    static void p11_chair_ofWhoCameDown() {
        TopSpeaks x = easy(2);
        allRise(x, 0, 1);
        x.down();
        due("chair(0, 5)", x.chair(0, 5), 99);
        due("chair(1, 6)", x.chair(1, 6), 99);
    }

    static void p11_chair_ofWhoFell() {
        TopSpeaks x = house(one(PLAIN, 1, 0, 0), one(PLAIN, 1, 0, 0));
        allRise(x, 0, 1);
        due("chair(0, 5)", x.chair(0, 5), 0);
        due("chair(1, 6)", x.chair(1, 6), 0);
    }

    static void p11_chair_unknownIsToldAheadOfOutside() {
        TopSpeaks x = easy(1);
        refused(x, "chair(1, 100)", () -> x.chair(1, 100), UNKNOWN);
        refused(x, "chair(-1, -1)", () -> x.chair(-1, -1), UNKNOWN);
    }

    static void p11_chair_outsideIsToldAheadOfState() {
        TopSpeaks x = easy(1);
        x.rise(0);
        refused(x, "chair(0, 100)", () -> x.chair(0, 100), OUTSIDE);
        refused(x, "chair(0, -1)", () -> x.chair(0, -1), OUTSIDE);
        refused(x, "chair(0, 99)", () -> x.chair(0, 99), STATE);
    }
}
