/** The boundaries of promises 25 to 28: what is told of all. */
public final class ToldEdgesTest extends Edges {
    public static void main(String[] args) throws Exception {
        runAll(ToldEdgesTest.class, 25, 28);
    }

    // ---- 25 image

    static void p25_image_ofAnEmptyTowerIs0() {
        due("image()", easy(2).image(), 0);
        due("without members", new TopSpeaks().image(), 0);
    }

    static void p25_image_ofOneToSeven() {
        TopSpeaks x = easy(7);
        for (int one = 0; one < 7; one++) {
            x.rise(one);
            due("image()", x.image(), one + 1);
        }
    }

    static void p25_image_theLatestAlone() {
        TopSpeaks x = easy(3);
        allRise(x, 0, 1, 2);
        x.image();
        x.down();
        x.chair(0, 7);
        x.rise(1);
        x.image();
        x.down();
        due("restore()", x.restore(), 1);
        due("at(1)", x.at(1), 1);
        due("about(0, 4)", x.about(0, 4), 7);
        due("restore() again", x.restore(), 1);
    }

    static void p25_image_changesNothing() {
        TopSpeaks x = easy(3);
        x.rise(2);
        long before = x.digest();
        x.image();
        due("digest()", x.digest(), before);
    }

    // ---- 26 restore

    static void p26_restore_stateIfNoneWasKept() {
        TopSpeaks x = easy(2);
        x.rise(1);
        refused(x, "restore()", x::restore, STATE);
        due("at(1)", x.at(1), 1);
        x.image();
        due("restore() behind image()", x.restore(), 1);
    }

    static void p26_restore_stateIfNoneWasKeptWithoutMembers() {
        TopSpeaks x = new TopSpeaks();
        refused(x, "restore()", x::restore, STATE);
        x.image();
        due("restore() behind image()", x.restore(), 0);
    }

    static void p26_restore_stateIfAMemberCame() {
        TopSpeaks x = easy(2);
        x.rise(1);
        x.image();
        x.member(PLAIN, 1, 0, 0, 99);
        x.rise(2);
        refused(x, "restore()", x::restore, STATE);
        due("at(2)", x.at(2), 2);
    }

    static void p26_restore_stateIfTheFirstMemberCame() {
        TopSpeaks x = new TopSpeaks();
        x.image();
        x.member(PLAIN, 1, 0, 0, 99);
        refused(x, "restore()", x::restore, STATE);
    }

    static void p26_restore_aRefusedMemberDidNotCome() {
        TopSpeaks x = easy(7);
        x.rise(6);
        x.image();
        x.member(PLAIN, 1, 0, 0, 99);
        x.member(PLAIN, 0, 0, 0, 99);
        x.down();
        due("restore()", x.restore(), 1);
    }

    static void p26_restore_fromANewImageBehindMembers() {
        TopSpeaks x = easy(2);
        x.image();
        x.member(PLAIN, 1, 0, 0, 99);
        x.restore();
        x.rise(2);
        x.image();
        x.down();
        due("restore()", x.restore(), 1);
        due("at(1)", x.at(1), 2);
    }

    static void p26_restore_ofAnEmptyTower() {
        TopSpeaks x = easy(2);
        x.image();
        allRise(x, 0, 1);
        due("restore()", x.restore(), 0);
        due("count(1)", x.count(1), 0);
        due("may(0)", x.may(0), 1);
    }

    static void p26_restore_ofSeven() {
        TopSpeaks x = easy(7);
        allRise(x, 6, 4, 2, 0, 5, 3, 1);
        long before = x.digest();
        x.image();
        x.down();
        x.rise(3);
        due("restore()", x.restore(), 7);
        due("digest()", x.digest(), before);
    }

    static void p26_restore_bruises() {
        TopSpeaks x = house(one(PLAIN, 1, 0, 0), one(PLAIN, 1, 0, 0), one(PLAIN, 1, 0, 0));
        allRise(x, 0, 1);
        x.image();
        allRise(x, 0, 2);
        due("before it", 100 * x.about(0, 8) + 10 * x.about(1, 8) + x.about(2, 8), 211);
        due("restore()", x.restore(), 0);
        due("bruises", 100 * x.about(0, 8) + 10 * x.about(1, 8) + x.about(2, 8), 110);
    }

    static void p26_restore_strengthsOfAllMembers() {
        TopSpeaks x = easy(7);
        x.chair(3, 0);
        x.image();
        for (int one = 0; one < 7; one++) {
            x.chair(one, 50 + one);
        }
        x.restore();
        for (int one = 0; one < 7; one++) {
            due("about(" + one + ", 4)", x.about(one, 4), one == 3 ? 0 : 99);
        }
    }

    static void p26_restore_leavesWhatAnImageDoesNotKeep() {
        TopSpeaks x = house(one(PLAIN, 1, 0, 0), one(PLAIN, 1, 0, 0));
        x.image();
        allRise(x, 0, 1);
        x.speech(0, MORE, 6);
        ruled(x, "10;7");
        page(x, "xyz");
        x.order(1, 0);
        x.midnight(1);
        due("restore()", x.restore(), 0);
        due("how often it fell", x.count(5), 1);
        due("sort", x.about(0, 5), MORE);
        due("number", x.about(0, 6), 6);
        due("replies(1, 0)", x.replies(1, 0), 1);
        due("limit", x.count(3), 7);
        due("letters", x.count(4), 3);
        due("order() and laws()", x.count(6), 1);
        due("midnight()", x.count(7), 1);
    }

    static void p26_restore_twice() {
        TopSpeaks x = easy(2);
        x.rise(1);
        x.image();
        x.rise(0);
        due("restore()", x.restore(), 1);
        x.down();
        x.chair(1, 3);
        due("restore() again", x.restore(), 1);
        due("about(1, 4)", x.about(1, 4), 99);
    }

    static void p26_restore_itGoesOnFromThere() {
        TopSpeaks x = easy(3);
        allRise(x, 2, 0);
        x.image();
        x.down();
        x.restore();
        due("rise(1)", x.rise(1), 3);
        due("at(1)", x.at(1), 2);
        refused(x, "chair(2, 1)", () -> x.chair(2, 1), STATE);
    }

    // ---- 27 count

    static void p27_count_what0And7() {
        TopSpeaks x = easy(2);
        due("count(0)", x.count(0), 2);
        due("count(7)", x.count(7), 0);
    }

    static void p27_count_whatBelow0IsOutside() {
        TopSpeaks x = easy(2);
        refused(x, "count(-1)", () -> x.count(-1), OUTSIDE);
        refused(x, "count(LOW)", () -> x.count(LOW), OUTSIDE);
    }

    static void p27_count_whatAbove7IsOutside() {
        TopSpeaks x = easy(2);
        refused(x, "count(8)", () -> x.count(8), OUTSIDE);
        refused(x, "count(HIGH)", () -> x.count(HIGH), OUTSIDE);
    }

    static void p27_count_membersAre0To7() {
        due("none", new TopSpeaks().count(0), 0);
        due("seven", easy(7).count(0), 7);
    }

    static void p27_count_heightIs0To7() {
        TopSpeaks x = easy(7);
        due("none", x.count(1), 0);
        allRise(x, 0, 1, 2, 3, 4, 5, 6);
        due("seven", x.count(1), 7);
    }

    static void p27_count_pairsAre0To10() {
        TopSpeaks x = new TopSpeaks();
        due("none", x.count(2), 0);
        ruled(x, "01,02,03,04,05,06,10,12,13,14");
        due("ten", x.count(2), 10);
    }

    static void p27_count_lettersAre0To32() {
        TopSpeaks x = new TopSpeaks();
        due("none", x.count(4), 0);
        page(x, "abcdefghijklmnopqrstuvwxyzABCDEF");
        due("all", x.count(4), 32);
    }

    static void p27_count_fallsOfTheTowerAlone() {
        TopSpeaks x = house(one(PLAIN, 1, 0, 0), one(PLAIN, 1, 0, 0));
        page(x, "01");
        x.debate(0);
        x.order(3, 0);
        x.laws(3, 0);
        x.sessions(60, 5, 1);
        x.midnight(5);
        due("none", x.count(5), 0);
        allRise(x, 0, 1);
        due("one", x.count(5), 1);
        allRise(x, 0, 1);
        due("two", x.count(5), 2);
    }

    static void p27_count_eachTellsItsOwn() {
        TopSpeaks x = house(one(PLAIN, 1, 0, 0), one(PLAIN, 1, 0, 9), one(PLAIN, 1, 0, 9), one(PLAIN, 1, 0, 9));
        ruled(x, "56,65,46;8");
        page(x, "abcdef");
        allRise(x, 0, 1);
        allRise(x, 1, 2);
        for (int i = 0; i < 11; i++) {
            x.order(0, 0);
        }
        for (int i = 0; i < 12; i++) {
            x.midnight(1);
        }
        int[] wants = {4, 2, 3, 8, 6, 1, 11, 12};
        for (int what = 0; what <= 7; what++) {
            due("count(" + what + ")", x.count(what), wants[what]);
        }
    }

    // ---- 28 digest

    /** What the promise says, by the other calls; the page is told, as no call tells its letters. */
    private static long digestOf(TopSpeaks x, String page) {
        long h = 653;
        for (int a = 0; a <= 6; a++) {
            for (int b = 0; b <= 6; b++) {
                h = 31 * h + x.replies(a, b);
            }
        }
        for (int member = 0; member < x.count(0); member++) {
            for (int what = 0; what <= 11; what++) {
                h = 31 * h + x.about(member, what);
            }
            h = 31 * h + x.may(member);
        }
        for (int height = 1; height <= x.count(1); height++) {
            h = 31 * h + x.at(height);
        }
        h = 31 * (31 * h + x.bill()) + x.changed();
        for (char letter : page.toCharArray()) {
            h = 31 * h + letter;
        }
        for (int what = 0; what <= 7; what++) {
            h = 31 * h + x.count(what);
        }
        return h;
    }

    static void p28_digest_ofANewObject() {
        TopSpeaks x = new TopSpeaks();
        long h = 653;
        for (int i = 0; i < 49; i++) {
            h *= 31;
        }
        // THE BILL, CHANGED; of the counts LIMIT alone is not 0
        h = 31 * (31 * h) - 1;
        for (int what = 0; what <= 7; what++) {
            h = 31 * h + (what == 3 ? 3 : 0);
        }
        due("digest()", x.digest(), h);
        due("by the other calls", x.digest(), digestOf(x, ""));
    }

    static void p28_digest_ofAnEmptyTower() {
        TopSpeaks x = easy(2);
        due("digest()", x.digest(), digestOf(x, ""));
    }

    static void p28_digest_ofSevenHigh() {
        TopSpeaks x = easy(7);
        x.speech(3, MORE, 9);
        allRise(x, 6, 4, 2, 0, 5, 3, 1);
        due("digest()", x.digest(), digestOf(x, ""));
    }

    static void p28_digest_ofAFullPage() {
        TopSpeaks x = new TopSpeaks();
        String all = "\u0001~ 0123456789abcdefghijklmnopqrstu";
        page(x, all.substring(0, 32));
        due("count(4)", x.count(4), 32);
        due("digest()", x.digest(), digestOf(x, all.substring(0, 32)));
    }

    static void p28_digest_ofAWholeRule() {
        TopSpeaks x = easy(7);
        ruled(x, "06,60,16,61,26,62,36,63,46,64;9");
        due("digest()", x.digest(), digestOf(x, ""));
    }

    static void p28_digest_ofTheLeastLeans() {
        TopSpeaks x = house(one(PLAIN, 1, -3, 0), one(ELDER, 1, -3, 0));
        due("digest()", x.digest(), digestOf(x, ""));
    }

    static void p28_digest_behindFalls() {
        TopSpeaks x = house(one(PLAIN, 1, 0, 0), one(FAT, 9, 0, 0));
        allRise(x, 0, 1);
        allRise(x, 1, 0);
        due("digest()", x.digest(), digestOf(x, ""));
    }

    static void p28_digest_changesNothing() {
        TopSpeaks x = easy(3);
        allRise(x, 0, 2);
        page(x, "12");
        long first = x.digest();
        due("again", x.digest(), first);
        due("count(6)", x.count(6), 0);
        due("count(4)", x.count(4), 2);
    }

    static void p28_digest_tellsTheOrderOfATower() {
        TopSpeaks x = easy(3);
        allRise(x, 0, 1);
        long first = x.digest();
        x.down();
        allRise(x, 1, 0);
        due("another", x.digest() == first ? 1 : 0, 0);
    }
}
