import java.util.Arrays;

/** The edges of the searches: spans of one crumb, divisions that are alike, shares of 0, no division without envy. */
final class SearchEdgesTest {
    private static long dice = 20261120;

    public static void main(String[] args) {
        bestOfOne();
        bestWithSpansOfOneCrumb();
        bestOfNoValue();
        bestOfSeveralByTheCuts();
        bestOfSeveralByTheGuests();
        bestOfTheSmallestShare();
        bestInLowestTerms();
        calmOfFewAndMany();
        calmWithSpansOfOneCrumb();
        calmOfLikeParts();
        calmComesInOrder();
        calmIsOfValuesNotOfPieces();
        middles();
        fewCrumbsOfValue();
        Check.finish();
    }

    private static void dueBest(CakeMarks x, int... row) {
        for (int what = 0; what <= 5; what++) {
            Check.due("best(" + what + ")", x.best(what), row[what]);
        }
    }

    private static void dueCalm(CakeMarks x, int... row) {
        for (int what = 0; what <= 2; what++) {
            Check.due("calm(" + what + ")", x.calm(what), row[what]);
        }
    }

    private static void bestOfOne() {
        CakeMarks x = new CakeMarks();
        dueBest(x, -2, -2, -2, -2, -2, -2);
        x.addGuest();
        dueBest(x, 1, 1, 0, -9, -9, -9);
        x.setValue(0, 0, 23, 9);
        dueBest(x, 1, 1, 0, -9, -9, -9);
        x.setValue(0, 0, 23, 0);
        dueBest(x, 0, 1, 0, -9, -9, -9);
    }

    /** Each span has at least one crumb: the cuts farthest to the left and to the right. */
    private static void bestWithSpansOfOneCrumb() {
        dueBest(Check.seated("1,0x23", "0,1x23"), 1, 1, 0, 1, -9, -9);
        dueBest(Check.seated("0,1x23", "1,0x23"), 1, 1, 1, 1, -9, -9);
        dueBest(Check.seated("1x23,0", "0x23,1"), 1, 1, 0, 23, -9, -9);
        dueBest(Check.seated("1,0x23", "0,1,0x22", "0x2,1x22"), 1, 1, 0, 1, 2, -9);
        dueBest(Check.seated("1x22,0x2", "0x22,1,0", "0x23,1"), 1, 1, 0, 22, 23, -9);
        dueBest(Check.seated("1,0x23", "0,1x22,0", "0x23,1"), 1, 1, 0, 1, 23, -9);
        dueBest(Check.seated("1,0x23", "0,1,0x22", "0x2,1,0x21", "0x3,1x21"), 1, 1, 0, 1, 2, 3);
        dueBest(Check.seated("0x23,1", "0x22,1,0", "0x21,1,0x2", "1x21,0x3"), 1, 1, 3, 21, 22, 23);
        dueBest(Check.seated("1,0x23", "0,1x21,0x2", "0x22,1,0", "0x23,1"), 1, 1, 0, 1, 22, 23);
        dueBest(Check.seated("1,0x23", "0,1,0x22", "0x2,1x21,0", "0x23,1"), 1, 1, 0, 1, 2, 23);
        // Both want the same crumb: one gets nothing of value.
        dueBest(Check.seated("0x23,1", "0x23,1"), 0, 1, 0, 1, -9, -9);
        dueBest(Check.seated("0x11,1,0x12", "0x11,1,0x12", "1x24"), 0, 1, 0, 1, 2, -9);
    }

    private static void bestOfNoValue() {
        dueBest(Check.seated("0x24", "0x24"), 0, 1, 0, 1, -9, -9);
        dueBest(Check.seated("0x24", "0x24", "0x24"), 0, 1, 0, 1, 2, -9);
        dueBest(Check.seated("0x24", "0x24", "0x24", "0x24"), 0, 1, 0, 1, 2, 3);
        // A guest of a total of 0 has a share of 0, so that every division is as good as the first one.
        dueBest(Check.seated("9x24", "0x24"), 0, 1, 0, 1, -9, -9);
        dueBest(Check.seated("0x12,1x12", "1x12,0x12", "0x24"), 0, 1, 0, 1, 2, -9);
    }

    /** Of several the one whose cuts come first, whoever sits there. */
    private static void bestOfSeveralByTheCuts() {
        // A half each by every cut: with guest 1 at the left ahead of crumb 1, with guest 0 from crumb 5 on.
        dueBest(Check.seated("0x4,1,0x15,1,0x3", "1,0x22,1"), 1, 2, 1, 1, -9, -9);
        dueBest(Check.seated("1,0x22,1", "0x4,1,0x15,1,0x3"), 1, 2, 0, 1, -9, -9);
        // The second span decides ahead of the third one.
        dueBest(Check.seated("0x2,1,0x21", "0x20,1,0x3", "0x8,1,0x15"), 1, 1, 0, 3, 9, -9);
        dueBest(Check.seated("0x2,1,0x21", "0x8,1,0x15", "0x20,1,0x3"), 1, 1, 0, 3, 9, -9);
        // Then the third one ahead of the fourth one.
        dueBest(Check.seated("1,0x23", "0x5,1,0x18", "0x11,1,0x12", "0x23,1"), 1, 1, 0, 1, 6, 12);
    }

    private static void bestOfSeveralByTheGuests() {
        dueBest(Check.seated("1x24", "1x24"), 1, 2, 0, 12, -9, -9);
        dueBest(Check.seated("1x24", "1x24", "1x24", "1x24"), 1, 4, 0, 6, 12, 18);
        // Guest 0 must not come first: of the other two the smaller number does.
        dueBest(Check.seated("0x23,1", "1,0x22,1", "1,0x22,1"), 0, 1, 0, 1, 2, -9);
        dueBest(Check.seated("0x20,1x4", "1x24", "1x24"), 11, 24, 1, 11, 22, -9);
        dueBest(Check.seated("0x23,9", "0x12,1x12", "1x12,0x12"), 11, 12, 2, 11, 23, -9);
    }

    /** The smallest share of all guests, not their sum and not the smallest value. */
    private static void bestOfTheSmallestShare() {
        // 6 of 8 crumbs and 18 of 24: 54 is far more than 18, but the share is the same.
        dueBest(Check.seated("1x24", "9x8,0x16"), 3, 4, 1, 6, -9, -9);
        dueBest(Check.seated("9,0x22,1", "1x24"), 9, 10, 0, 1, -9, -9);
        dueBest(Check.seated("9,0x22,9", "1x24"), 1, 2, 0, 1, -9, -9);
    }

    private static void bestInLowestTerms() {
        dueBest(Check.seated("9x24", "9x24"), 1, 2, 0, 12, -9, -9);
        dueBest(Check.seated("9x24", "9x24", "9x24"), 1, 3, 0, 8, 16, -9);
        dueBest(Check.seated("1x23,0", "1x23,0"), 11, 23, 0, 11, -9, -9);
        dueBest(Check.seated("9x23,8", "9x23,8"), 107, 215, 0, 12, -9, -9);
    }

    private static void calmOfFewAndMany() {
        CakeMarks x = new CakeMarks();
        dueCalm(x, -2, -2, -2);
        x.addGuest();
        dueCalm(x, -2, -2, -2);
        x.addGuest();
        dueCalm(x, 2, 0, 12);
        x.undo();
        dueCalm(x, -2, -2, -2);
        // Nobody of no value envies: every division, 23 of two spans, 253 of three and 1771 of four, in every order.
        dueCalm(Check.seated("0x24", "0x24"), 2 * 23, 0, 1);
        dueCalm(Check.seated("0x24", "0x24", "0x24"), 6 * 253, 0, 1);
        dueCalm(Check.seated("0x24", "0x24", "0x24", "0x24"), 24 * 1771, 0, 1);
        dueCalm(Check.seated("9x24", "0x24"), 24, 1, 1);
    }

    private static void calmWithSpansOfOneCrumb() {
        dueCalm(Check.seated("9,0x23", "0x24"), 23, 0, 1);
        dueCalm(Check.seated("0x23,9", "0x24"), 23, 1, 1);
        dueCalm(Check.seated("9,0x23", "0x23,9"), 23, 0, 1);
        dueCalm(Check.seated("0,9,0x22", "9,0x23"), 1, 1, 1);
        dueCalm(Check.seated("0x22,9,0", "0x23,9"), 1, 0, 23);
        dueCalm(Check.seated("9,0x23", "0,9,0x22", "0x2,9,0x21", "0x3,9,0x20"), 1, 0, 1);
        dueCalm(Check.seated("0x23,9", "0x22,9,0", "0x21,9,0x2", "0x20,9,0x3"), 1, 3, 21);
        dueCalm(Check.seated("9,0x23", "9,0x23"), 0, -9, -9);
        dueCalm(Check.seated("0x23,9", "0x23,9", "0x24"), 0, -9, -9);
    }

    /** Like parts make no envy; a difference of 1 does. */
    private static void calmOfLikeParts() {
        dueCalm(Check.seated("1x24", "1x24"), 2, 0, 12);
        dueCalm(Check.seated("1x23,2", "1x24"), 1, 1, 12);
        dueCalm(Check.seated("1x23,2", "1x23,2"), 0, -9, -9);
        dueCalm(Check.seated("1,0x22,1", "1,0x22,1"), 46, 0, 1);
        dueCalm(Check.seated("1,0x22,2", "1,0x22,1"), 23, 1, 1);
        dueCalm(Check.seated("2,0x22,1", "1,0x22,1"), 23, 0, 1);
    }

    /** The first one is that whose cuts come first, then that whose guests do. */
    private static void calmComesInOrder() {
        dueCalm(Check.seated("0x12,1x12", "1x12,0x12"), 13, 1, 6);
        dueCalm(Check.seated("1x12,0x12", "0x12,1x12"), 13, 0, 6);
        dueCalm(Check.seated("1x24", "1x24", "1x24"), 6, 0, 8);
        // 8, 8 and 8 crumbs, 9, 9 and 6, 10, 10 and 4, and 0 always at the right.
        dueCalm(Check.seated("0x16,1x8", "1x24", "1x24"), 6, 1, 8);
    }

    /** calm() tells of the whole cake, whoever has which crumb; and so does best(). */
    private static void calmIsOfValuesNotOfPieces() {
        CakeMarks x = Check.seated("1x24", "1x24");
        x.give(0, 0, 22);
        x.give(1, 23, 23);
        dueCalm(x, 2, 0, 12);
        dueBest(x, 1, 2, 0, 12, -9, -9);
        Check.due("middle(0)", x.middle(0), 12);
        x.give(1, 0, 23);
        x.putBack(0, 0);
        dueCalm(x, 2, 0, 12);
        dueBest(x, 1, 2, 0, 12, -9, -9);
        Check.due("middle(1)", x.middle(1), 12);
    }

    /** Ahead of the smallest difference, of several the first one, and each part has at least one crumb. */
    private static void middles() {
        CakeMarks x = Check.seated("9,0x23", "0x23,9", "1x24", "1x23,0");
        Check.due("all at the left end", x.middle(0), 1);
        Check.due("all at the right end, every place is alike", x.middle(1), 1);
        Check.due("all alike", x.middle(2), 12);
        Check.due("11 and 12, or 12 and 11", x.middle(3), 11);
        x.setValue(1, 0, 0, 1);
        Check.due("1 and 9 at the ends", x.middle(1), 1);
        x.setValue(1, 22, 22, 1);
        Check.due("2 and 9 at the ends", x.middle(1), 23);
        x.setValue(0, 1, 1, 9);
        Check.due("9 and 9 at the left end", x.middle(0), 1);
        x.setValue(0, 2, 2, 9);
        Check.due("9, 9 and 9 at the left end", x.middle(0), 1);
        x.setValue(0, 1, 1, 8);
        Check.due("9, 8 and 9 at the left end", x.middle(0), 1);
        x.setValue(0, 2, 2, 8);
        Check.due("9, 8 and 8 at the left end", x.middle(0), 1);
        x.setValue(0, 0, 0, 7);
        Check.due("7, 8 and 8 at the left end", x.middle(0), 2);
    }

    /** Where few crumbs have a value, many divisions are alike: what could be is compared with the model. */
    private static void fewCrumbsOfValue() {
        for (int number = 0; number < 60; number++) {
            CakeMarks x = new CakeMarks();
            Model model = new Model();
            int guests = 2 + number % 3;
            for (int guest = 0; guest < guests; guest++) {
                both(x, model, "addGuest");
                both(x, model, "setValue", guest, 0, 23, 0);
                for (int crumbs = roll(6); crumbs > 0; crumbs--) {
                    int crumb = roll(24);
                    both(x, model, "setValue", guest, crumb, crumb, 1 + roll(2));
                }
            }
            for (int what = 0; what <= 5; what++) {
                both(x, model, "best", what);
            }
            for (int what = 0; what <= 2; what++) {
                both(x, model, "calm", what);
            }
            for (int guest = 0; guest < guests; guest++) {
                both(x, model, "middle", guest);
            }
        }
    }

    private static void both(CakeMarks x, Model model, String call, int... a) {
        Check.due(call + Arrays.toString(a), Ask.of(x, call, a), model.answer(call, a));
    }

    private static int roll(int sides) {
        dice = dice * 6364136223846793005L + 1442695040888963407L;
        return (int) ((dice >>> 33) % sides);
    }
}
