/** Promises 19 to 23. */
final class SearchTest {
    public static void main(String[] args) {
        ring();
        middle();
        bestOfLikeGuests();
        bestOfOthers();
        bestFollowsTheValues();
        calm();
        calls();
        Check.finish();
    }

    private static void ring() {
        CakeMarks x = new CakeMarks();
        Check.due("ring(-1) without guests", x.ring(-1), -1);
        Check.due("ring(0) without guests", x.ring(0), -9);
        // 0 envies 2, 2 envies 1, 1 envies 0.
        x = Check.seated("1x16,9x8", "9x8,1x16", "1x8,9x8,1x8");
        x.give(0, 0, 7);
        x.give(1, 8, 15);
        x.give(2, 16, 23);
        int before = x.count(6);
        int[] due = {0, 2, 1, -9, -9};
        for (int index = 0; index < due.length; index++) {
            Check.due("ring(" + index + ")", x.ring(index), due[index]);
        }
        Check.due("ring(max)", x.ring(Integer.MAX_VALUE), -9);
        Check.due("ring(-1)", x.ring(-1), -1);
        Check.due("ring(min)", x.ring(Integer.MIN_VALUE), -1);
        Check.due("count(6)", x.count(6), before);
        Check.dueOwners("ring", x, "000000001111111122222222");
        Check.due("exchange()", x.exchange(), 3);
        Check.dueOwners("exchange", x, "111111112222222200000000");
        Check.due("ring(0) then", x.ring(0), -9);
    }

    private static void middle() {
        CakeMarks x = Check.seated("1x24", "0x24", "9,0x22,9", "0x23,5");
        x.give(0, 3, 20);
        Check.due("middle(0)", x.middle(0), 12);
        Check.due("middle(1), all alike", x.middle(1), 1);
        Check.due("middle(2), the first of several", x.middle(2), 1);
        Check.due("middle(3), no good place", x.middle(3), 1);
        x.setValue(3, 0, 0, 1);
        Check.due("middle(3), all but the last one", x.middle(3), 1);
        x.setValue(3, 22, 22, 3);
        Check.due("middle(3), at the end", x.middle(3), 23);
        Check.due("middle(4)", x.middle(4), -1);
        Check.due("middle(-1)", x.middle(-1), -1);
    }

    private static void bestOfLikeGuests() {
        CakeMarks x = new CakeMarks();
        Check.due("best(-1) without guests", x.best(-1), -1);
        Check.due("best(6) without guests", x.best(6), -1);
        for (int what = 0; what <= 5; what++) {
            Check.due("best without guests", x.best(what), -2);
        }
        int[][] due = {
            {1, 1, 0, -9, -9, -9}, {1, 2, 0, 12, -9, -9}, {1, 3, 0, 8, 16, -9}, {1, 4, 0, 6, 12, 18},
        };
        for (int[] row : due) {
            x.addGuest();
            dueBest(x, row);
        }
        for (int guest = 0; guest < 4; guest++) {
            x.setValue(guest, 0, 23, 0);
        }
        dueBest(x, new int[] {0, 1, 0, 1, 2, 3});
        Check.due("best(6)", x.best(6), -1);
        Check.due("best(-1)", x.best(-1), -1);
    }

    private static void bestOfOthers() {
        // The last guest wants the left end, and 1 and 2 the right one.
        dueBest(Check.seated("0x12,1x12", "1x12,0x12"), new int[] {1, 1, 1, 12, -9, -9});
        dueBest(Check.seated("0x8,1x8,0x8", "0x16,1x8", "1x8,0x16"), new int[] {1, 1, 2, 8, 16, -9});
        dueBest(Check.seated("0x8,3x8,0x8", "0x24", "1x8,0x16"), new int[] {0, 1, 0, 1, 2, -9});
        dueBest(Check.seated("0x18,1x6", "0x12,1x6,0x6", "0x6,1x6,0x12", "1x6,0x18"), new int[] {1, 1, 3, 6, 12, 18});
        dueBest(Check.seated("9,0x23", "9,0x23"), new int[] {0, 1, 0, 1, -9, -9});
        dueBest(Check.seated("0x7,1,0x16"), new int[] {1, 1, 0, -9, -9, -9});
        dueBest(Check.seated("0x23,1", "1,0x23"), new int[] {1, 1, 1, 1, -9, -9});
        dueBest(Check.seated("2x24", "1x20,6x4"), new int[] {7, 11, 0, 16, -9, -9});
        dueBest(Check.seated("1x20,6x4", "2x24"), new int[] {7, 11, 1, 16, -9, -9});
    }

    private static void bestFollowsTheValues() {
        CakeMarks x = Check.seated("1x24", "1x24");
        dueBest(x, new int[] {1, 2, 0, 12, -9, -9});
        x.setValue(0, 0, 11, 0);
        dueBest(x, new int[] {2, 3, 1, 16, -9, -9});
        Check.due("calm(1)", x.calm(1), 1);
        x.undo();
        dueBest(x, new int[] {1, 2, 0, 12, -9, -9});
        Check.due("calm(1)", x.calm(1), 0);
        x.clearText();
        Check.write(x, "0x18,1x6");
        x.read(1);
        dueBest(x, new int[] {19, 24, 0, 19, -9, -9});
        x.give(0, 0, 23);
        dueBest(x, new int[] {19, 24, 0, 19, -9, -9});
        x.addGuest();
        Check.due("best(4)", x.best(4) > 0 ? 1 : 0, 1);
        x.undo();
        dueBest(x, new int[] {19, 24, 0, 19, -9, -9});
    }

    private static void dueBest(CakeMarks x, int[] row) {
        int before = x.count(6);
        for (int what = 0; what <= 5; what++) {
            Check.due("best(" + what + ")", x.best(what), row[what]);
        }
        Check.due("count(6) after best", x.count(6), before);
    }

    private static void calm() {
        CakeMarks x = new CakeMarks();
        for (int guests = 0; guests < 2; guests++) {
            Check.due("calm(3) of few", x.calm(3), -1);
            Check.due("calm(-1) of few", x.calm(-1), -1);
            for (int what = 0; what <= 2; what++) {
                Check.due("calm of few", x.calm(what), -2);
            }
            x.addGuest();
        }
        dueCalm(x, new int[] {2, 0, 12});
        x.addGuest();
        dueCalm(x, new int[] {6, 0, 8});
        x.addGuest();
        dueCalm(x, new int[] {24, 0, 6});
        dueCalm(Check.seated("0x24", "0x24"), new int[] {46, 0, 1});
        dueCalm(Check.seated("0x24", "0x24", "0x24"), new int[] {6 * 253, 0, 1});
        dueCalm(Check.seated("0x24", "0x24", "0x24", "0x24"), new int[] {24 * 1771, 0, 1});
        dueCalm(Check.seated("9,0x23", "9,0x23"), new int[] {0, -9, -9});
        dueCalm(Check.seated("9,0x22,9", "9,0x22,9"), new int[] {46, 0, 1});
        dueCalm(Check.seated("0x12,1x12", "1x12,0x12"), new int[] {13, 1, 6});
        dueCalm(Check.seated("0x23,1", "0x23,1", "0x23,1"), new int[] {0, -9, -9});
        Check.due("calm(3)", x.calm(3), -1);
        Check.due("calm(-1)", x.calm(-1), -1);
    }

    private static void dueCalm(CakeMarks x, int[] row) {
        int before = x.count(6);
        for (int what = 0; what <= 2; what++) {
            Check.due("calm(" + what + ")", x.calm(what), row[what]);
        }
        Check.due("count(6) after calm", x.count(6), before);
    }

    private static void calls() {
        CakeMarks x = new CakeMarks();
        Check.due("calls(50, 1) without guests", x.calls(50, 1), -1);
        x = Check.seated("1x24", "2x12,0x12", "0x24");
        int before = x.count(6);
        Check.due("calls(50, 1)", x.calls(50, 1), 1);
        Check.due("calls(50, 3)", x.calls(50, 3), 2);
        Check.due("calls(100, 3)", x.calls(100, 3), 1);
        Check.due("calls(50, 7)", x.calls(50, 7), 3);
        Check.due("calls(1, 4)", x.calls(1, 4), 1);
        int[][] wrong = {{0, 1}, {101, 1}, {-1, 1}, {50, 0}, {50, 8}, {50, 9}, {50, -1}, {50, Integer.MIN_VALUE}};
        for (int[] w : wrong) {
            Check.due("wrong calls", x.calls(w[0], w[1]), -1);
        }
        Check.due("count(6)", x.count(6), before);
        Check.due("count(1)", x.count(1), 24);
        x.give(2, 0, 15);
        Check.due("calls(50, 3) over a part", x.calls(50, 3), 0);
        Check.due("calls(33, 3) over a part", x.calls(33, 3), 1);
        x.give(2, 16, 23);
        Check.due("calls over nothing", x.calls(1, 7), 0);
    }
}
