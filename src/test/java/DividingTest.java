/** Promises 7 to 13. */
final class DividingTest {
    public static void main(String[] args) {
        give();
        putBack();
        move();
        moveOverGaps();
        cut();
        trim();
        exchange();
        exchangeAlongTheFirstOfSeveral();
        undo();
        failedCallsChangeNothing();
        Check.finish();
    }

    private static void give() {
        CakeMarks x = Check.seated("1x24", "1x24");
        Check.due("give(0, 3, 5)", x.give(0, 3, 5), 3);
        Check.due("give(1, 0, 23)", x.give(1, 0, 23), 21);
        Check.dueOwners("give", x, "111000111111111111111111");
        Check.due("give(0, 0, 23)", x.give(0, 0, 23), 0);
        Check.due("count(6)", x.count(6), 5);
        Check.due("undo()", x.undo(), 4);
        Check.due("undo()", x.undo(), 3);
        Check.dueOwners("undo", x, "...000..................");
        Check.due("give(1, 23, 23)", x.give(1, 23, 23), 1);
        Check.due("give(1, 0, 0)", x.give(1, 0, 0), 1);
        int[][] wrong = {{-1, 0, 0}, {2, 0, 0}, {0, -1, 3}, {0, 4, 3}, {0, 0, 24}, {0, 24, 24}};
        for (int[] w : wrong) {
            Check.due("wrong give", x.give(w[0], w[1], w[2]), -1);
        }
        Check.dueOwners("wrong give", x, "1..000.................1");
    }

    private static void putBack() {
        CakeMarks x = Check.seated("1x24", "1x24");
        x.give(0, 0, 9);
        x.give(1, 10, 14);
        Check.due("putBack(8, 20)", x.putBack(8, 20), 7);
        Check.dueOwners("putBack", x, "00000000................");
        Check.due("putBack(8, 20) again", x.putBack(8, 20), 0);
        Check.due("count(6)", x.count(6), 5);
        Check.due("putBack(0, 0)", x.putBack(0, 0), 1);
        Check.due("putBack(-1, 0)", x.putBack(-1, 0), -1);
        Check.due("putBack(1, 0)", x.putBack(1, 0), -1);
        Check.due("putBack(0, 24)", x.putBack(0, 24), -1);
        Check.dueOwners("wrong putBack", x, ".0000000................");
    }

    private static void move() {
        CakeMarks x = Check.seated("1x24", "2x12,0x12", "0x24");
        Check.due("move(50, 2)", x.move(50, 2), 1);
        Check.dueOwners("move(50, 2)", x, "111111..................");
        x.undo();
        Check.due("move(50, 3)", x.move(50, 3), 2);
        Check.dueOwners("move(50, 3)", x, "111111000000000000......");
        x.undo();
        Check.due("move(50, 7)", x.move(50, 7), 3);
        Check.dueOwners("move(50, 7)", x, "2111111000000000000.....");
        Check.due("guest without total has", x.guest(2, 1), 0);
        x.undo();
        Check.due("move(100, 3)", x.move(100, 3), 1);
        Check.dueOwners("move(100, 3)", x, "111111111111............");
        x.undo();
        Check.due("move(100, 1)", x.move(100, 1), 1);
        Check.due("count(1)", x.count(1), 0);
        x.undo();
        // 4 of 24 is 16.6 percent: enough for 16, too little for 17.
        x.move(16, 1);
        Check.due("crumbs for 16 percent", x.guest(0, 2), 4);
        x.undo();
        x.move(17, 1);
        Check.due("crumbs for 17 percent", x.guest(0, 2), 5);
        x.undo();
        Check.due("move(1, 5)", x.move(1, 5), 2);
        Check.dueOwners("move(1, 5)", x, "02......................");
        int[][] wrong = {{0, 1}, {101, 1}, {-1, 1}, {50, 0}, {50, 8}, {50, 9}, {50, -1}, {50, Integer.MIN_VALUE}};
        for (int[] w : wrong) {
            Check.due("wrong move", x.move(w[0], w[1]), -1);
        }
        Check.dueOwners("wrong move", x, "02......................");
    }

    private static void moveOverGaps() {
        CakeMarks x = Check.seated("1x24", "1x24");
        x.give(1, 2, 9);
        Check.due("move(25, 1)", x.move(25, 1), 1);
        Check.dueOwners("move over a gap", x, "0011111111" + "0000" + "..........");
        x.putBack(0, 23);
        x.give(0, 0, 20);
        Check.due("move(50, 3)", x.move(50, 3), 0);
        Check.dueOwners("move without calls", x, "000000000000000000000...");
        Check.due("move(9, 2)", x.move(9, 2), 1);
        Check.dueOwners("move to the end", x, "000000000000000000000111");
        Check.due("move over nothing", x.move(1, 3), 0);
        Check.due("count(6)", x.count(6), 5);
        Check.due("undo()", x.undo(), 4);
        Check.dueOwners("undo", x, "000000000000000000000111");
    }

    private static void cut() {
        CakeMarks x = Check.seated("1x24", "1x24", "5,0x22,5");
        Check.due("cut(0, 1, 0, 23)", x.cut(0, 1, 0, 23), 12);
        Check.dueOwners("a cut with two like parts", x, "111111111111000000000000");
        x.undo();
        Check.due("cut(2, 0, 0, 23)", x.cut(2, 0, 0, 23), 1);
        Check.dueOwners("a cut ahead of the first place", x, "200000000000000000000000");
        x.undo();
        Check.due("cut(0, 2, 4, 6)", x.cut(0, 2, 4, 6), 5);
        Check.dueOwners("a cut of a span", x, "....200.................");
        Check.due("cut(0, 2, 22, 23)", x.cut(0, 2, 22, 23), 23);
        Check.dueOwners("a cut of two crumbs", x, "....200...............02");
        Check.due("cut(0, 2, 6, 9)", x.cut(0, 2, 6, 9), -2);
        Check.due("cut(0, 2, 3, 4)", x.cut(0, 2, 3, 4), -2);
        int[][] wrong = {
            {0, 0, 8, 9}, {-1, 0, 8, 9}, {0, -1, 8, 9}, {3, 0, 8, 9}, {0, 3, 8, 9}, {0, 1, -1, 3},
            {0, 1, 23, 23}, {0, 1, 23, 24}, {0, 1, 8, 8}, {0, 1, 8, 7}, {0, 1, 8, 24}, {1, 1, 4, 6}, {0, 1, 5, 5},
        };
        for (int[] w : wrong) {
            Check.due("wrong cut", x.cut(w[0], w[1], w[2], w[3]), -1);
        }
        Check.dueOwners("wrong cut", x, "....200...............02");
        Check.due("count(6)", x.count(6), 5);
    }

    private static void trim() {
        CakeMarks x = Check.seated("1x24", "1x12,2x12");
        x.give(0, 0, 3);
        x.give(1, 4, 8);
        x.give(0, 14, 16);
        Check.due("envy(1, 0)", x.envy(1, 0), 5);
        Check.due("trim(0, 1)", x.trim(0, 1), 3);
        Check.dueOwners("trim", x, "000011111...............");
        Check.due("trim(0, 1) again", x.trim(0, 1), 0);
        Check.due("count(6)", x.count(6), 5);
        Check.due("trim(1, 0)", x.trim(1, 0), 1);
        Check.dueOwners("trim of the other one", x, "00001111................");
        int[][] wrong = {{0, 0}, {1, 1}, {-1, 0}, {0, -1}, {2, 0}, {0, 2}};
        for (int[] w : wrong) {
            Check.due("wrong trim", x.trim(w[0], w[1]), -1);
        }
        CakeMarks z = Check.seated("1x24", "1x24");
        z.give(0, 0, 0);
        z.give(0, 22, 23);
        Check.due("trim(0, 1) of all", z.trim(0, 1), 3);
        Check.dueOwners("trim of all", z, "........................");
        z.give(0, 22, 23);
        z.give(1, 0, 0);
        Check.due("trim(0, 1) of the last crumb", z.trim(0, 1), 1);
        Check.dueOwners("trim of the last crumb", z, "1.....................0.");
        // The crumbs without value at the right end go back too, but none behind the last that counts.
        CakeMarks y = Check.seated("1x24", "3x6,0x18");
        y.give(0, 1, 8);
        y.give(1, 0, 0);
        Check.due("trim(0, 1)", y.trim(0, 1), 7);
        Check.dueOwners("trim over crumbs without value", y, "10......................");
    }

    private static void exchange() {
        CakeMarks x = Check.seated("1x8,9x8,1x8", "1x16,9x8", "9x8,1x16");
        Check.due("exchange() without pieces", x.exchange(), -2);
        x.give(0, 0, 7);
        x.give(1, 8, 15);
        x.give(2, 16, 23);
        Check.due("exchange()", x.exchange(), 3);
        Check.dueOwners("exchange", x, "222222220000000011111111");
        Check.due("count(6)", x.count(6), 5);
        Check.due("exchange() again", x.exchange(), -2);
        Check.due("count(6)", x.count(6), 5);
        Check.due("undo()", x.undo(), 4);
        Check.dueOwners("undo", x, "000000001111111122222222");
        // Without crumb 23 guest 2 envies guest 1 as well, and the ring of two comes ahead of that of three.
        x.putBack(23, 23);
        Check.due("exchange()", x.exchange(), 2);
        Check.dueOwners("exchange of two", x, "00000000222222221111111.");
    }

    private static void exchangeAlongTheFirstOfSeveral() {
        // 0 and 3 envy each other, 1 and 2 too; 0 1 2 3 would be a longer ring.
        CakeMarks x = Check.seated("1x6,2x6,0x6,3x6", "0x6,1x6,2x6,0x6", "0x6,2x6,1x6,3x6", "2x6,0x12,1x6");
        for (int guest = 0; guest < 4; guest++) {
            x.give(guest, 6 * guest, 6 * guest + 5);
        }
        Check.due("ring(0)", x.ring(0), 0);
        Check.due("ring(1)", x.ring(1), 3);
        Check.due("exchange()", x.exchange(), 2);
        Check.dueOwners("exchange", x, "333333111111222222000000");
        Check.due("ring(0)", x.ring(0), 1);
        Check.due("ring(1)", x.ring(1), 2);
        Check.due("exchange()", x.exchange(), 2);
        Check.dueOwners("second exchange", x, "333333222222111111000000");
        Check.due("third exchange()", x.exchange(), -2);
        Check.due("the arrow that is left", x.count(2), 1);
        // A ring of all four is an exchange of each with the next one.
        CakeMarks y = Check.seated("1x6,2x6,0x12", "0x6,1x6,0x6,2x6", "2x6,0x6,1x6,0x6", "0x12,2x6,1x6");
        for (int guest = 0; guest < 4; guest++) {
            y.give(guest, 6 * guest, 6 * guest + 5);
        }
        Check.due("ring(1)", y.ring(1), 1);
        Check.due("ring(2)", y.ring(2), 3);
        Check.due("ring(3)", y.ring(3), 2);
        Check.due("ring(4)", y.ring(4), -9);
        Check.due("exchange()", y.exchange(), 4);
        Check.dueOwners("exchange of four", y, "222222000000333333111111");
    }

    private static void undo() {
        CakeMarks x = new CakeMarks();
        Check.due("undo() of nothing", x.undo(), -2);
        x.addGuest();
        x.addGuest();
        x.setValue(0, 0, 23, 2);
        for (int i = 0; i < 5; i++) {
            x.give(0, i, i);
            Check.due("count(6)", x.count(6), i < 2 ? 4 + i : 5);
        }
        for (int left = 4; left >= 0; left--) {
            Check.due("undo()", x.undo(), left);
            Check.due("guest(0, 2)", x.guest(0, 2), left);
            Check.due("count(6)", x.count(6), left);
        }
        Check.due("undo() of the sixth", x.undo(), -2);
        Check.due("guest(0, 0)", x.guest(0, 0), 48);
        Check.due("count(0)", x.count(0), 2);
        x.give(1, 0, 11);
        x.cut(0, 1, 12, 23);
        x.putBack(0, 23);
        Check.due("undo()", x.undo(), 2);
        Check.dueOwners("undo of putBack", x, "111111111111111111000000");
        x.trim(1, 0);
        x.trim(1, 0);
        x.trim(1, 0);
        x.trim(1, 0);
        Check.due("count(6)", x.count(6), 5);
        Check.due("undo()", x.undo(), 4);
        x.undo();
        x.undo();
        x.undo();
        Check.dueOwners("undo of trim", x, "111111111111111111000000");
        Check.due("undo()", x.undo(), 0);
        Check.dueOwners("undo of cut", x, "111111111111............");
    }

    private static void failedCallsChangeNothing() {
        CakeMarks x = Check.seated("1x24");
        x.give(0, 3, 3);
        int before = x.count(6);
        x.give(1, 0, 0);
        x.putBack(5, 4);
        x.move(0, 1);
        x.cut(0, 1, 0, 5);
        x.trim(0, 1);
        x.exchange();
        x.read(1);
        x.clearText();
        x.read(0);
        x.setValue(0, 0, 0, 10);
        Check.due("count(6)", x.count(6), before);
        Check.dueOwners("failed calls", x, "...0....................");
    }
}
