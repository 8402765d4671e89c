/** Promises 1 to 6. */
final class GuestsAndValuesTest {
    public static void main(String[] args) {
        newObject();
        addGuest();
        setValue();
        append();
        clearText();
        readWhatIsRight();
        readWhatFails();
        readForgetsTheTextBefore();
        readIsAnAction();
        Check.finish();
    }

    private static void newObject() {
        CakeMarks x = new CakeMarks();
        Check.due("new count(0)", x.count(0), 0);
        Check.due("new count(1)", x.count(1), 24);
        Check.due("new count(6)", x.count(6), 0);
        Check.due("new count(7)", x.count(7), 0);
        Check.due("new clearText()", x.clearText(), 0);
        Check.due("new undo()", x.undo(), -2);
        Check.due("new guest(0, 0)", x.guest(0, 0), -1);
        Check.dueOwners("new", x, "........................");
        CakeMarks y = new CakeMarks();
        x.addGuest();
        x.append('7');
        Check.due("the other one's count(0)", y.count(0), 0);
        Check.due("the other one's count(7)", y.count(7), 0);
    }

    private static void addGuest() {
        CakeMarks x = new CakeMarks();
        for (int guest = 0; guest < 4; guest++) {
            Check.due("value ahead of addGuest()", x.value(guest, 0), -1);
            Check.due("addGuest()", x.addGuest(), guest);
            Check.due("count(6)", x.count(6), guest + 1);
            for (int crumb = 0; crumb < 24; crumb++) {
                Check.due("value of a new guest", x.value(guest, crumb), 1);
            }
        }
        Check.due("fifth addGuest()", x.addGuest(), -3);
        Check.due("count(0)", x.count(0), 4);
        Check.due("count(6)", x.count(6), 4);
        x.setValue(3, 0, 23, 8);
        Check.due("undo()", x.undo(), 4);
        Check.due("undo()", x.undo(), 3);
        Check.due("guest(3, 0)", x.guest(3, 0), -1);
        Check.due("addGuest() again", x.addGuest(), 3);
        Check.due("guest(3, 0) again", x.guest(3, 0), 24);
    }

    private static void setValue() {
        CakeMarks x = new CakeMarks();
        Check.due("setValue without guest", x.setValue(0, 0, 0, 0), -1);
        x.addGuest();
        x.addGuest();
        Check.due("setValue(0, 0, 23, 9)", x.setValue(0, 0, 23, 9), 216);
        Check.due("setValue(0, 23, 23, 0)", x.setValue(0, 23, 23, 0), 207);
        Check.due("setValue(0, 0, 0, 4)", x.setValue(0, 0, 0, 4), 202);
        Check.due("value(0, 0)", x.value(0, 0), 4);
        Check.due("value(0, 1)", x.value(0, 1), 9);
        Check.due("value(0, 22)", x.value(0, 22), 9);
        Check.due("value(0, 23)", x.value(0, 23), 0);
        Check.due("the other one's total", x.guest(1, 0), 24);
        Check.due("count(6)", x.count(6), 5);
        x.undo();
        int[][] wrong = {
            {-1, 0, 0, 1}, {2, 0, 0, 1}, {0, -1, 0, 1}, {0, 24, 24, 1}, {0, 5, 4, 1}, {0, 0, 24, 1},
            {0, 0, 0, -1}, {0, 0, 0, 10}, {Integer.MIN_VALUE, 0, 0, 1}, {0, 0, Integer.MAX_VALUE, 1},
        };
        for (int[] w : wrong) {
            Check.due("wrong setValue", x.setValue(w[0], w[1], w[2], w[3]), -1);
        }
        Check.due("count(6) after wrong ones", x.count(6), 4);
        Check.due("guest(0, 0) after wrong ones", x.guest(0, 0), 207);
        Check.due("setValue to the same", x.setValue(1, 0, 23, 1), 24);
        Check.due("count(6) after no change", x.count(6), 5);
    }

    private static void append() {
        CakeMarks x = new CakeMarks();
        Check.due("append(0)", x.append(0), -1);
        Check.due("append(256)", x.append(256), -1);
        Check.due("append(-1)", x.append(-1), -1);
        Check.due("append(1)", x.append(1), 1);
        Check.due("append(255)", x.append(255), 2);
        for (int length = 3; length <= 60; length++) {
            Check.due("append", x.append('3'), length);
        }
        Check.due("append to a full text", x.append('3'), -3);
        Check.due("append(0) to a full text", x.append(0), -1);
        Check.due("append(256) to a full text", x.append(256), -1);
        Check.due("count(7)", x.count(7), 60);
        Check.due("count(6)", x.count(6), 0);
    }

    private static void clearText() {
        CakeMarks x = Check.seated("1x24");
        Check.due("count(6)", x.count(6), 2);
        Check.due("clearText()", x.clearText(), 4);
        Check.due("clearText() again", x.clearText(), 0);
        Check.due("count(7)", x.count(7), 0);
        Check.due("count(6)", x.count(6), 2);
        Check.due("append", x.append('2'), 1);
        x.undo();
        Check.due("count(7) after undo()", x.count(7), 1);
        Check.due("append", x.append('x'), 2);
        x.append('2');
        x.append('4');
        Check.due("read(0)", x.read(0), 48);
    }

    private static void readWhatIsRight() {
        Object[][] right = {
            {"0x24", 0}, {"9x24", 216}, {"1x23,5", 28}, {"5,1x23", 28}, {"1,2x1,3x22", 69}, {"4x12,2x12", 72},
            {"1,2,3,4,5,6,7,8,9,0,1,2,3,4,5,6,7,8,9,0,1,2,3,4", 100}, {"7x9,0x10,3x5", 78}, {"3x20,4x4", 76},
            {"1x1,2x2,3x3,4x4,5x5,6x6,7x3", 112},
        };
        for (Object[] r : right) {
            CakeMarks x = new CakeMarks();
            x.addGuest();
            Check.write(x, (String) r[0]);
            Check.due("read of " + r[0], x.read(0), (Integer) r[1]);
        }
        CakeMarks x = Check.seated("1x1,2x2,3x3,4x4,5x5,6x6,7x3");
        int[] due = {1, 2, 2, 3, 3, 3, 4, 4, 4, 4, 5, 5, 5, 5, 5, 6, 6, 6, 6, 6, 6, 7, 7, 7};
        for (int crumb = 0; crumb < 24; crumb++) {
            Check.due("value(0, " + crumb + ")", x.value(0, crumb), due[crumb]);
        }
    }

    private static void readWhatFails() {
        Object[][] wrong = {
            {"", 0}, {",", 0}, {"x", 0}, {" 1x24", 0}, {"a", 0}, {"/", 0}, {":", 0},
            {"1", 1}, {"12", 1}, {"1 ", 1}, {"1X24", 1}, {"1,", 2}, {"1,,", 2}, {"1,x", 2},
            {"1x", 2}, {"1x,", 2}, {"1xx", 2}, {"1x0", 2}, {"1x012", 2}, {"1x24x", 4}, {"1x24 ", 4},
            {"1x25", 2}, {"1x25,", 2}, {"1x99z", 2}, {"1x2z", 3}, {"1x123", 4}, {"1x999", 4}, {"1x241", 4},
            {"1x24,", 5}, {"1x24,1", 5}, {"1x24,,", 5}, {"1x24,z", 5}, {"1x23", 4}, {"1x23,", 5},
            {"1x23,1,", 7}, {"1x23,1,1", 7}, {"1x23,1x2", 7}, {"1x23,1x2z", 7}, {"1x23,1x123", 9},
            {"1x20,1x5", 7}, {"1x20,1x4,", 9}, {"1x20,1x3", 8}, {"1x20,1x11", 7}, {"1x23,1x", 7}, {"1x23,1x0", 7},
            {"1,1,1", 5}, {"1x1x1", 3}, {"1x5,2x", 6}, {"1x5;2", 3},
        };
        for (Object[] w : wrong) {
            CakeMarks x = new CakeMarks();
            x.addGuest();
            Check.write(x, (String) w[0]);
            Check.due("read of " + w[0], x.read(0), -1000 - (Integer) w[1]);
            Check.due("count(6) after " + w[0], x.count(6), 1);
            Check.due("guest(0, 0) after " + w[0], x.guest(0, 0), 24);
            Check.due("count(7) after " + w[0], x.count(7), ((String) w[0]).length());
            Check.due("read(1) of " + w[0], x.read(1), -1);
            Check.due("read(-1) of " + w[0], x.read(-1), -1);
        }
    }

    private static void readForgetsTheTextBefore() {
        CakeMarks x = Check.seated("1x24");
        Check.write(x, "1");
        Check.due("read of 1", x.read(0), -1001);
        Check.write(x, "1x24,3x5");
        Check.write(x, "1x2");
        Check.due("read of 1x2", x.read(0), -1003);
        Check.write(x, "1x");
        Check.due("read of 1x", x.read(0), -1002);
    }

    private static void readIsAnAction() {
        CakeMarks x = new CakeMarks();
        x.addGuest();
        x.addGuest();
        Check.write(x, "2x24");
        Check.due("read(1)", x.read(1), 48);
        Check.due("count(6)", x.count(6), 3);
        Check.due("count(7)", x.count(7), 4);
        Check.due("guest(0, 0)", x.guest(0, 0), 24);
        Check.due("read(0)", x.read(0), 48);
        Check.due("undo()", x.undo(), 3);
        Check.due("guest(0, 0)", x.guest(0, 0), 24);
        Check.due("guest(1, 0)", x.guest(1, 0), 48);
        Check.due("undo()", x.undo(), 2);
        Check.due("guest(1, 0)", x.guest(1, 0), 24);
    }
}
