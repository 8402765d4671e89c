/** Promises 14 to 18. */
final class LookingTest {
    public static void main(String[] args) {
        count();
        countContentGuests();
        guest();
        crumb();
        value();
        envy();
        Check.finish();
    }

    private static void count() {
        CakeMarks x = Check.seated("1x24", "2x24", "0x12,1x12");
        x.give(0, 0, 5);
        x.give(1, 6, 9);
        x.give(2, 12, 12);
        // 1 envies 0 by 4, and nobody else envies anybody.
        int[] due = {3, 13, 1, 4, 0, 0, 5, 9};
        for (int what = 0; what < due.length; what++) {
            Check.due("count(" + what + ")", x.count(what), due[what]);
        }
        x.give(2, 13, 23);
        // 0 envies 2 by 6, 1 envies 0 by 4 and 2 by 16.
        Check.due("count(2)", x.count(2), 3);
        Check.due("count(3)", x.count(3), 26);
        Check.due("count(4)", x.count(4), 0);
        Check.due("count(5)", x.count(5), 1);
        x.putBack(1, 23);
        Check.due("count(2), envies of 1 and 2", x.count(2), 1);
        Check.due("count(3), envies of 1 and 2", x.count(3), 2);
        x.setValue(1, 0, 0, 1);
        Check.due("count(2), an envy of 1", x.count(2), 1);
        Check.due("count(4), an envy of 1", x.count(4), 0);
        x.putBack(0, 23);
        Check.due("count(2) of nothing", x.count(2), 0);
        Check.due("count(3) of nothing", x.count(3), 0);
        Check.due("count(4) of nothing", x.count(4), 1);
        Check.due("count(-1)", x.count(-1), -1);
        Check.due("count(8)", x.count(8), -1);
    }

    private static void countContentGuests() {
        CakeMarks x = Check.seated("1x24", "1x24", "1x24");
        x.give(0, 0, 7);
        Check.due("count(5), a third", x.count(5), 1);
        x.putBack(0, 0);
        Check.due("count(5), less", x.count(5), 0);
        x.addGuest();
        Check.due("count(5), more than a fourth", x.count(5), 1);
        x.give(3, 10, 14);
        x.give(2, 15, 20);
        Check.due("count(5), 5 and 6 of 24", x.count(5), 2);
        x.setValue(0, 0, 23, 0);
        Check.due("count(5), a total of 0", x.count(5), 1);
        x.setValue(0, 1, 1, 1);
        Check.due("count(5), all of a total of 1", x.count(5), 2);
    }

    private static void guest() {
        CakeMarks x = Check.seated("1x12,3x12", "0x24");
        x.give(0, 0, 2);
        x.give(0, 10, 12);
        x.give(0, 23, 23);
        x.give(1, 3, 4);
        int[] due = {48, 11, 7, 11, 48, 3, 35};
        for (int what = 0; what < due.length; what++) {
            Check.due("guest(0, " + what + ")", x.guest(0, what), due[what]);
        }
        int[] other = {0, 0, 2, 0, 1, 1, 0};
        for (int what = 0; what < other.length; what++) {
            Check.due("guest(1, " + what + ")", x.guest(1, what), other[what]);
        }
        x.give(0, 13, 13);
        x.putBack(0, 1);
        Check.due("share 12 of 48", x.guest(0, 3), 1);
        Check.due("share 12 of 48", x.guest(0, 4), 4);
        x.putBack(0, 23);
        Check.due("share 0", x.guest(0, 3), 0);
        Check.due("share 0", x.guest(0, 4), 1);
        Check.due("no span", x.guest(0, 5), 0);
        Check.due("all on the table", x.guest(0, 6), 48);
        Check.due("guest(0, -1)", x.guest(0, -1), -1);
        Check.due("guest(0, 7)", x.guest(0, 7), -1);
        Check.due("guest(2, 0)", x.guest(2, 0), -1);
        Check.due("guest(-1, 0)", x.guest(-1, 0), -1);
        x.setValue(1, 4, 4, 1);
        x.give(1, 4, 4);
        Check.due("share 1 of 1", x.guest(1, 3), 1);
        Check.due("share 1 of 1", x.guest(1, 4), 1);
        x.putBack(4, 4);
        x.give(0, 0, 23);
        Check.due("share 1", x.guest(0, 3), 1);
        Check.due("share 1", x.guest(0, 4), 1);
    }

    private static void crumb() {
        CakeMarks x = Check.seated("1x24", "1x24");
        x.give(1, 0, 0);
        x.give(0, 23, 23);
        Check.due("crumb(0)", x.crumb(0), 1);
        Check.due("crumb(23)", x.crumb(23), 0);
        Check.due("crumb(1)", x.crumb(1), -9);
        Check.due("crumb(-1)", x.crumb(-1), -1);
        Check.due("crumb(24)", x.crumb(24), -1);
    }

    private static void value() {
        CakeMarks x = Check.seated("3,1x22,7");
        Check.due("value(0, 0)", x.value(0, 0), 3);
        Check.due("value(0, 22)", x.value(0, 22), 1);
        Check.due("value(0, 23)", x.value(0, 23), 7);
        Check.due("value(0, 24)", x.value(0, 24), -1);
        Check.due("value(0, -1)", x.value(0, -1), -1);
        Check.due("value(1, 0)", x.value(1, 0), -1);
        Check.due("value(-1, 0)", x.value(-1, 0), -1);
    }

    private static void envy() {
        CakeMarks x = Check.seated("1x12,2x12", "1x24");
        x.give(0, 0, 3);
        x.give(1, 12, 14);
        Check.due("envy(0, 1)", x.envy(0, 1), 2);
        Check.due("envy(1, 0)", x.envy(1, 0), 1);
        x.putBack(3, 3);
        Check.due("envy(1, 0), two like ones", x.envy(1, 0), 0);
        x.putBack(12, 14);
        Check.due("envy(0, 1), none", x.envy(0, 1), 0);
        Check.due("envy(1, 0)", x.envy(1, 0), 3);
        int[][] wrong = {{0, 0}, {1, 1}, {-1, 0}, {0, -1}, {2, 0}, {0, 2}};
        for (int[] w : wrong) {
            Check.due("wrong envy", x.envy(w[0], w[1]), -1);
        }
    }
}
