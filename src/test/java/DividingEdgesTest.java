/** The edges of the cake, of shares and envy, of moving marks, cut and choose, trimming and exchanges. */
final class DividingEdgesTest {
    private static final String TABLE = "........................";

    public static void main(String[] args) {
        crumbsAndGuests();
        givenAndPutBack();
        totals();
        shares();
        enoughShares();
        spansOfAPiece();
        whatLiesOnTheTable();
        envyIsGreaterThan();
        arrows();
        marksCallAtTheirPart();
        marksOfATotalOf0();
        whoCallsFirst();
        whatStaysOnTheTable();
        marksOverGaps();
        cutAheadOfTheSmallestDifference();
        cutOfTheFirstOfSeveral();
        chooserTakesTheGreater();
        cutOnTheTableAlone();
        trimming();
        trimmingToNothing();
        ringsOfTwo();
        ringsOfThreeAndFour();
        theFirstRing();
        Check.finish();
    }

    private static void crumbsAndGuests() {
        CakeMarks x = new CakeMarks();
        Check.dueOwners("new", x, TABLE);
        Check.due("count(1)", x.count(1), 24);
        Check.due("text", x.clearText(), 0);
        for (int guest = 0; guest < 4; guest++) {
            Check.due("addGuest()", x.addGuest(), guest);
            Check.that("values of a new guest", Sight.values(x, guest).equals("1".repeat(24)));
        }
        Check.due("addGuest() of a fifth", x.addGuest(), -3);
        Check.due("addGuest() once more", x.addGuest(), -3);
        Check.due("count(0)", x.count(0), 4);
        Check.due("count(4), nobody has anything", x.count(4), 1);
        Check.due("count(5), nobody has anything", x.count(5), 0);
    }

    private static void givenAndPutBack() {
        CakeMarks x = Check.seated("1x24", "1x24");
        Check.due("give of all", x.give(1, 0, 23), 24);
        Check.due("count(1) of a laid table", x.count(1), 0);
        Check.due("give of what belongs to another one", x.give(0, 0, 23), 0);
        Check.due("give of what is the own", x.give(1, 0, 23), 0);
        Check.dueOwners("give", x, "1".repeat(24));
        Check.due("putBack of the ends", x.putBack(0, 0) + x.putBack(23, 23), 2);
        Check.dueOwners("putBack", x, "." + "1".repeat(22) + ".");
        Check.due("give of the two that are back", x.give(0, 0, 23), 2);
        Check.dueOwners("give", x, "0" + "1".repeat(22) + "0");
        Check.due("putBack whoever has them", x.putBack(0, 23), 24);
        Check.due("putBack of an empty span", x.putBack(0, 23), 0);
        Check.dueOwners("putBack of all", x, TABLE);
    }

    private static void totals() {
        CakeMarks x = Check.seated("9x24", "0x24", "0x23,1");
        Check.due("the greatest total", x.guest(0, 0), 216);
        Check.due("the smallest total", x.guest(1, 0), 0);
        Check.due("a total of 1", x.guest(2, 0), 1);
        Check.due("setValue to the greatest", x.setValue(1, 0, 23, 9), 216);
        Check.due("setValue to the smallest", x.setValue(0, 0, 23, 0), 0);
        x.give(0, 0, 23);
        Check.due("guest(0, 1) of a total of 0", x.guest(0, 1), 0);
        Check.due("guest(0, 2)", x.guest(0, 2), 24);
    }

    private static void dueShare(CakeMarks x, int guest, int numerator, int denominator) {
        Check.due("numerator", x.guest(guest, 3), numerator);
        Check.due("denominator", x.guest(guest, 4), denominator);
    }

    /** In lowest terms, 0 is 0 by 1, and so is every share of a total of 0. */
    private static void shares() {
        CakeMarks x = Check.seated("9x24", "0x24", "1,0x22,1", "1x23,0");
        dueShare(x, 0, 0, 1);
        dueShare(x, 1, 0, 1);
        x.give(0, 0, 0);
        dueShare(x, 0, 1, 24);
        x.give(0, 1, 22);
        dueShare(x, 0, 23, 24);
        x.give(0, 23, 23);
        dueShare(x, 0, 1, 1);
        x.putBack(0, 23);
        x.give(1, 0, 23);
        dueShare(x, 1, 0, 1);
        x.setValue(1, 0, 0, 1);
        dueShare(x, 1, 1, 1);
        x.putBack(0, 0);
        dueShare(x, 1, 0, 1);
        x.give(2, 0, 0);
        dueShare(x, 2, 1, 2);
        // A piece without value, of a total above 0.
        x.putBack(0, 23);
        x.give(2, 1, 22);
        dueShare(x, 2, 0, 1);
        x.give(3, 23, 23);
        dueShare(x, 3, 0, 1);
        x.putBack(0, 23);
        x.give(3, 0, 21);
        dueShare(x, 3, 22, 23);
        x.setValue(0, 0, 23, 1);
        x.setValue(0, 23, 23, 0);
        x.putBack(0, 23);
        x.give(0, 0, 0);
        dueShare(x, 0, 1, 23);
        x.setValue(0, 0, 23, 9);
        x.setValue(0, 23, 23, 8);
        dueShare(x, 0, 9, 215);
    }

    /** At least 1 divided by the number of guests: just that is enough, and a total of 0 never is. */
    private static void enoughShares() {
        CakeMarks x = Check.seated("1x24");
        x.give(0, 0, 22);
        Check.due("23 of 24 alone", x.count(5), 0);
        x.give(0, 23, 23);
        Check.due("24 of 24 alone", x.count(5), 1);
        x.setValue(0, 0, 23, 0);
        Check.due("all of a total of 0 alone", x.count(5), 0);
        int[] due = {0, 24, 12, 8, 6};
        for (int guests = 2; guests <= 4; guests++) {
            CakeMarks y = new CakeMarks();
            for (int guest = 0; guest < guests; guest++) {
                y.addGuest();
            }
            y.give(guests - 1, 0, due[guests] - 2);
            Check.due("less than the share of " + guests, y.count(5), 0);
            y.give(guests - 1, 0, due[guests] - 1);
            Check.due("the share of " + guests, y.count(5), 1);
            for (int guest = 0; guest < guests - 1; guest++) {
                int end = 24 - guest * due[guests];
                y.give(guest, end - due[guests], end - 1);
            }
            Check.due("all of " + guests, y.count(5), guests);
            y.addGuest();
            Check.due("count(5) with one more", y.count(5), guests);
        }
        // A total of 1 is had whole or not at all.
        CakeMarks w = Check.seated("0x5,1,0x18", "1x24");
        w.give(0, 0, 4);
        Check.due("0 of 1", w.count(5), 0);
        w.give(0, 5, 5);
        Check.due("1 of 1", w.count(5), 1);
        // A third of a total of 25 is more than 8.
        CakeMarks z = Check.seated("1x23,2", "1x24", "1x24");
        z.give(0, 0, 7);
        Check.due("8 of 25", z.count(5), 0);
        z.give(0, 8, 8);
        Check.due("9 of 25", z.count(5), 1);
    }

    /** Crumbs side by side are one span; the last crumb and the first one are not side by side. */
    private static void spansOfAPiece() {
        CakeMarks x = Check.seated("1x24", "1x24");
        Check.due("no span", x.guest(0, 5), 0);
        x.give(0, 0, 0);
        Check.due("the first crumb", x.guest(0, 5), 1);
        x.give(0, 23, 23);
        Check.due("the first and the last crumb", x.guest(0, 5), 2);
        x.give(0, 1, 1);
        x.give(0, 22, 22);
        Check.due("two of two crumbs", x.guest(0, 5), 2);
        x.give(0, 3, 3);
        Check.due("a gap of one crumb", x.guest(0, 5), 3);
        x.give(1, 2, 2);
        Check.due("a gap that another one has", x.guest(0, 5), 3);
        Check.due("the other one", x.guest(1, 5), 1);
        x.putBack(2, 2);
        x.give(0, 0, 23);
        Check.due("the whole cake", x.guest(0, 5), 1);
        CakeMarks y = Check.seated("1x24", "1x24");
        for (int crumb = 0; crumb < 24; crumb++) {
            y.give(crumb % 2, crumb, crumb);
        }
        Check.due("every other crumb", y.guest(0, 5), 12);
        Check.due("every other crumb, to the last one", y.guest(1, 5), 12);
    }

    private static void whatLiesOnTheTable() {
        CakeMarks x = Check.seated("2,3x22,4", "0x24");
        Check.due("all of it", x.guest(0, 6), 72);
        x.give(1, 0, 0);
        Check.due("without the first crumb", x.guest(0, 6), 70);
        x.give(0, 23, 23);
        Check.due("without the last crumb", x.guest(0, 6), 66);
        x.give(1, 0, 23);
        Check.due("nothing", x.guest(0, 6), 0);
        Check.due("count(1)", x.count(1), 0);
    }

    /** Envied is a piece of a greater value, by the difference; one of the same value isn't. */
    private static void envyIsGreaterThan() {
        CakeMarks x = Check.seated("1x24", "9x24", "0x24");
        Check.due("nobody has anything", x.envy(0, 1), 0);
        x.give(0, 0, 0);
        Check.due("envy by one crumb", x.envy(1, 0), 9);
        Check.due("no envy of an empty piece", x.envy(0, 1), 0);
        Check.due("no envy of a total of 0", x.envy(2, 0), 0);
        x.give(1, 23, 23);
        Check.due("two like pieces", x.envy(1, 0), 0);
        Check.due("two like pieces", x.envy(0, 1), 0);
        Check.due("count(4)", x.count(4), 1);
        x.give(1, 22, 22);
        Check.due("envy of 1", x.envy(0, 1), 1);
        Check.due("the other way", x.envy(1, 0), 0);
        Check.due("count(4)", x.count(4), 0);
        x.putBack(0, 23);
        x.give(2, 0, 23);
        Check.due("the greatest envy", x.envy(1, 2), 216);
        Check.due("the table is envied by nobody", x.count(2), 2);
        x.putBack(0, 23);
        Check.due("the table is envied by nobody", x.count(2), 0);
    }

    private static void arrows() {
        CakeMarks x = Check.seated("9x6,0x18", "9x6,0x18", "9x6,0x18", "9x6,0x18");
        int[] dueArrows = {3, 4, 3, 0};
        int[] dueEnvies = {3, 4, 3, 0};
        for (int guest = 0; guest < 4; guest++) {
            x.give(guest, guest, guest);
            Check.due("arrows of " + guest, x.count(2), dueArrows[guest]);
            Check.due("envies of " + guest, x.count(3), 9 * dueEnvies[guest]);
            Check.due("nobody envies " + guest, x.count(4), guest == 3 ? 1 : 0);
        }
        // The most arrows: each of four envies each other one.
        CakeMarks y = Check.seated("0x6,1x18", "1x6,0x6,1x12", "1x12,0x6,1x6", "1x18,0x6");
        for (int guest = 0; guest < 4; guest++) {
            y.give(guest, 6 * guest, 6 * guest + 5);
        }
        Check.due("the most arrows", y.count(2), 12);
        Check.due("their envies", y.count(3), 72);
        Check.due("count(4)", y.count(4), 0);
    }

    private static void dueMove(CakeMarks x, int part, int guests, int want, String owners) {
        Check.due("calls(" + part + ", " + guests + ")", x.calls(part, guests), want);
        Check.due("move(" + part + ", " + guests + ")", x.move(part, guests), want);
        Check.dueOwners("move(" + part + ", " + guests + ")", x, owners);
        x.undo();
    }

    /** A guest calls if 100 times the worth is at least the part times the total: just that is enough. */
    private static void marksCallAtTheirPart() {
        CakeMarks x = Check.seated("5x8,4x15,0");
        Check.due("total", x.guest(0, 0), 100);
        dueMove(x, 1, 1, 1, "0" + ".".repeat(23));
        dueMove(x, 5, 1, 1, "0" + ".".repeat(23));
        dueMove(x, 6, 1, 1, "00" + ".".repeat(22));
        dueMove(x, 40, 1, 1, "0".repeat(8) + ".".repeat(16));
        dueMove(x, 41, 1, 1, "0".repeat(9) + ".".repeat(15));
        dueMove(x, 96, 1, 1, "0".repeat(22) + "..");
        dueMove(x, 97, 1, 1, "0".repeat(23) + ".");
        dueMove(x, 100, 1, 1, "0".repeat(23) + ".");
        // A small part of a great total, and no part of a crumb without value.
        CakeMarks y = Check.seated("1,1,9x22", "0x23,1");
        Check.due("total", y.guest(0, 0), 200);
        dueMove(y, 1, 1, 1, "00" + ".".repeat(22));
        dueMove(y, 1, 2, 1, "1".repeat(24));
        dueMove(y, 100, 2, 1, "1".repeat(24));
        dueMove(y, 100, 1, 1, "0".repeat(24));
        CakeMarks z = Check.seated("9x24");
        dueMove(z, 100, 1, 1, "0".repeat(24));
        dueMove(z, 95, 1, 1, "0".repeat(23) + ".");
        dueMove(z, 96, 1, 1, "0".repeat(24));
        dueMove(z, 4, 1, 1, "0" + ".".repeat(23));
        dueMove(z, 5, 1, 1, "00" + ".".repeat(22));
    }

    /** A guest with the total 0 calls at the first crumb that is passed, whatever the part. */
    private static void marksOfATotalOf0() {
        CakeMarks x = Check.seated("0x24", "0x24", "1x24", "0x24");
        dueMove(x, 100, 1, 1, "0" + ".".repeat(23));
        dueMove(x, 1, 1, 1, "0" + ".".repeat(23));
        dueMove(x, 100, 11, 3, "013" + ".".repeat(21));
        dueMove(x, 100, 15, 3, "013" + ".".repeat(21));
        dueMove(x, 50, 15, 4, "013" + "2".repeat(12) + ".".repeat(9));
        x.give(2, 0, 4);
        x.give(2, 6, 22);
        dueMove(x, 100, 1, 1, "222220" + "2".repeat(17) + ".");
        dueMove(x, 100, 11, 2, "222220" + "2".repeat(17) + "1");
        x.give(2, 0, 23);
        dueMove(x, 100, 11, 0, "2".repeat(24));
    }

    /** Of those who call, the one with the smallest number gets what was passed, and takes part no more. */
    private static void whoCallsFirst() {
        CakeMarks x = new CakeMarks();
        for (int guest = 0; guest < 4; guest++) {
            x.addGuest();
        }
        dueMove(x, 25, 15, 4, "0".repeat(6) + "1".repeat(6) + "2".repeat(6) + "3".repeat(6));
        dueMove(x, 25, 10, 2, "1".repeat(6) + "3".repeat(6) + ".".repeat(12));
        dueMove(x, 25, 8, 1, "3".repeat(6) + ".".repeat(18));
        dueMove(x, 1, 15, 4, "0123" + ".".repeat(20));
        dueMove(x, 1, 1, 1, "0" + ".".repeat(23));
        // The one who calls earlier is first, whatever the number.
        x.setValue(3, 0, 0, 5);
        dueMove(x, 25, 9, 2, "333" + "000000" + ".".repeat(15));
        // What was passed ahead of the cut is worth nothing to the next one.
        CakeMarks y = Check.seated("1x24", "9x12,1x12");
        Check.due("total", y.guest(1, 0), 120);
        dueMove(y, 8, 3, 2, "0011" + ".".repeat(20));
        dueMove(y, 45, 3, 2, "1".repeat(6) + "0".repeat(11) + ".".repeat(7));
        dueMove(y, 8, 2, 1, "11" + ".".repeat(22));
    }

    /** It ends when nobody takes part, or when all crumbs are passed; the rest stays on the table. */
    private static void whatStaysOnTheTable() {
        CakeMarks x = Check.seated("1x24", "1x24");
        dueMove(x, 50, 3, 2, "0".repeat(12) + "1".repeat(12));
        dueMove(x, 51, 3, 1, "0".repeat(13) + ".".repeat(11));
        dueMove(x, 46, 3, 2, "0".repeat(12) + "1".repeat(12));
        dueMove(x, 45, 3, 2, "0".repeat(11) + "1".repeat(11) + "..");
        dueMove(x, 100, 3, 1, "0".repeat(24));
        x.give(0, 23, 23);
        dueMove(x, 100, 3, 0, ".".repeat(23) + "0");
        dueMove(x, 96, 2, 0, ".".repeat(23) + "0");
        dueMove(x, 95, 2, 1, "1".repeat(23) + "0");
    }

    /** What doesn't lie on the table is passed by no mark, is worth nothing, and stays where it is. */
    private static void marksOverGaps() {
        CakeMarks x = Check.seated("1x24", "1x24", "1x24");
        x.give(2, 0, 0);
        x.give(2, 3, 4);
        x.give(2, 23, 23);
        dueMove(x, 12, 1, 1, "200220" + ".".repeat(17) + "2");
        dueMove(x, 13, 3, 2, "2002200" + "1111" + ".".repeat(12) + "2");
        // What a guest has already doesn't count.
        dueMove(x, 13, 4, 1, "2222222" + ".".repeat(16) + "2");
        dueMove(x, 83, 4, 1, "2".repeat(24));
        dueMove(x, 84, 4, 0, "2..22" + ".".repeat(18) + "2");
    }

    private static void dueCut(CakeMarks x, int cutter, int chooser, int from, int to, int want, String owners) {
        String call = "cut(" + cutter + ", " + chooser + ", " + from + ", " + to + ")";
        Check.due(call, x.cut(cutter, chooser, from, to), want);
        Check.dueOwners(call, x, owners);
        x.undo();
        if (from == 0 && to == 23) {
            Check.due("middle(" + cutter + ")", x.middle(cutter), want);
        }
    }

    /** Each part has at least one crumb, however far the smallest difference would be to the left or the right. */
    private static void cutAheadOfTheSmallestDifference() {
        CakeMarks x = Check.seated("9,1x23", "9,0x23", "0x23,9", "1,0x22,9");
        dueCut(x, 0, 1, 0, 23, 8, "1".repeat(8) + "0".repeat(16));
        dueCut(x, 1, 0, 0, 23, 1, "1" + "0".repeat(23));
        dueCut(x, 2, 0, 0, 23, 1, "2" + "0".repeat(23));
        dueCut(x, 3, 0, 0, 23, 1, "3" + "0".repeat(23));
        x.setValue(3, 22, 22, 8);
        dueCut(x, 3, 2, 0, 23, 23, "3".repeat(23) + "2");
        dueCut(x, 3, 2, 0, 1, 1, "23" + ".".repeat(22));
        dueCut(x, 3, 2, 22, 23, 23, ".".repeat(22) + "32");
        dueCut(x, 3, 1, 22, 23, 23, ".".repeat(22) + "13");
        dueCut(x, 3, 2, 20, 23, 23, ".".repeat(20) + "3332");
        dueCut(x, 3, 2, 19, 22, 20, ".".repeat(19) + "2333" + ".");
    }

    /** Of several places with the smallest difference, the first one. */
    private static void cutOfTheFirstOfSeveral() {
        CakeMarks x = Check.seated("0x24", "9,0x22,9", "1x11,0x2,1x11", "1,2,1x22");
        dueCut(x, 0, 1, 0, 23, 1, "1" + "0".repeat(23));
        dueCut(x, 1, 0, 0, 23, 1, "0" + "1".repeat(23));
        dueCut(x, 2, 0, 0, 23, 11, "0".repeat(11) + "2".repeat(13));
        // 12 and 13, and 13 and 12: the first one, with the smaller part at the left.
        dueCut(x, 3, 0, 0, 23, 11, "0".repeat(11) + "3".repeat(13));
        dueCut(x, 0, 2, 5, 9, 6, ".....02222..............");
        dueCut(x, 2, 3, 2, 4, 3, "..233...................");
        dueCut(x, 2, 3, 10, 13, 11, "..........2333..........");
    }

    /** The part with the greater value for the chooser, of two like ones the left one. */
    private static void chooserTakesTheGreater() {
        CakeMarks x = Check.seated("1x24", "1x24", "2,1x23", "1x23,2");
        dueCut(x, 0, 1, 0, 23, 12, "1".repeat(12) + "0".repeat(12));
        dueCut(x, 0, 2, 0, 23, 12, "2".repeat(12) + "0".repeat(12));
        dueCut(x, 0, 3, 0, 23, 12, "0".repeat(12) + "3".repeat(12));
        dueCut(x, 1, 0, 4, 5, 5, "....01..................");
        dueCut(x, 1, 0, 4, 6, 5, "....100.................");
        x.setValue(0, 0, 23, 0);
        dueCut(x, 1, 0, 0, 23, 12, "0".repeat(12) + "1".repeat(12));
    }

    /** Only the crumbs of the span must lie on the table; middle() tells of the whole cake, wherever it lies. */
    private static void cutOnTheTableAlone() {
        CakeMarks x = Check.seated("1x24", "1x24");
        x.give(0, 0, 9);
        x.give(1, 12, 23);
        Check.due("middle(0)", x.middle(0), 12);
        Check.due("cut of the two that are left", x.cut(0, 1, 10, 11), 11);
        Check.dueOwners("cut", x, "0".repeat(10) + "10" + "1".repeat(12));
        Check.due("cut of them again", x.cut(0, 1, 10, 11), -2);
        Check.due("middle(1) with no table", x.middle(1), 12);
        x.putBack(0, 23);
        Check.due("middle(1) with all of it", x.middle(1), 12);
        x.give(1, 12, 12);
        Check.due("cut up to it", x.cut(0, 1, 0, 11), 6);
        x.undo();
        Check.due("cut with it", x.cut(0, 1, 0, 12), -2);
        Check.due("cut from it", x.cut(0, 1, 12, 13), -2);
        Check.due("cut behind it", x.cut(0, 1, 13, 23), 18);
    }

    private static void dueTrim(CakeMarks x, int guest, int other, int want, String owners) {
        Check.due("trim(" + guest + ", " + other + ")", x.trim(guest, other), want);
        Check.dueOwners("trim(" + guest + ", " + other + ")", x, owners);
        Check.due("envy after trim", x.envy(other, guest), 0);
        x.undo();
    }

    /** As long as the piece is worth more, the crumb with the greatest number goes back. */
    private static void trimming() {
        CakeMarks x = Check.seated("1x24", "1x20,0x4", "3x24");
        dueTrim(x, 0, 1, 0, TABLE);
        x.give(1, 4, 6);
        dueTrim(x, 0, 1, 0, "....111.................");
        x.give(0, 0, 2);
        dueTrim(x, 0, 1, 0, "000.111.................");
        x.give(0, 9, 9);
        dueTrim(x, 0, 1, 1, "000.111.................");
        // Crumbs of no value behind it go back first.
        x.give(0, 22, 23);
        dueTrim(x, 0, 1, 3, "000.111.................");
        dueTrim(x, 1, 0, 0, "000.111..0............00");
        // The measure is what the other one has, for the other one.
        x.give(2, 12, 12);
        dueTrim(x, 0, 2, 5, "0...111.....2...........");
        x.putBack(12, 12);
        dueTrim(x, 0, 2, 6, "....111.................");
        // A step over the measure can lead below it.
        CakeMarks y = Check.seated("1x24", "4,5x23");
        y.give(0, 1, 2);
        y.give(1, 0, 0);
        y.give(1, 3, 3);
        dueTrim(y, 0, 1, 1, "10.1....................");
    }

    private static void trimmingToNothing() {
        CakeMarks x = Check.seated("1x24", "0x23,1", "1,0x23");
        x.give(0, 0, 23);
        dueTrim(x, 0, 1, 1, "0".repeat(23) + ".");
        dueTrim(x, 0, 2, 24, TABLE);
        x.setValue(2, 0, 0, 0);
        dueTrim(x, 0, 2, 0, "0".repeat(24));
        dueTrim(x, 1, 0, 0, "0".repeat(24));
    }

    private static void dueRing(CakeMarks x, int... ring) {
        for (int index = 0; index < 5; index++) {
            Check.due("ring(" + index + ")", x.ring(index), index < ring.length ? ring[index] : -9);
        }
    }

    /** At least two guests, of which each envies the next one, and the last one the first. */
    private static void ringsOfTwo() {
        CakeMarks x = Check.seated("1x12,2x12", "2x12,1x12");
        x.give(0, 0, 0);
        dueRing(x);
        Check.due("exchange() of one arrow", x.exchange(), -2);
        x.give(1, 23, 23);
        dueRing(x, 0, 1);
        Check.due("exchange()", x.exchange(), 2);
        Check.dueOwners("exchange", x, "1......................0");
        dueRing(x);
        Check.due("exchange() without a ring", x.exchange(), -2);
        // An envy of 0 is no arrow.
        x.undo();
        x.setValue(0, 23, 23, 1);
        dueRing(x);
        x.setValue(0, 23, 23, 2);
        x.setValue(1, 0, 0, 1);
        dueRing(x);
        // What nobody of the ring has stays where it is.
        CakeMarks y = Check.seated("1x12,2x12", "0x24", "2x12,1x12");
        y.give(0, 0, 3);
        y.give(1, 8, 9);
        y.give(2, 20, 23);
        dueRing(y, 0, 2);
        Check.due("exchange()", y.exchange(), 2);
        Check.dueOwners("exchange", y, "2222....11..........0000");
    }

    private static void ringsOfThreeAndFour() {
        // Each of four envies the next one alone; the last one the first.
        CakeMarks x = Check.seated("1x6,2x6,0x12", "0x6,1x6,2x6,0x6", "0x12,1x6,2x6", "2x6,0x12,1x6");
        for (int guest = 0; guest < 4; guest++) {
            x.give(guest, 6 * guest, 6 * guest + 5);
        }
        Check.due("count(2)", x.count(2), 4);
        dueRing(x, 0, 1, 2, 3);
        Check.due("exchange()", x.exchange(), 4);
        Check.dueOwners("exchange", x, "3".repeat(6) + "0".repeat(6) + "1".repeat(6) + "2".repeat(6));
        Check.due("count(4)", x.count(4), 1);
        x.undo();
        // What lies on the table is nobody's, and stays there.
        x.putBack(5, 6);
        x.putBack(23, 23);
        Check.due("exchange() beside a table", x.exchange(), 4);
        Check.dueOwners("exchange", x, "33333" + ".." + "00000" + "1".repeat(6) + "22222" + ".");
        x.undo();
        x.undo();
        x.undo();
        // Without the last arrow there is none.
        x.setValue(3, 0, 5, 1);
        dueRing(x);
        Check.due("exchange() without the last arrow", x.exchange(), -2);
        // A ring of three that doesn't hold guest 0, beginning with its smallest guest.
        CakeMarks y = Check.seated("1x24", "0x6,1x6,0x6,2x6", "0x6,2x6,1x6,0x6", "0x12,2x6,1x6");
        for (int guest = 0; guest < 4; guest++) {
            y.give(guest, 6 * guest, 6 * guest + 5);
        }
        dueRing(y, 1, 3, 2);
        Check.due("exchange()", y.exchange(), 3);
        Check.dueOwners("exchange", y, "0".repeat(6) + "2".repeat(6) + "3".repeat(6) + "1".repeat(6));
    }

    /** The fewest guests; of several the one whose guests come first, compared by the first guest that differs. */
    private static void theFirstRing() {
        // Each envies each other one: 0 and 1.
        CakeMarks x = Check.seated("0x6,1x18", "1x6,0x6,1x12", "1x12,0x6,1x6", "1x18,0x6");
        for (int guest = 0; guest < 4; guest++) {
            x.give(guest, 6 * guest, 6 * guest + 5);
        }
        dueRing(x, 0, 1);
        Check.due("exchange()", x.exchange(), 2);
        dueRing(x, 2, 3);
        Check.due("exchange()", x.exchange(), 2);
        dueRing(x);
        // A ring of two with great numbers goes ahead of one of three with small ones.
        CakeMarks y = Check.seated("1x6,2x6,0x12", "0x6,1x6,2x12", "2x6,0x6,1x12", "0x6,2x6,0x6,1x6");
        for (int guest = 0; guest < 4; guest++) {
            y.give(guest, 6 * guest, 6 * guest + 5);
        }
        dueRing(y, 1, 3);
        Check.due("exchange()", y.exchange(), 2);
        Check.dueOwners("exchange", y, "0".repeat(6) + "3".repeat(6) + "2".repeat(6) + "1".repeat(6));
        // Two rings of three that begin with 0: the second guest decides, then the third one.
        CakeMarks z = Check.seated("1x6,2x18", "0x6,1x6,2x6,0x6", "2x6,0x6,1x6,0x6", "0x6,2x6,0x6,1x6");
        for (int guest = 0; guest < 4; guest++) {
            z.give(guest, 6 * guest, 6 * guest + 5);
        }
        // 0 envies 2, who envies 0.
        dueRing(z, 0, 2);
        z.setValue(0, 12, 17, 1);
        // 0 to 1 to 2 to 0 alone: 3 envies 1 only.
        dueRing(z, 0, 1, 2);
        z.setValue(1, 18, 23, 2);
        // 1 and 3 envy each other.
        dueRing(z, 1, 3);
        z.setValue(3, 6, 11, 0);
        z.setValue(3, 0, 5, 2);
        // 0 to 1 to 2 to 0, and 0 to 1 to 3 to 0 ... but 0 and 3 envy each other.
        dueRing(z, 0, 3);
        z.setValue(0, 18, 23, 1);
        // 0 1 2 and 0 1 3: the third guest decides.
        dueRing(z, 0, 1, 2);
        z.setValue(2, 0, 5, 0);
        dueRing(z, 0, 1, 3);
        z.setValue(0, 6, 11, 1);
        dueRing(z);
    }
}
