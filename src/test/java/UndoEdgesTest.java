/** Undo: 5 states, the sixth one, an empty history, what is recorded, what a state is and what it is not. */
final class UndoEdgesTest {
    public static void main(String[] args) {
        fiveStates();
        theSixthState();
        anEmptyHistory();
        everyActionIsRecorded();
        actionsThatChangeNothing();
        whatIsNoAction();
        guestsAreOfTheState();
        valuesAreOfTheState();
        ownersAreOfTheState();
        theTextIsNot();
        theHistoryIsNot();
        searchesFollow();
        manyStates();
        Check.finish();
    }

    private static void fiveStates() {
        CakeMarks x = new CakeMarks();
        for (int states = 1; states <= 5; states++) {
            x.putBack(0, 23);
            Check.due("count(6)", x.count(6), states);
        }
        for (int left = 4; left >= 0; left--) {
            Check.due("undo()", x.undo(), left);
            Check.due("count(6)", x.count(6), left);
        }
        Check.due("undo() of none", x.undo(), -2);
    }

    private static void theSixthState() {
        // As many states as fit: the way leads back to the beginning.
        CakeMarks x = new CakeMarks();
        x.addGuest();
        for (int crumb = 0; crumb < 4; crumb++) {
            x.give(0, crumb, crumb);
        }
        Check.due("count(6) of five", x.count(6), 5);
        back(x, 5);
        Check.due("count(0) at the beginning", x.count(0), 0);
        // One more: the oldest state is dropped, the one without a guest.
        x = new CakeMarks();
        x.addGuest();
        for (int crumb = 0; crumb < 5; crumb++) {
            x.give(0, crumb, crumb);
        }
        Check.due("count(6) of six", x.count(6), 5);
        for (int left = 4; left >= 0; left--) {
            Check.due("undo()", x.undo(), left);
            Check.due("guest(0, 2)", x.guest(0, 2), left);
        }
        Check.due("undo() of the sixth", x.undo(), -2);
        Check.due("count(0) as far back as it goes", x.count(0), 1);
    }

    private static void back(CakeMarks x, int steps) {
        for (int step = 1; step <= steps; step++) {
            Check.due("undo()", x.undo(), steps - step);
        }
    }

    private static void anEmptyHistory() {
        CakeMarks x = new CakeMarks();
        Check.due("undo() of a new object", x.undo(), -2);
        Check.due("undo() once more", x.undo(), -2);
        Check.due("count(6)", x.count(6), 0);
        x.addGuest();
        Check.due("undo()", x.undo(), 0);
        Check.due("undo() of none", x.undo(), -2);
        Check.due("count(0)", x.count(0), 0);
        // After undo() has failed, five states have room again.
        x.addGuest();
        for (int crumb = 0; crumb < 4; crumb++) {
            x.give(0, crumb, crumb);
        }
        back(x, 5);
        Check.due("count(0)", x.count(0), 0);
    }

    private static void everyActionIsRecorded() {
        for (Story story : new Story[] {Story.TWO, Story.THREE}) {
            Sight.dueAction(story, story.told().count(0), "addGuest");
            Sight.dueAction(story, story == Story.TWO ? 40 : 56, "setValue", 0, 1, 8, 3);
            Sight.dueAction(story, story == Story.TWO ? 27 : 48, "read", 0);
            Sight.dueAction(story, story == Story.TWO ? 24 : 16, "give", 1, 0, 23);
            Sight.dueAction(story, story == Story.TWO ? 0 : 8, "putBack", 0, 23);
            Sight.dueAction(story, story == Story.TWO ? 2 : 1, "move", 40, 3);
            Sight.dueAction(story, 15, "cut", 0, 1, 12, 17);
            Sight.dueAction(story, story == Story.TWO ? 0 : 2, "trim", 0, 1);
        }
        Sight.dueAction(Story.THREE, 3, "exchange");
    }

    /** Every successful action records, also if nothing changes by it. */
    private static void actionsThatChangeNothing() {
        Story story = new Story("a laid table", "addGuest", "addGuest", "give 0 0 23", "text 1x24");
        Sight.dueAction(story, 24, "setValue", 0, 0, 23, 1);
        Sight.dueAction(story, 24, "read", 1);
        Sight.dueAction(story, 0, "give", 0, 0, 23);
        Sight.dueAction(story, 0, "give", 1, 5, 5);
        Sight.dueAction(story, 0, "move", 1, 3);
        Sight.dueAction(story, 0, "trim", 1, 0);
        Sight.dueAction(Story.NONE, 0, "putBack", 0, 23);
        Sight.dueAction(Story.FOUR, 0, "putBack", 7, 7);
        Sight.dueAction(Story.FOUR, 0, "trim", 0, 3);
        Story rest = new Story("a little rest", "addGuest", "give 0 0 22");
        Sight.dueAction(rest, 0, "move", 50, 1);
    }

    /** The text's calls, a text that fails, looks and refused calls record nothing; neither does undo(). */
    private static void whatIsNoAction() {
        CakeMarks x = Story.TWO.told();
        x.append('z');
        x.clearText();
        x.append('z');
        x.read(0);
        x.give(2, 0, 0);
        x.setValue(0, 0, 0, 10);
        x.putBack(1, 0);
        x.move(50, 4);
        x.cut(0, 0, 0, 1);
        x.trim(0, 0);
        x.exchange();
        Sight.of(x);
        Check.due("count(6)", x.count(6), 3);
        x.undo();
        Check.due("undo() records nothing", x.count(6), 2);
    }

    private static void guestsAreOfTheState() {
        CakeMarks x = new CakeMarks();
        for (int guest = 0; guest < 4; guest++) {
            x.addGuest();
        }
        Check.due("addGuest() of a fifth", x.addGuest(), -3);
        Check.due("undo()", x.undo(), 3);
        Check.due("count(0)", x.count(0), 3);
        Check.due("addGuest()", x.addGuest(), 3);
        Check.due("undo()", x.undo(), 3);
        Check.due("undo()", x.undo(), 2);
        Check.due("undo()", x.undo(), 1);
        Check.due("undo()", x.undo(), 0);
        Check.due("count(0)", x.count(0), 0);
        // A guest who comes again has the values of a new one, and nothing.
        CakeMarks y = new CakeMarks();
        y.addGuest();
        y.setValue(0, 0, 23, 7);
        y.give(0, 0, 23);
        back(y, 3);
        Check.dueOwners("undo", y, "........................");
        Check.due("addGuest()", y.addGuest(), 0);
        Check.due("guest(0, 0)", y.guest(0, 0), 24);
        Check.due("guest(0, 1)", y.guest(0, 1), 0);
    }

    private static void valuesAreOfTheState() {
        CakeMarks x = new CakeMarks();
        x.addGuest();
        x.addGuest();
        x.setValue(0, 0, 0, 9);
        x.setValue(1, 23, 23, 0);
        Check.write(x, "2x24");
        x.read(0);
        Check.due("undo()", x.undo(), 4);
        Check.that("values of 0", Sight.values(x, 0).equals("9" + "1".repeat(23)));
        Check.that("values of 1", Sight.values(x, 1).equals("1".repeat(23) + "0"));
        x.undo();
        Check.that("values of 1 then", Sight.values(x, 1).equals("1".repeat(24)));
        Check.due("value(0, 0)", x.value(0, 0), 9);
        x.undo();
        Check.that("values of 0 then", Sight.values(x, 0).equals("1".repeat(24)));
        // Of every guest up to the last one, and every crumb from the first to the last one.
        for (int guest = 0; guest < 4; guest++) {
            CakeMarks y = Story.FOUR.told();
            y.setValue(guest, 0, 11, 8);
            y.setValue(guest, 12, 23, 9);
            y.undo();
            Check.that("values of " + guest, Sight.values(y, guest).equals("8".repeat(12) + "1".repeat(12)));
            y.undo();
            Check.that("values of " + guest + " then", Sight.values(y, guest).equals("1".repeat(24)));
            Check.due("read", y.read(guest), 64);
            y.undo();
            Check.that("values of " + guest + " after read", Sight.values(y, guest).equals("1".repeat(24)));
        }
    }

    private static void ownersAreOfTheState() {
        CakeMarks x = Check.seated("1x24", "1x24");
        x.give(0, 0, 0);
        x.give(1, 23, 23);
        x.cut(0, 1, 1, 22);
        x.putBack(0, 23);
        Check.dueOwners("putBack", x, "........................");
        Check.due("undo()", x.undo(), 4);
        Check.dueOwners("undo of putBack", x, "011111111111000000000001");
        x.undo();
        Check.dueOwners("undo of cut", x, "0......................1");
        x.undo();
        Check.dueOwners("undo of give", x, "0.......................");
        x.undo();
        Check.dueOwners("undo of the first give", x, "........................");
        // Of every guest, and every crumb from the first to the last one.
        CakeMarks y = Story.FOUR.told();
        String laid = "0".repeat(6) + "1".repeat(6) + "2".repeat(6) + "3".repeat(6);
        y.move(25, 15);
        y.putBack(0, 23);
        Check.due("undo()", y.undo(), 4);
        Check.dueOwners("undo of putBack", y, laid);
        y.trim(3, 0);
        Check.due("undo()", y.undo(), 4);
        Check.dueOwners("undo of trim", y, laid);
        Check.due("undo()", y.undo(), 3);
        Check.dueOwners("undo of move", y, "........................");
    }

    private static void theTextIsNot() {
        CakeMarks x = new CakeMarks();
        x.addGuest();
        Check.write(x, "3x24");
        x.read(0);
        x.append(',');
        Check.due("undo()", x.undo(), 1);
        Check.due("count(7) after undo()", x.count(7), 5);
        Check.due("read after undo()", x.read(0), -1005);
        Check.write(x, "4x24");
        Check.due("undo()", x.undo(), 0);
        Check.due("count(7) after undo()", x.count(7), 4);
        x.addGuest();
        Check.due("read after undo()", x.read(0), 96);
        x.clearText();
        x.undo();
        Check.due("count(7) after clearText() and undo()", x.count(7), 0);
    }

    /** A state doesn't hold the history: undo() goes back by one, and what comes then is recorded behind what is left. */
    private static void theHistoryIsNot() {
        CakeMarks x = new CakeMarks();
        x.addGuest();
        x.give(0, 0, 0);
        x.give(0, 1, 1);
        x.undo();
        x.undo();
        Check.due("count(6)", x.count(6), 1);
        x.give(0, 2, 2);
        Check.due("count(6)", x.count(6), 2);
        x.give(0, 3, 3);
        x.undo();
        Check.dueOwners("undo of the last give", x, "..0.....................");
        x.undo();
        Check.dueOwners("undo of the new give", x, "........................");
        Check.due("count(0)", x.count(0), 1);
        x.undo();
        Check.due("count(0)", x.count(0), 0);
        Check.due("undo() of none", x.undo(), -2);
    }

    /** What could be is told of the present state, also when it has come back. */
    private static void searchesFollow() {
        CakeMarks x = new CakeMarks();
        x.addGuest();
        x.addGuest();
        Check.due("best(3)", x.best(3), 12);
        Check.due("calm(0)", x.calm(0), 2);
        x.setValue(0, 12, 23, 0);
        Check.due("best(3)", x.best(3), 8);
        Check.due("calm(0)", x.calm(0), 7);
        x.addGuest();
        Check.due("best(4)", x.best(4) > 0 ? 1 : 0, 1);
        x.undo();
        Check.due("best(3)", x.best(3), 8);
        Check.due("best(4)", x.best(4), -9);
        Check.due("calm(0)", x.calm(0), 7);
        x.undo();
        Check.due("best(3)", x.best(3), 12);
        Check.due("calm(0)", x.calm(0), 2);
        x.undo();
        Check.due("best(1)", x.best(1), 1);
        Check.due("calm(0)", x.calm(0), -2);
        x.undo();
        Check.due("best(0)", x.best(0), -2);
    }

    /** Up to 512 calls: the history goes round many times, and the last five states are always there. */
    private static void manyStates() {
        CakeMarks x = new CakeMarks();
        x.addGuest();
        x.addGuest();
        for (int round = 0; round < 60; round++) {
            Check.due("setValue", x.setValue(round % 2, 0, 0, round % 10), 23 + round % 10);
            Check.due("count(6)", x.count(6), Math.min(5, 3 + round));
            if (round % 7 == 6) {
                Check.due("undo()", x.undo(), 4);
                Check.due("undo()", x.undo(), 3);
                Check.due("value", x.value(round % 2, 0), (round - 2) % 10);
                Check.due("value", x.value(1 - round % 2, 0), (round - 3) % 10);
                x.putBack(0, 0);
                x.putBack(0, 0);
            }
        }
    }
}
