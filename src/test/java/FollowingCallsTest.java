/**
 * Calls one behind another: what an action, a refused call, a look, a call of the text and undo() leave for the calls
 * behind them, now and all the way back through the history.
 */
final class FollowingCallsTest {
    /** Calls of every method: some are refused in each story, others only behind some of the calls here. */
    private static final String[] CALLS = {
        "addGuest", "setValue 0 0 23 0", "setValue 1 4 11 7", "setValue 2 0 0 9", "setValue 0 5 4 1", "setValue 0 0 0 10",
        "append 44", "append 49", "append 0", "clearText", "read 0", "read 1", "read 4",
        "give 0 0 23", "give 1 6 7", "give 2 0 11", "give 0 24 24", "putBack 0 23", "putBack 4 8", "putBack 9 8",
        "move 25 3", "move 60 1", "move 20 15", "move 0 1", "move 50 16",
        "cut 0 1 12 17", "cut 1 0 0 23", "cut 1 1 12 17", "cut 0 1 12 12",
        "trim 0 1", "trim 1 0", "trim 2 1", "trim 0 0", "exchange", "undo",
        "count 3", "count 8", "guest 0 3", "guest 9 0", "crumb 4", "crumb 24", "value 1 8", "value 1 24",
        "envy 1 0", "envy 1 1", "ring 0", "ring -1", "middle 1", "middle 4",
        "best 0", "best 4", "best 6", "calm 0", "calm 2", "calm 3", "calls 25 3", "calls 101 1",
    };

    private static final String[] ACTIONS = {
        "addGuest", "setValue 0 0 23 0", "setValue 1 4 11 7", "read 0", "read 1", "give 0 0 23", "give 1 6 7",
        "putBack 0 23", "putBack 4 8", "move 25 3", "move 60 1", "cut 0 1 12 17", "trim 0 1", "trim 1 0", "exchange",
    };

    /** What stands between two actions. */
    private static final String[] BETWEEN = {
        "undo", "append 44", "clearText", "best 0", "calm 0", "ring 0", "calls 25 3", "middle 0",
        "read 4", "setValue 0 0 0 10", "give 0 24 24", "putBack 9 8", "move 50 16", "cut 1 1 12 17", "trim 0 0",
    };

    private static final Story[] STORIES = {Story.NONE, Story.ONE, Story.TWO, Story.THREE, Story.FOUR};

    public static void main(String[] args) {
        eachCallBehindEachOther();
        betweenTwoActions();
        theSameOnceMore();
        backAndForth();
        refusedCallsOneBehindAnother();
        looksOneBehindAnother();
        aFullTextAndAnEmptyOne();
        allCallsThatArePromised();
        twoObjectsByTurns();
        Check.finish();
    }

    private static void dueBehind(Story story, String... calls) {
        Twins present = story.toldToBoth();
        Twins back = story.toldToBoth();
        for (String call : calls) {
            present.ask(call);
            back.ask(call);
        }
        present.lookAtAll();
        back.lookBack();
    }

    private static void eachCallBehindEachOther() {
        for (Story story : STORIES) {
            for (String first : CALLS) {
                for (String second : CALLS) {
                    dueBehind(story, first, second);
                }
            }
        }
    }

    private static void betweenTwoActions() {
        for (Story story : new Story[] {Story.TWO, Story.THREE}) {
            for (String first : ACTIONS) {
                for (String between : BETWEEN) {
                    for (String last : ACTIONS) {
                        dueBehind(story, first, between, last);
                    }
                }
            }
        }
    }

    /** An action that is undone is the same when it comes again, as often as it does. */
    private static void theSameOnceMore() {
        for (Story story : STORIES) {
            for (String call : ACTIONS) {
                Twins twins = story.toldToBoth();
                int first = twins.ask(call);
                for (int round = 0; round < 20 && first >= 0; round++) {
                    Check.that("undo of " + call, twins.ask("undo") >= 0);
                    Check.due(call + " once more", twins.ask(call), first);
                }
                twins.lookAtAll();
                dueBehind(story, call, call, call);
                dueBehind(story, call, "undo", call, "undo", call, "undo", "undo");
            }
        }
    }

    /** Far back and on again: what is recorded then stands behind what is left. */
    private static void backAndForth() {
        for (int steps = 1; steps <= 6; steps++) {
            for (String call : ACTIONS) {
                String[] calls = new String[2 * steps + 1];
                for (int i = 0; i < steps; i++) {
                    calls[i] = "undo";
                    calls[steps + i] = i % 2 == 0 ? call : "give 1 " + i + " " + (i + 9);
                }
                calls[2 * steps] = call;
                dueBehind(Story.THREE, calls);
                dueBehind(Story.FOUR, calls);
            }
        }
    }

    /** A row of refused calls leaves the object as it is, however many they are. */
    private static void refusedCallsOneBehindAnother() {
        for (Story story : STORIES) {
            String before = Sight.of(story.told());
            CakeMarks x = story.told();
            int states = x.count(6);
            int signs = x.count(7);
            for (int round = 0; round < 8; round++) {
                refuse(x);
            }
            Check.due("count(6) behind refused calls with " + story.name, x.count(6), states);
            Check.due("count(7) behind refused calls with " + story.name, x.count(7), signs);
            Check.that("refused calls change nothing with " + story.name, Sight.of(x).equals(before));
        }
    }

    private static void refuse(CakeMarks x) {
        int sum = x.setValue(0, 3, 2, 1) + x.setValue(-1, 0, 0, 1) + x.setValue(0, 0, 0, 10);
        sum += x.append(0) + x.append(256) + x.read(-1) + x.read(4);
        sum += x.give(4, 0, 0) + x.give(0, -1, 0) + x.putBack(1, 0) + x.putBack(0, 24);
        sum += x.move(0, 1) + x.move(101, 1) + x.move(50, 0) + x.move(50, 16);
        sum += x.cut(0, 0, 0, 23) + x.cut(0, 1, 23, 23) + x.trim(0, 0) + x.trim(4, 0);
        Check.due("all of the refused calls", sum, -19);
    }

    /** A row of looks answers each time alike: none of them spoils what another one has found. */
    private static void looksOneBehindAnother() {
        for (Story story : STORIES) {
            CakeMarks x = story.told();
            String first = Sight.of(x);
            Check.that("a second look with " + story.name, Sight.of(x).equals(first));
            Twins twins = story.toldToBoth();
            String[] looks = {"ring 0", "best 0", "calm 0", "calls 30 1", "middle 0", "count 2", "guest 0 3"};
            for (String one : looks) {
                for (String other : looks) {
                    twins.ask(one);
                    twins.ask(other);
                    twins.ask(one);
                }
            }
            twins.lookAtAll();
        }
    }

    private static void aFullTextAndAnEmptyOne() {
        Twins twins = Story.FOUR.toldToBoth();
        Check.due("append to a full text", twins.ask("append 49"), -3);
        Check.due("read of a full text", twins.ask("read 3"), 64);
        Check.due("append to a full text that was read", twins.ask("append 49"), -3);
        Check.due("undo()", twins.ask("undo"), 4);
        Check.due("append to a full text behind undo()", twins.ask("append 49"), -3);
        Check.due("clearText()", twins.ask("clearText"), 60);
        Check.due("clearText() once more", twins.ask("clearText"), 0);
        Check.due("read of no text", twins.ask("read 3"), -1000);
        Check.due("undo()", twins.ask("undo"), 3);
        Check.due("clearText() behind undo()", twins.ask("clearText"), 0);
        twins.write("2x24");
        Check.due("read", twins.ask("read 2"), 48);
        Check.due("undo()", twins.ask("undo"), 3);
        Check.due("count(7) behind undo()", twins.ask("count 7"), 4);
        Check.due("read once more", twins.ask("read 1"), 48);
        twins.lookAtAll();
    }

    /** 512 calls, and not one less: with searches, with undo() and with texts. */
    private static void allCallsThatArePromised() {
        for (Story story : STORIES) {
            Twins searching = story.toldToBoth();
            for (int i = 0; searching.asked() < Twins.MOST_CALLS; i++) {
                searching.ask(i % 2 == 0 ? "setValue " + i % 3 + " 0 " + i % 24 + " " + i % 10 : "best " + i % 6);
            }
            Twins turning = story.toldToBoth();
            for (int i = 0; turning.asked() < Twins.MOST_CALLS; i++) {
                turning.ask(CALLS[i * 11 % CALLS.length]);
            }
            Twins writing = story.toldToBoth();
            for (int i = 0; writing.asked() < Twins.MOST_CALLS; i++) {
                String[] signs = {"append 51", "append 120", "append 50", "append 52", "read 0", "count 7"};
                writing.ask(i % 70 == 69 ? "clearText" : signs[i % signs.length]);
            }
            Twins going = story.toldToBoth();
            for (int i = 0; going.asked() < Twins.MOST_CALLS; i++) {
                going.ask(i % 3 == 2 ? "undo" : "give " + i % 2 + " " + i % 24 + " 23");
            }
        }
    }

    /** Objects know nothing of one another. */
    private static void twoObjectsByTurns() {
        Twins one = Story.THREE.toldToBoth();
        Twins other = Story.TWO.toldToBoth();
        for (int i = 0; i < CALLS.length; i++) {
            one.ask(CALLS[i]);
            other.ask(CALLS[CALLS.length - 1 - i]);
        }
        one.lookAtAll();
        other.lookAtAll();
    }
}
