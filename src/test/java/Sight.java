import java.util.Arrays;
import java.util.HashMap;
import java.util.Map;

/** All that can be seen of an object, so that a call is known to have changed nothing, or only what it should. */
final class Sight {
    private static final int STATES = 5;
    private static final int[][] MOVES = {{1, 1}, {25, 3}, {50, 7}, {100, 15}};

    /** What is seen of an object of a story, by the story and the number of steps back. */
    private static final Map<String, String> SEEN = new HashMap<>();

    private Sight() {
    }

    /** The state: everything that the looking calls tell but for the history; some 200 calls. */
    static String of(CakeMarks x) {
        StringBuilder row = new StringBuilder("counts");
        for (int what = 0; what < 6; what++) {
            row.append(' ').append(x.count(what));
        }
        row.append("; owners ").append(Check.owners(x));
        for (int guest = 0; guest < x.count(0); guest++) {
            addGuest(row.append("; guest"), x, guest);
        }
        row.append("; ring");
        for (int index = 0; index < 5; index++) {
            row.append(' ').append(x.ring(index));
        }
        row.append("; best");
        for (int what = 0; what < 6; what++) {
            row.append(' ').append(x.best(what));
        }
        row.append("; calm ").append(x.calm(0)).append(' ').append(x.calm(1)).append(' ').append(x.calm(2));
        row.append("; calls");
        for (int[] move : MOVES) {
            row.append(' ').append(x.calls(move[0], move[1]));
        }
        return row.toString();
    }

    private static void addGuest(StringBuilder row, CakeMarks x, int guest) {
        for (int what = 0; what < 7; what++) {
            row.append(' ').append(x.guest(guest, what));
        }
        row.append(' ').append(values(x, guest));
        for (int other = 0; other < x.count(0); other++) {
            row.append(' ').append(x.envy(guest, other));
        }
        row.append(' ').append(x.middle(guest));
    }

    /** The values of a guest for all crumbs. */
    static String values(CakeMarks x, int guest) {
        StringBuilder row = new StringBuilder();
        for (int crumb = 0; crumb < 24; crumb++) {
            row.append(x.value(guest, crumb));
        }
        return row.toString();
    }

    /** What is seen so many steps back, and what the text is then read as. */
    private static String back(CakeMarks x, int steps) {
        StringBuilder row = new StringBuilder("history " + x.count(6) + "; back");
        for (int step = 0; step < steps; step++) {
            row.append(' ').append(x.undo());
        }
        row.append("; ").append(of(x)).append("; text of ").append(x.count(7));
        row.append(": ").append(x.read(0)).append(' ').append(values(x, 0));
        return row.append(' ').append(x.clearText()).toString();
    }

    /** The call answers as is due and changes nothing: not the state, nor the history, nor the text. */
    static void dueUnchanged(Story story, int want, String call, int... a) {
        String name = call + Arrays.toString(a) + " with " + story.name;
        // A new object for each look back: no object is asked more often than the 512 times that are promised.
        for (int steps = 0; steps <= STATES + 1; steps++) {
            CakeMarks x = story.told();
            Check.due(name, Ask.of(x, call, a), want);
            int most = steps;
            String before = SEEN.computeIfAbsent(story.name + steps, key -> back(story.told(), most));
            String after = back(x, steps);
            Check.that(name + " changes what is seen " + steps + " steps back:\n  " + after + "\n  instead of\n  " + before,
                    after.equals(before));
        }
    }

    /** The call is an action: it answers as is due, and one step back is the state before it. */
    static void dueAction(Story story, int want, String call, int... a) {
        String name = call + Arrays.toString(a) + " with " + story.name;
        CakeMarks before = story.told();
        CakeMarks x = story.told();
        int states = Math.min(before.count(6) + 1, STATES);
        Check.due(name, Ask.of(x, call, a), want);
        Check.due("count(6) after " + name, x.count(6), states);
        Check.due("count(7) after " + name, x.count(7), before.count(7));
        Check.due("undo() after " + name, x.undo(), states - 1);
        Check.that(name + " is undone", of(x).equals(of(before)));
    }
}
