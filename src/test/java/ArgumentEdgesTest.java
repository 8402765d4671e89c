import java.util.Arrays;

/**
 * Every range behind an argument: the last value that is allowed and the first one that is not, on both sides, the
 * smallest and the largest int; what is refused, in the order in which the errors are listed; and that nothing has
 * changed behind a refused call, nor behind one that only looks.
 */
final class ArgumentEdgesTest {
    private static final int LEAST = Integer.MIN_VALUE;
    private static final int MOST = Integer.MAX_VALUE;

    private static final int INVALID = -1;
    private static final int STATE = -2;
    private static final int FULL = -3;
    private static final int NONE = -9;

    public static void main(String[] args) {
        spans();
        guestsOfEachNumber();
        pairsOfGuests();
        values();
        characters();
        marks();
        cuts();
        properties();
        crumbs();
        places();
        withoutArguments();
        theErrorListedFirst();
        looksChangeNothing();
        Check.finish();
    }

    /** For each argument by turns: low and high are allowed, and what is outside is not, the other ones being as told. */
    private static void edges(Story story, String call, int[] told, int[]... limits) {
        for (int place = 0; place < limits.length; place++) {
            int low = limits[place][0];
            int high = limits[place][1];
            for (int wrong : new int[] {LEAST, low - 1, high + 1, MOST}) {
                Sight.dueUnchanged(story, INVALID, call, with(told, place, wrong));
            }
            for (int right : new int[] {low, high}) {
                allowed(story, call, with(told, place, right));
            }
        }
    }

    /** What is allowed is answered as the model answers it, which is a number or NONE. */
    private static void allowed(Story story, String call, int... a) {
        int want = story.toldToModel().answer(call, a);
        String name = call + Arrays.toString(a) + " with " + story.name;
        Check.that(name + " is allowed", want >= 0 || want == NONE);
        Check.due(name, Ask.of(story.told(), call, a), want);
    }

    private static int[] with(int[] told, int place, int number) {
        int[] row = told.clone();
        row[place] = number;
        return row;
    }

    private static int[] row(int... numbers) {
        return numbers;
    }

    /** from: 0 to 23; to: from to 23. */
    private static void spans() {
        edges(Story.THREE, "setValue", row(1, 4, 9, 5), row(0, 2), row(0, 9), row(4, 23), row(0, 9));
        edges(Story.THREE, "give", row(1, 4, 9), row(0, 2), row(0, 9), row(4, 23));
        edges(Story.THREE, "putBack", row(4, 9), row(0, 9), row(4, 23));
        Check.due("setValue of the first crumb", Story.TWO.told().setValue(0, 0, 0, 9), 32);
        Check.due("setValue of the last crumb", Story.TWO.told().setValue(0, 23, 23, 9), 32);
        Check.due("setValue of all crumbs", Story.TWO.told().setValue(0, 0, 23, 9), 216);
        Check.due("give of the first crumb", Story.TWO.told().give(0, 0, 0), 1);
        Check.due("give of the last crumb", Story.TWO.told().give(0, 23, 23), 1);
        Check.due("give of all crumbs", Story.TWO.told().give(0, 0, 23), 24);
        CakeMarks x = Story.TWO.told();
        x.give(1, 0, 23);
        Check.due("putBack of the first crumb", x.putBack(0, 0), 1);
        Check.due("putBack of the last crumb", x.putBack(23, 23), 1);
        Check.due("putBack of all crumbs", x.putBack(0, 23), 22);
        int[][] wrong = {
            {24, 24}, {23, 24}, {0, 24}, {1, 0}, {23, 22}, {23, 0}, {-1, -1}, {-1, 0}, {-1, 23},
            {LEAST, LEAST}, {MOST, MOST}, {LEAST, MOST}, {MOST, LEAST}, {0, MOST}, {LEAST, 23}, {0, LEAST}, {MOST, 23},
        };
        for (int[] w : wrong) {
            Sight.dueUnchanged(Story.THREE, INVALID, "setValue", 1, w[0], w[1], 5);
            Sight.dueUnchanged(Story.THREE, INVALID, "give", 1, w[0], w[1]);
            Sight.dueUnchanged(Story.THREE, INVALID, "putBack", w);
        }
    }

    /** A guest: one that exists, as many as there are. */
    private static void guestsOfEachNumber() {
        Story[] stories = {Story.NONE, Story.ONE, Story.TWO, Story.THREE, Story.FOUR};
        for (int number = 0; number < stories.length; number++) {
            Story story = stories[number];
            Check.due("count(0) with " + story.name, story.told().count(0), number);
            for (int wrong : new int[] {LEAST, -1, number, MOST}) {
                Sight.dueUnchanged(story, INVALID, "setValue", wrong, 0, 0, 5);
                Sight.dueUnchanged(story, INVALID, "read", wrong);
                Sight.dueUnchanged(story, INVALID, "give", wrong, 0, 0);
                Sight.dueUnchanged(story, INVALID, "guest", wrong, 0);
                Sight.dueUnchanged(story, INVALID, "value", wrong, 0);
                Sight.dueUnchanged(story, INVALID, "middle", wrong);
                Sight.dueUnchanged(story, INVALID, "cut", wrong, 0, 12, 13);
                Sight.dueUnchanged(story, INVALID, "cut", 0, wrong, 12, 13);
                Sight.dueUnchanged(story, INVALID, "trim", wrong, 0);
                Sight.dueUnchanged(story, INVALID, "trim", 0, wrong);
                Sight.dueUnchanged(story, INVALID, "envy", wrong, 0);
                Sight.dueUnchanged(story, INVALID, "envy", 0, wrong);
            }
            for (int guest = 0; guest < number; guest++) {
                allowed(story, "setValue", guest, 0, 0, 5);
                allowed(story, "give", guest, 0, 0);
                allowed(story, "guest", guest, 0);
                allowed(story, "value", guest, 0);
                allowed(story, "middle", guest);
            }
        }
        // The last guest is one, and the next one becomes one with addGuest() alone; undo() takes it away.
        CakeMarks x = Story.TWO.told();
        Check.due("middle(2) of two", x.middle(2), INVALID);
        Check.due("addGuest()", x.addGuest(), 2);
        Check.due("middle(2) of three", x.middle(2), 12);
        Check.due("undo()", x.undo(), 3);
        Check.due("middle(2) of two again", x.middle(2), INVALID);
        // A text that can be read, and one that fails, are alike to a guest who doesn't exist.
        edges(Story.THREE, "read", row(1), row(0, 2));
        Check.due("read of a text that fails", Story.ONE.told().read(0), -1005);
    }

    /** Another guest: not the same, and both exist. */
    private static void pairsOfGuests() {
        for (Story story : new Story[] {Story.ONE, Story.TWO, Story.THREE, Story.FOUR}) {
            int number = story.told().count(0);
            for (int guest = 0; guest < number; guest++) {
                Sight.dueUnchanged(story, INVALID, "cut", guest, guest, 12, 13);
                Sight.dueUnchanged(story, INVALID, "trim", guest, guest);
                Sight.dueUnchanged(story, INVALID, "envy", guest, guest);
                for (int other = 0; other < number; other++) {
                    if (other != guest) {
                        allowed(story, "cut", guest, other, 12, 13);
                        allowed(story, "trim", guest, other);
                        allowed(story, "envy", guest, other);
                    }
                }
            }
            for (int wrong : new int[] {LEAST, -1, number, MOST}) {
                Sight.dueUnchanged(story, INVALID, "cut", wrong, wrong, 12, 13);
                Sight.dueUnchanged(story, INVALID, "trim", wrong, wrong);
                Sight.dueUnchanged(story, INVALID, "envy", wrong, wrong);
            }
        }
    }

    /** value: 0 to 9. */
    private static void values() {
        edges(Story.FOUR, "setValue", row(3, 0, 23, 4), row(0, 3), row(0, 23), row(0, 23), row(0, 9));
        CakeMarks x = Story.FOUR.told();
        Check.due("setValue to 9", x.setValue(3, 0, 23, 9), 216);
        Check.due("value of 9", x.value(3, 23), 9);
        Check.due("setValue to 0", x.setValue(3, 0, 23, 0), 0);
        Check.due("value of 0", x.value(3, 0), 0);
    }

    /** character: 1 to 255, and 60 of them. */
    private static void characters() {
        edges(Story.THREE, "append", row('1'), row(1, 255));
        CakeMarks x = new CakeMarks();
        for (int sign = 1; sign <= 255; sign++) {
            int length = (sign - 1) % 60;
            if (length == 0) {
                Check.due("clearText() of a full text, or of a new one", x.clearText(), sign == 1 ? 0 : 60);
            }
            Check.due("append(" + sign + ")", x.append(sign), length + 1);
        }
        for (int right : new int[] {1, '1', ',', 255}) {
            Sight.dueUnchanged(Story.FOUR, FULL, "append", right);
        }
        for (int wrong : new int[] {LEAST, -1, 0, 256, MOST}) {
            Sight.dueUnchanged(Story.FOUR, INVALID, "append", wrong);
        }
    }

    /** part: 1 to 100; guests: a set of guests that exist, at least one. */
    private static void marks() {
        Story[] stories = {Story.NONE, Story.ONE, Story.TWO, Story.THREE, Story.FOUR};
        for (int number = 0; number < stories.length; number++) {
            Story story = stories[number];
            int all = (1 << number) - 1;
            for (String call : new String[] {"move", "calls"}) {
                for (int wrong : new int[] {LEAST, LEAST + 1, -1, 0, all + 1, 16, 16 + all, 1 << 30, MOST}) {
                    Sight.dueUnchanged(story, INVALID, call, 50, wrong);
                }
                for (int wrong : new int[] {LEAST, -1, 0, 101, MOST}) {
                    Sight.dueUnchanged(story, INVALID, call, wrong, 1);
                }
                for (int set = 1; set <= all; set++) {
                    allowed(story, call, 1, set);
                    allowed(story, call, 100, set);
                }
            }
        }
        // A set that names a guest who exists and one who doesn't.
        Sight.dueUnchanged(Story.THREE, INVALID, "move", 50, 9);
        Sight.dueUnchanged(Story.THREE, INVALID, "calls", 50, 15);
    }

    /** from: 0 to 22; to: from + 1 to 23. */
    private static void cuts() {
        edges(Story.FOUR, "cut", row(0, 1, 12, 17), row(2, 3), row(1, 3), row(0, 16), row(13, 23));
        edges(Story.FOUR, "cut", row(3, 2, 0, 23), row(3, 3), row(0, 2), row(0, 22), row(1, 23));
        Check.due("cut of the first two crumbs", Story.FOUR.told().cut(0, 3, 0, 1), 1);
        Check.due("cut of the last two crumbs", Story.FOUR.told().cut(0, 3, 22, 23), 23);
        int[][] wrong = {
            {23, 23}, {23, 24}, {22, 24}, {22, 22}, {0, 0}, {-1, 0}, {-1, 1}, {5, 5}, {5, 4}, {24, 25}, {23, 22},
            {MOST, MOST}, {LEAST, LEAST}, {MOST, LEAST}, {LEAST, MOST}, {0, MOST}, {LEAST, 23}, {0, LEAST}, {MOST, 23},
        };
        for (int[] w : wrong) {
            Sight.dueUnchanged(Story.FOUR, INVALID, "cut", 0, 1, w[0], w[1]);
        }
        // Crumbs 2 to 5, 8, 9, 20 and 21 have an owner: the first of a span, the last one, one within, all.
        int[][] taken = {{5, 7}, {9, 12}, {6, 8}, {18, 20}, {0, 2}, {6, 10}, {19, 23}, {0, 23}, {2, 5}, {2, 3}, {8, 9}};
        for (int[] t : taken) {
            Sight.dueUnchanged(Story.THREE, STATE, "cut", 0, 1, t[0], t[1]);
            Sight.dueUnchanged(Story.THREE, STATE, "cut", 1, 2, t[0], t[1]);
        }
        int[][] free = {{0, 1}, {6, 7}, {10, 19}, {22, 23}};
        for (int[] f : free) {
            allowed(Story.THREE, "cut", 0, 1, f[0], f[1]);
        }
    }

    /** what: as many as are told. */
    private static void properties() {
        for (Story story : new Story[] {Story.NONE, Story.ONE, Story.TWO, Story.THREE, Story.FOUR}) {
            edges(story, "count", row(0), row(0, 7));
        }
        edges(Story.ONE, "guest", row(0, 3), row(0, 0), row(0, 6));
        edges(Story.TWO, "guest", row(1, 3), row(0, 1), row(0, 6));
        edges(Story.THREE, "guest", row(2, 3), row(0, 2), row(0, 6));
        edges(Story.FOUR, "guest", row(3, 3), row(0, 3), row(0, 6));
        edges(Story.ONE, "best", row(0), row(0, 5));
        edges(Story.TWO, "best", row(0), row(0, 5));
        edges(Story.THREE, "best", row(0), row(0, 5));
        edges(Story.FOUR, "best", row(0), row(0, 5));
        edges(Story.TWO, "calm", row(0), row(0, 2));
        edges(Story.THREE, "calm", row(0), row(0, 2));
        edges(Story.FOUR, "calm", row(0), row(0, 2));
        // A guest who doesn't exist has no property that is out of range either.
        Sight.dueUnchanged(Story.THREE, INVALID, "guest", 3, 7);
        Sight.dueUnchanged(Story.NONE, INVALID, "guest", 0, 0);
    }

    /** crumb: 0 to 23. */
    private static void crumbs() {
        edges(Story.NONE, "crumb", row(0), row(0, 23));
        edges(Story.THREE, "crumb", row(0), row(0, 23));
        edges(Story.ONE, "value", row(0, 3), row(0, 0), row(0, 23));
        edges(Story.THREE, "value", row(2, 3), row(0, 2), row(0, 23));
        edges(Story.FOUR, "value", row(3, 3), row(0, 3), row(0, 23));
    }

    /** index: 0 or more, as far as the ring goes. */
    private static void places() {
        int[] ring = {0, 2, 1, NONE, NONE};
        for (int index = 0; index < ring.length; index++) {
            Sight.dueUnchanged(Story.THREE, ring[index], "ring", index);
        }
        for (Story story : new Story[] {Story.NONE, Story.ONE, Story.TWO, Story.THREE, Story.FOUR}) {
            Sight.dueUnchanged(story, INVALID, "ring", -1);
            Sight.dueUnchanged(story, INVALID, "ring", LEAST);
            Sight.dueUnchanged(story, NONE, "ring", MOST);
            Sight.dueUnchanged(story, story == Story.THREE ? 0 : NONE, "ring", 0);
        }
    }

    /** What is refused without any argument being wrong. */
    private static void withoutArguments() {
        Sight.dueUnchanged(Story.FOUR, FULL, "addGuest");
        Sight.dueAction(Story.THREE, 3, "addGuest");
        Sight.dueUnchanged(Story.NONE, STATE, "undo");
        Sight.dueUnchanged(Story.NONE, STATE, "exchange");
        Sight.dueUnchanged(Story.ONE, STATE, "exchange");
        Sight.dueUnchanged(Story.TWO, STATE, "exchange");
        Sight.dueUnchanged(Story.FOUR, STATE, "exchange");
        Sight.dueAction(Story.THREE, 3, "exchange");
        for (int what = 0; what <= 5; what++) {
            Sight.dueUnchanged(Story.NONE, STATE, "best", what);
        }
        for (int what = 0; what <= 2; what++) {
            Sight.dueUnchanged(Story.NONE, STATE, "calm", what);
            Sight.dueUnchanged(Story.ONE, STATE, "calm", what);
        }
        // An empty text is no error of clearText(), and no place in it can be refused.
        Check.due("clearText() of an empty text", new CakeMarks().clearText(), 0);
    }

    /** If several error conditions apply, the one that is listed first; NONE only if none applies. */
    private static void theErrorListedFirst() {
        Sight.dueUnchanged(Story.FOUR, INVALID, "append", 0);
        Sight.dueUnchanged(Story.FOUR, INVALID, "append", 256);
        Sight.dueUnchanged(Story.ONE, -1005, "read", 0);
        Sight.dueUnchanged(Story.ONE, INVALID, "read", 1);
        Sight.dueUnchanged(Story.ONE, INVALID, "read", -1);
        Sight.dueUnchanged(Story.THREE, INVALID, "cut", 0, 0, 2, 5);
        Sight.dueUnchanged(Story.THREE, INVALID, "cut", 3, 0, 2, 5);
        Sight.dueUnchanged(Story.THREE, INVALID, "cut", 0, -1, 2, 5);
        Sight.dueUnchanged(Story.THREE, INVALID, "cut", 0, 1, 2, 2);
        Sight.dueUnchanged(Story.THREE, INVALID, "cut", 0, 1, 5, 2);
        Sight.dueUnchanged(Story.THREE, INVALID, "cut", 0, 1, 20, 24);
        Sight.dueUnchanged(Story.THREE, INVALID, "cut", 0, 1, -1, 5);
        for (int wrong : new int[] {LEAST, -1, 6, MOST}) {
            Sight.dueUnchanged(Story.NONE, INVALID, "best", wrong);
        }
        for (int wrong : new int[] {LEAST, -1, 3, MOST}) {
            Sight.dueUnchanged(Story.NONE, INVALID, "calm", wrong);
            Sight.dueUnchanged(Story.ONE, INVALID, "calm", wrong);
        }
        Sight.dueUnchanged(Story.NONE, INVALID, "ring", -1);
        Sight.dueUnchanged(Story.TWO, INVALID, "ring", -1);
        Sight.dueUnchanged(Story.THREE, NONE, "crumb", 0);
        Sight.dueUnchanged(Story.THREE, INVALID, "crumb", -1);
        Sight.dueUnchanged(Story.NONE, STATE, "best", 5);
        Sight.dueUnchanged(Story.ONE, NONE, "best", 5);
    }

    /** What only looks changes nothing, and is no action. */
    private static void looksChangeNothing() {
        for (int what = 0; what < 8; what++) {
            look("count", what);
        }
        for (int what = 0; what < 7; what++) {
            look("guest", 1, what);
        }
        look("crumb", 2);
        look("value", 1, 8);
        look("envy", 1, 0);
        look("ring", 1);
        look("middle", 1);
        for (int what = 0; what < 6; what++) {
            look("best", what);
        }
        for (int what = 0; what < 3; what++) {
            look("calm", what);
        }
        look("calls", 20, 7);
        look("calls", 1, 2);
    }

    private static void look(String call, int... a) {
        Sight.dueUnchanged(Story.THREE, Story.THREE.toldToModel().answer(call, a), call, a);
    }
}
