import java.util.Arrays;

/** Calls that make an object what a test needs, such as "give 0 2 5"; "text 1x24" writes a text. */
final class Story {
    /** No guest. */
    static final Story NONE = new Story("no guest", "text 1x24");

    /** One guest, with a piece. */
    static final Story ONE = new Story("one guest", "addGuest", "text 1x24,", "give 0 3 4");

    /** Two guests, of whom nobody envies anybody; three states in the history. */
    static final Story TWO = new Story("two guests", "addGuest", "addGuest", "text 2,1x22,3", "setValue 1 0 11 2");

    /** Three guests with pieces, a ring from 0 to 2 to 1, and a full history. */
    static final Story THREE = new Story("three guests", "addGuest", "addGuest", "addGuest",
            "setValue 0 20 21 9", "setValue 1 0 11 2", "setValue 2 12 23 3", "setValue 2 8 9 9",
            "give 0 2 5", "give 1 8 9", "give 2 20 21", "text 3x12,1x12");

    /** Four guests, a cake on the table, a full text and four states in the history. */
    static final Story FOUR = new Story("four guests", "addGuest", "addGuest", "addGuest", "addGuest",
            "text 5x10,1x1,1x1,1x1,1x1,1x1,1x1,1x1,1x1,1x1,1x1,1x1,1x1,1x1,1x1");

    final String name;
    private final String[] calls;

    Story(String name, String... calls) {
        this.name = name;
        this.calls = calls;
    }

    CakeMarks told() {
        CakeMarks x = new CakeMarks();
        for (String call : calls) {
            String[] words = call.split(" ");
            if (words[0].equals("text")) {
                Check.write(x, words[1]);
            } else {
                int answer = Ask.of(x, words[0], numbers(words));
                Check.that(call + " for " + name + " answered " + answer, answer >= 0);
            }
        }
        return x;
    }

    Model toldToModel() {
        Model model = new Model();
        for (String call : calls) {
            String[] words = call.split(" ");
            if (words[0].equals("text")) {
                words[1].chars().forEach(sign -> model.answer("append", new int[] {sign}));
            } else {
                model.answer(words[0], numbers(words));
            }
        }
        return model;
    }

    Twins toldToBoth() {
        Twins twins = new Twins(name);
        for (String call : calls) {
            String[] words = call.split(" ");
            if (words[0].equals("text")) {
                twins.write(words[1]);
            } else {
                twins.ask(words[0], numbers(words));
            }
        }
        return twins;
    }

    private static int[] numbers(String[] words) {
        return Arrays.stream(words).skip(1).mapToInt(Integer::parseInt).toArray();
    }
}
