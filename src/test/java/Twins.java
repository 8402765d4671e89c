import java.util.ArrayList;
import java.util.List;

/** An object and the model, asked alike: each answer of the object is compared with the model's. */
final class Twins {
    /** As many calls as are promised. */
    static final int MOST_CALLS = 512;

    private static final int[] SOME_CRUMBS = {0, 4, 8, 11, 12, 23};

    private final CakeMarks object = new CakeMarks();
    private final Model model = new Model();
    private final List<String> told = new ArrayList<>();
    private final String name;

    Twins(String name) {
        this.name = name;
    }

    int asked() {
        return told.size();
    }

    /** Asks a call as a story tells it, such as "give 0 2 5". */
    int ask(String call) {
        String[] words = call.split(" ");
        int[] a = new int[words.length - 1];
        for (int i = 0; i < a.length; i++) {
            a[i] = Integer.parseInt(words[i + 1]);
        }
        return ask(words[0], a);
    }

    int ask(String call, int... a) {
        StringBuilder words = new StringBuilder(call);
        for (int number : a) {
            words.append(' ').append(number);
        }
        told.add(words.toString());
        if (told.size() > MOST_CALLS) {
            throw new IllegalStateException(name + " asks more than is promised");
        }
        int got = Ask.of(object, call, a);
        int want = model.answer(call, a);
        Check.due(got == want ? "" : words + " with " + name + " after " + told, got, want);
        return got;
    }

    void write(String text) {
        for (int i = 0; i < text.length(); i++) {
            ask("append", text.charAt(i));
        }
    }

    /** All that can be seen of the present state; up to some 200 calls. */
    void lookAtAll() {
        int guests = look("count", 8)[0];
        look("crumb", 24);
        look("ring", 5);
        look("best", 6);
        look("calm", 3);
        ask("calls", 30, (1 << guests) - 1);
        ask("calls", 50, 1);
        for (int guest = 0; guest < guests; guest++) {
            ask("middle", guest);
            for (int what = 0; what < 7; what++) {
                ask("guest", guest, what);
            }
            for (int crumb = 0; crumb < 24; crumb++) {
                ask("value", guest, crumb);
            }
            for (int other = 0; other < guests; other++) {
                ask("envy", guest, other);
            }
        }
    }

    private int[] look(String call, int end) {
        int[] answers = new int[end];
        for (int i = 0; i < end; i++) {
            answers[i] = ask(call, i);
        }
        return answers;
    }

    /** Who has what, what some crumbs are worth, and what was searched; up to some 70 calls. */
    void lookAtSome() {
        int guests = ask("count", 0);
        ask("count", 6);
        ask("count", 7);
        look("crumb", 24);
        ask("best", 3);
        ask("calm", 0);
        for (int guest = 0; guest < guests; guest++) {
            ask("guest", guest, 0);
            for (int crumb : SOME_CRUMBS) {
                ask("value", guest, crumb);
            }
        }
    }

    /** Back through the whole history, with a look at each state; then the text is read and forgotten. */
    void lookBack() {
        lookAtSome();
        for (int step = 0; step < 6 && ask("undo") >= 0; step++) {
            lookAtSome();
        }
        ask("read", 0);
        ask("clearText");
    }
}
