/** Counts the answers that are not as due; a test ends with finish(). */
final class Check {
    private static int answers = 0;
    private static int wrong = 0;

    private Check() {
    }

    static void due(String call, long got, long want) {
        answers++;
        if (got != want) {
            wrong++;
            System.out.println(call + " answered " + got + ", due is " + want);
        }
    }

    static void that(String claim, boolean holds) {
        due(claim, holds ? 1 : 0, 1);
    }

    static void write(CakeMarks x, String text) {
        x.clearText();
        for (int i = 0; i < text.length(); i++) {
            due("append in " + text, x.append(text.charAt(i)), i + 1);
        }
    }

    /** A new object with some guests, each of whom has told the values as a text. */
    static CakeMarks seated(String... texts) {
        CakeMarks x = new CakeMarks();
        for (int guest = 0; guest < texts.length; guest++) {
            due("addGuest()", x.addGuest(), guest);
            write(x, texts[guest]);
            that("read(" + guest + ") of " + texts[guest], x.read(guest) >= 0);
        }
        return x;
    }

    /** The owners of all crumbs as a text, "." for the table. */
    static String owners(CakeMarks x) {
        StringBuilder row = new StringBuilder();
        for (int crumb = 0; crumb < 24; crumb++) {
            int owner = x.crumb(crumb);
            row.append(owner == CakeMarks.NONE ? "." : String.valueOf(owner));
        }
        return row.toString();
    }

    static void dueOwners(String after, CakeMarks x, String want) {
        String got = owners(x);
        that("owners after " + after + " are " + got + ", due is " + want, got.equals(want));
    }

    static void finish() {
        System.out.println(answers + " answers, " + wrong + " not as due");
        if (wrong != 0) {
            System.exit(1);
        }
    }
}
