/** Texts: 60 characters, 24 crumbs, each way in which a text fails, and where. */
final class TextEdgesTest {
    /** A text of exactly 60 characters which tells 24 values. */
    private static final String FULL = "5x10" + ",1x1".repeat(14);

    public static void main(String[] args) {
        sixtyCharacters();
        whatMayBegin();
        whatMayFollowADigit();
        timesOfOneAndTwoDigits();
        theThirdDigit();
        timesOutOfRange();
        tooManyByTheNumber();
        tooManyByThePart();
        tooFew();
        behindTwentyFour();
        theFirstOfTwoFailures();
        everyCharacterEverywhere();
        theTextStays();
        Check.finish();
    }

    /** The text fails at that place, and nothing changes. */
    private static void fails(String text, int place) {
        CakeMarks x = Story.TWO.told();
        String before = Sight.of(x);
        Check.write(x, text);
        Check.due("read of " + text, x.read(1), -1000 - place);
        Check.that("read of " + text + " changes nothing", Sight.of(x).equals(before));
        Check.due("count(7) after read of " + text, x.count(7), text.length());
        Check.due("count(6) after read of " + text, x.count(6), 3);
    }

    /** The text tells the values, by which nothing but these changes. */
    private static void tells(String text, String values) {
        Check.due("values of " + text, values.length(), 24);
        CakeMarks x = Story.TWO.told();
        Check.write(x, text);
        String other = Sight.values(x, 0);
        Check.due("read of " + text, x.read(1), values.chars().map(sign -> sign - '0').sum());
        Check.that("values by " + text, Sight.values(x, 1).equals(values));
        Check.that("the other one's values by " + text, Sight.values(x, 0).equals(other));
        Check.due("count(7) after read of " + text, x.count(7), text.length());
        Check.due("count(6) after read of " + text, x.count(6), 4);
    }

    private static void sixtyCharacters() {
        Check.due("length of the full text", FULL.length(), 60);
        tells(FULL, "5".repeat(10) + "1".repeat(14));
        CakeMarks x = new CakeMarks();
        x.addGuest();
        for (int i = 0; i < 59; i++) {
            Check.due("append", x.append(FULL.charAt(i)), i + 1);
        }
        // Without its last character the text ends behind an x.
        Check.due("read of 59 characters", x.read(0), -1059);
        Check.due("the 60th", x.append('1'), 60);
        Check.due("the 61st", x.append(','), -3);
        Check.due("count(7)", x.count(7), 60);
        Check.due("read of 60 characters", x.read(0), 64);
        Check.due("clearText()", x.clearText(), 60);
        Check.due("count(7) then", x.count(7), 0);
        Check.due("append then", x.append('1'), 1);
        // The places at the end of a full text.
        fails("1x1,".repeat(15), 60);
        fails("1x1,".repeat(14) + "1x1x", 59);
        fails("1x1,".repeat(14) + "1,1x", 60);
        fails("1x1,".repeat(14) + "1,11", 59);
        fails("1x1,".repeat(14) + "1,1,", 60);
        tells("1x1,".repeat(14) + "1x10", "1".repeat(24));
        fails("1x1,".repeat(14) + "1x11", 58);
        fails("1x1,".repeat(14) + "1x09", 58);
        fails("1x1,".repeat(14) + "1x1z", 59);
        fails("1x1,".repeat(13) + "11111111", 53);
        fails("1".repeat(60), 1);
        fails(",".repeat(60), 0);
        fails(String.valueOf((char) 255).repeat(60), 0);
        fails("1,".repeat(30), 48);
    }

    /** A part begins with a digit 0 to 9, and nothing else. */
    private static void whatMayBegin() {
        fails("", 0);
        for (int sign = 1; sign <= 255; sign++) {
            if (sign < '0' || sign > '9') {
                fails((char) sign + "x24", 0);
                fails("1x23," + (char) sign, 5);
            }
        }
        for (char digit = '0'; digit <= '9'; digit++) {
            tells(digit + "x24", String.valueOf(digit).repeat(24));
            tells("1x23," + digit, "1".repeat(23) + digit);
        }
    }

    /** Behind a digit that is a part stands "x" or ",", or the end. */
    private static void whatMayFollowADigit() {
        for (int sign = 1; sign <= 255; sign++) {
            if (sign != 'x') {
                fails("1" + (char) sign + "24", sign == ',' ? 3 : 1);
            }
            if (sign != ',' && sign != 'x') {
                fails("1x23,1" + (char) sign, 6);
            }
        }
        fails("1", 1);
        fails("1x23,1x", 7);
        fails("1X24", 1);
        fails("11", 1);
        fails("1 x24", 1);
    }

    /** 1 to 24, of 1 or 2 digits, the first not 0. */
    private static void timesOfOneAndTwoDigits() {
        for (int times = 1; times <= 23; times++) {
            tells("3x" + times + ",4x" + (24 - times), "3".repeat(times) + "4".repeat(24 - times));
            fails("3x" + times, 2 + String.valueOf(times).length());
        }
        tells("3x24", "3".repeat(24));
        for (int times = 25; times <= 99; times++) {
            fails("3x" + times, 2);
        }
        fails("3x0", 2);
        for (int digit = 0; digit <= 9; digit++) {
            fails("3x0" + digit, 2);
        }
        fails("1,3x0", 4);
        fails("1,3x05", 4);
    }

    /** A third digit fails, whatever the number is. */
    private static void theThirdDigit() {
        for (String number : new String[] {"100", "111", "123", "240", "241", "249", "250", "255", "990", "999", "1000", "9999"}) {
            fails("7x" + number, 4);
            fails("1,7x" + number, 6);
        }
        fails("1x23,1x100", 9);
        fails("1x23,1x999", 9);
        fails("1x24,1x999", 5);
        // Ahead of it a first digit 0 isn't allowed where it stands.
        fails("7x012", 2);
        fails("7x000", 2);
    }

    /** The first digit of a number of times out of its range, as soon as the number ends. */
    private static void timesOutOfRange() {
        fails("1x25", 2);
        fails("1x25,", 2);
        fails("1x25z", 2);
        fails("1x25x", 2);
        fails("1x99,1", 2);
        fails("1,1x25", 4);
        fails("1x1,2x30,4", 6);
        fails("1x0,1x24", 2);
        fails("1x0,", 2);
        fails("1x0z", 2);
    }

    /** The first digit of a number by which there would be more than 24 crumbs, as soon as the number ends. */
    private static void tooManyByTheNumber() {
        tells("1,2x23", "1" + "2".repeat(23));
        fails("1,2x24", 4);
        tells("1x22,5x2", "1".repeat(22) + "55");
        fails("1x22,5x3", 7);
        tells("1x23,5x1", "1".repeat(23) + "5");
        fails("1x23,5x2", 7);
        fails("1x23,5x2,", 7);
        fails("1x23,5x2z", 7);
        fails("1x23,5x10", 7);
        fails("1x23,5x24", 7);
        fails("1x15,5x10", 7);
        tells("1x14,5x10", "1".repeat(14) + "5".repeat(10));
        // The number doesn't end ahead of its second digit.
        tells("1x4,5x20", "1".repeat(4) + "5".repeat(20));
        fails("1x23,5x2,5x123", 7);
    }

    /** The digit of a part by which there would be more than 24. */
    private static void tooManyByThePart() {
        fails("1x24,1", 5);
        fails("1x24,1x1", 5);
        fails("1x24,0", 5);
        fails("1x24,9,", 5);
        fails("1x24,1x0", 5);
        fails("1x24,1x999", 5);
        fails("1x23,1,1", 7);
        fails("1,".repeat(23) + "1,1", 48);
        tells("1,".repeat(23) + "1", "1".repeat(24));
        fails("1x12,2x12,3", 10);
    }

    /** A text that ends where something is missing fails at its length, also if too few crumbs are told. */
    private static void tooFew() {
        fails("1,", 2);
        fails("1x", 2);
        fails("1x5", 3);
        fails("1x5,", 4);
        fails("1x5,2", 5);
        fails("1x5,2x", 6);
        fails("1x23", 4);
        fails("1x23,", 5);
        fails("1x11,2x12", 9);
        fails("1,".repeat(22) + "1", 45);
        fails("1,".repeat(23), 46);
        fails("0x23", 4);
    }

    /** A "," may stand behind 24 crumbs, but no part behind it: then a part is missing. */
    private static void behindTwentyFour() {
        fails("1x24,", 5);
        fails("1x23,1,", 7);
        fails("1x23,1x1,", 9);
        fails("1x24,,", 5);
        fails("1x24, ", 5);
        fails("1x24,x", 5);
        fails("1x24x", 4);
        fails("1x24 ", 4);
        fails("1x24;", 4);
        fails("1x240", 4);
    }

    /** A text fails at the first character that isn't allowed, whatever stands behind it. */
    private static void theFirstOfTwoFailures() {
        fails(",,", 0);
        fails("z1x25", 0);
        fails("1z,1x25", 1);
        fails("1x,25", 2);
        fails("1xx24", 2);
        fails("1x-1", 2);
        fails("1x 24", 2);
        fails("1x2 4", 3);
        fails("1x24z1x25", 4);
        fails("1,,1x22", 2);
        fails("1, 1x22", 2);
        fails(" 1x24", 0);
        fails("1x2x12", 3);
        fails("1x20,2y4", 6);
    }

    /** Every character at every place of a short text, compared with the model. */
    private static void everyCharacterEverywhere() {
        for (String text : new String[] {"1x24", "2x9,3x15", "1,2x22,3", "1x24,"}) {
            for (int place = 0; place <= text.length(); place++) {
                for (int sign = 1; sign <= 255; sign++) {
                    dueAsTheModel(text.substring(0, place) + (char) sign + text.substring(place));
                    if (place < text.length()) {
                        dueAsTheModel(text.substring(0, place) + (char) sign + text.substring(place + 1));
                    }
                }
            }
        }
    }

    private static void dueAsTheModel(String text) {
        CakeMarks x = new CakeMarks();
        Model model = new Model();
        x.addGuest();
        model.answer("addGuest", new int[0]);
        Check.write(x, text);
        text.chars().forEach(sign -> model.answer("append", new int[] {sign}));
        Check.due("read of " + text, x.read(0), model.answer("read", new int[] {0}));
        Check.due("guest(0, 0) after read of " + text, x.guest(0, 0), model.answer("guest", new int[] {0, 0}));
    }

    /** The text stays, whether it is read or fails, and can be gone on with. */
    private static void theTextStays() {
        CakeMarks x = new CakeMarks();
        x.addGuest();
        x.addGuest();
        Check.write(x, "1x2");
        Check.due("read of 1x2", x.read(0), -1003);
        Check.due("append('4')", x.append('4'), 4);
        Check.due("read of 1x24", x.read(0), 24);
        Check.due("read of 1x24 once more", x.read(1), 24);
        Check.due("append(',')", x.append(','), 5);
        Check.due("read of 1x24,", x.read(1), -1005);
        Check.due("clearText()", x.clearText(), 5);
        Check.due("read of nothing", x.read(1), -1000);
        // A shorter text doesn't see what a longer one has left.
        Check.write(x, "9x2");
        Check.due("read of 9x2", x.read(1), -1003);
        // Values of a text that fails late are not taken.
        Check.write(x, "9x23,8x2");
        Check.due("read of 9x23,8x2", x.read(1), -1007);
        Check.due("guest(1, 0)", x.guest(1, 0), 24);
    }
}
