/** Long runs of calls, each answered by the class and by the model; the runs are always the same. */
final class ModelTest {
    private static final String[] ACTIONS = {
        "addGuest", "setValue", "setValue", "setValue", "text", "give", "give", "give", "putBack", "putBack",
        "move", "cut", "cut", "trim", "exchange", "undo",
    };
    private static final String[] LOOKS = {
        "count", "guest", "crumb", "value", "envy", "ring", "middle", "calls", "count", "guest", "ring",
    };

    private static long dice = 20261119;

    private static CakeMarks object;
    private static Model model;
    private static String run;
    private static int asked;

    public static void main(String[] args) {
        for (int number = 0; number < 400; number++) {
            object = new CakeMarks();
            model = new Model();
            run = "run " + number + ": ";
            asked = 0;
            oneRun(number % 4 + 1, number % 5);
        }
        Check.finish();
    }

    private static void oneRun(int guests, int kind) {
        for (int guest = 0; guest < guests; guest++) {
            both("addGuest");
        }
        // A step and a look at all are fewer than 110 calls, and 512 are promised.
        for (int step = 0; step < 60 && asked < 400; step++) {
            String action = ACTIONS[roll(ACTIONS.length)];
            if (action.equals("text")) {
                writeText(kind);
                both("read", someGuest());
            } else {
                act(action, kind);
            }
            look(LOOKS[roll(LOOKS.length)]);
            look(LOOKS[roll(LOOKS.length)]);
            if (step % 20 == 19) {
                lookAtAll();
            }
        }
    }

    private static void act(String action, int kind) {
        int from = roll(24);
        switch (action) {
            case "setValue":
                int value = kind == 0 ? roll(2) : roll(10);
                both(action, someGuest(), odd(from, 24), odd(from + roll(24 - from), 24), odd(value, 10));
                break;
            case "give":
                both(action, someGuest(), odd(from, 24), odd(from + roll(Math.min(9, 24 - from)), 24));
                break;
            case "putBack":
                both(action, odd(from, 24), odd(from + roll(24 - from), 24));
                break;
            case "move":
                if (roll(2) == 0) {
                    both("putBack", 0, 23);
                }
                both(action, odd(1 + roll(60), 101), odd(1 + roll(15), 16));
                break;
            case "cut":
                if (roll(3) == 0) {
                    both("putBack", from, 23);
                }
                both(action, someGuest(), someGuest(), odd(from, 24), odd(Math.min(23, from + 1 + roll(8)), 24));
                break;
            case "trim":
                both(action, someGuest(), someGuest());
                break;
            case "addGuest":
                if (roll(6) == 0) {
                    both(action);
                }
                break;
            default:
                both(action);
                break;
        }
    }

    private static void look(String call) {
        switch (call) {
            case "count":
                both(call, odd(roll(8), 8));
                break;
            case "guest":
                both(call, someGuest(), odd(roll(7), 7));
                break;
            case "crumb":
                both(call, odd(roll(24), 24));
                break;
            case "value":
                both(call, someGuest(), odd(roll(24), 24));
                break;
            case "envy":
                both(call, someGuest(), someGuest());
                break;
            case "calls":
                both(call, odd(1 + roll(60), 101), odd(1 + roll(15), 16));
                break;
            case "ring":
                both(call, odd(roll(4), 5));
                break;
            default:
                both(call, someGuest());
                break;
        }
    }

    private static void lookAtAll() {
        for (int what = 0; what < 8; what++) {
            both("count", what);
        }
        for (int crumb = 0; crumb < 24; crumb++) {
            both("crumb", crumb);
        }
        both("best", odd(roll(6), 6));
        both("best", 2 + roll(4));
        both("calm", odd(roll(3), 3));
        both("calm", roll(3));
    }

    /** A text that is right for most of its length, and often to its end. */
    private static void writeText(int kind) {
        both("clearText");
        StringBuilder text = new StringBuilder();
        int left = 24;
        for (int part = 0; part < 30 && left > 0 && text.length() < 56; part++) {
            int times = Math.min(left, 1 + roll(kind < 3 ? 12 : 4));
            text.append(part == 0 ? "" : ",").append(roll(10));
            if (times > 1 || roll(4) == 0) {
                text.append('x').append(times);
            }
            left -= times;
        }
        if (roll(3) == 0 && text.length() > 0) {
            String signs = "0123456789xx,,, z";
            int place = roll(text.length());
            text.replace(place, place + roll(2), String.valueOf(signs.charAt(roll(signs.length()))));
        }
        if (roll(5) == 0) {
            text.setLength(roll(text.length() + 1));
        }
        for (int i = 0; i < text.length(); i++) {
            both("append", text.charAt(i));
        }
        if (roll(8) == 0) {
            both("append", roll(3) * 128);
        }
    }

    private static int someGuest() {
        return odd(roll(4), 5);
    }

    /** Now and then a number at or over the edge instead of the told one. */
    private static int odd(int number, int end) {
        switch (roll(60)) {
            case 0: return -1;
            case 1: return end;
            case 2: return end - 1;
            case 3: return roll(2) == 0 ? Integer.MAX_VALUE : Integer.MIN_VALUE;
            default: return number;
        }
    }

    private static int roll(int sides) {
        dice = dice * 6364136223846793005L + 1442695040888963407L;
        return (int) ((dice >>> 33) % sides);
    }

    private static void both(String call, int... a) {
        asked++;
        StringBuilder name = new StringBuilder(run).append(call);
        for (int x : a) {
            name.append(' ').append(x);
        }
        Check.due(name.toString(), Ask.of(object, call, a), model.answer(call, a));
    }
}
