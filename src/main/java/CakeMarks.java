/** Cakes that are divided without envy. What each call does and answers stands in DOC.md. */
public final class CakeMarks {
    public static final int INVALID_ARGUMENT = -1;
    public static final int ILLEGAL_STATE = -2;
    public static final int CAPACITY_EXCEEDED = -3;
    public static final int NONE = -9;

    private static final int CRUMBS = 24;
    private static final int MOST_GUESTS = 4;
    private static final int MOST_VALUE = 9;
    private static final int MOST_SIGNS = 60;
    private static final int MOST_SIGN = 255;
    private static final int MOST_STATES = 5;
    private static final int PERCENT = 100;
    private static final int READ_FAILED = -1000;
    private static final int TABLE = -1;
    private static final int NOBODY = -1;
    private static final int NO_FAILURE = -1;

    /** Far above the rounds of any search here: it only shows that the loops end. */
    private static final int MOST_ROUNDS = 1000000;

    private final Cake cake = new Cake();
    private final Cake[] history = new Cake[MOST_STATES];
    private int states = 0;
    private final ValueText text = new ValueText();
    private final Mark mark = new Mark();
    private final Rings rings = new Rings();
    private final Divisions divisions = new Divisions();

    /** Whether divisions holds what its search found for the present values. */
    private boolean searched = false;

    public CakeMarks() {
        for (int i = 0; i < MOST_STATES; i++) {
            history[i] = new Cake();
        }
    }

    // ---- guests and values

    public int addGuest() {
        if (cake.guests >= MOST_GUESTS) {
            return CAPACITY_EXCEEDED;
        }
        record();
        return cake.seatGuest();
    }

    public int setValue(int guest, int from, int to, int value) {
        if (!cake.isGuest(guest) || !isSpan(from, to) || value < 0 || value > MOST_VALUE) {
            return INVALID_ARGUMENT;
        }
        record();
        cake.setValues(guest, from, to, value);
        return cake.total(guest);
    }

    public int append(int character) {
        if (character < 1 || character > MOST_SIGN) {
            return INVALID_ARGUMENT;
        }
        if (text.length >= MOST_SIGNS) {
            return CAPACITY_EXCEEDED;
        }
        return text.put(character);
    }

    public int clearText() {
        int before = text.length;
        text.length = 0;
        return before;
    }

    public int read(int guest) {
        if (!cake.isGuest(guest)) {
            return INVALID_ARGUMENT;
        }
        int failure = text.findFailure();
        if (failure != NO_FAILURE) {
            return READ_FAILED - failure;
        }
        record();
        cake.takeValues(guest, text.values);
        return cake.total(guest);
    }

    // ---- dividing

    public int give(int guest, int from, int to) {
        if (!cake.isGuest(guest) || !isSpan(from, to)) {
            return INVALID_ARGUMENT;
        }
        record();
        return cake.handOut(guest, from, to);
    }

    public int putBack(int from, int to) {
        if (!isSpan(from, to)) {
            return INVALID_ARGUMENT;
        }
        record();
        return cake.takeBack(from, to);
    }

    public int move(int part, int guests) {
        if (!isMove(part, guests)) {
            return INVALID_ARGUMENT;
        }
        record();
        int winners = mark.pass(cake, part, guests);
        cake.takeOwners(mark.owner);
        return winners;
    }

    public int cut(int cutter, int chooser, int from, int to) {
        if (!isPair(cutter, chooser) || !isSpan(from, to) || from == to) {
            return INVALID_ARGUMENT;
        }
        if (!cake.liesOnTable(from, to)) {
            return ILLEGAL_STATE;
        }
        record();
        int right = cake.findCut(cutter, from, to);
        boolean takesLeft = cake.spanWorth(chooser, from, right - 1) >= cake.spanWorth(chooser, right, to);
        cake.handOut(takesLeft ? chooser : cutter, from, right - 1);
        cake.handOut(takesLeft ? cutter : chooser, right, to);
        return right;
    }

    public int trim(int guest, int other) {
        if (!isPair(guest, other)) {
            return INVALID_ARGUMENT;
        }
        record();
        return cake.trimPiece(guest, other);
    }

    public int exchange() {
        int size = rings.find(cake);
        if (size == 0) {
            return ILLEGAL_STATE;
        }
        record();
        cake.passPieces(rings.row);
        return size;
    }

    public int undo() {
        if (states < 1 || states > MOST_STATES) {
            return ILLEGAL_STATE;
        }
        states--;
        cake.become(history[states]);
        searched = false;
        return states;
    }

    // ---- looking

    public int count(int what) {
        switch (what) {
            case 0:
                return cake.guests;
            case 1:
                return cake.crumbsOf(TABLE);
            case 2:
                return cake.arrows();
            case 3:
                return cake.allEnvies();
            case 4:
                return cake.arrows() == 0 ? 1 : 0;
            case 5:
                return cake.contentGuests();
            case 6:
                return states;
            case 7:
                return text.length;
            default:
                return INVALID_ARGUMENT;
        }
    }

    public int guest(int guest, int what) {
        if (!cake.isGuest(guest)) {
            return INVALID_ARGUMENT;
        }
        switch (what) {
            case 0:
                return cake.total(guest);
            case 1:
                return cake.worth(guest, guest);
            case 2:
                return cake.crumbsOf(guest);
            case 3:
                return lowestNumerator(cake.worth(guest, guest), cake.total(guest));
            case 4:
                return lowestDenominator(cake.worth(guest, guest), cake.total(guest));
            case 5:
                return cake.spansOf(guest);
            case 6:
                return cake.worth(guest, TABLE);
            default:
                return INVALID_ARGUMENT;
        }
    }

    public int crumb(int crumb) {
        if (crumb < 0 || crumb >= CRUMBS) {
            return INVALID_ARGUMENT;
        }
        int owner = cake.owner[crumb];
        return owner == TABLE ? NONE : owner;
    }

    public int value(int guest, int crumb) {
        if (!cake.isGuest(guest) || crumb < 0 || crumb >= CRUMBS) {
            return INVALID_ARGUMENT;
        }
        return cake.values[guest][crumb];
    }

    public int envy(int guest, int other) {
        return isPair(guest, other) ? cake.envyOf(guest, other) : INVALID_ARGUMENT;
    }

    // ---- what could be, which changes nothing

    public int ring(int index) {
        if (index < 0) {
            return INVALID_ARGUMENT;
        }
        return index < rings.find(cake) ? rings.row.at[index] : NONE;
    }

    public int middle(int cutter) {
        return cake.isGuest(cutter) ? cake.findCut(cutter, 0, CRUMBS - 1) : INVALID_ARGUMENT;
    }

    public int best(int what) {
        if (what < 0 || what > 5) {
            return INVALID_ARGUMENT;
        }
        if (cake.guests < 1) {
            return ILLEGAL_STATE;
        }
        searchOnce();
        switch (what) {
            case 0:
                return lowestNumerator(divisions.fairPart, divisions.fairTotal);
            case 1:
                return lowestDenominator(divisions.fairPart, divisions.fairTotal);
            case 2:
                return divisions.fairGuest;
            default:
                int span = what - 2;
                return span < cake.guests ? divisions.fairStart[span] : NONE;
        }
    }

    public int calm(int what) {
        if (what < 0 || what > 2) {
            return INVALID_ARGUMENT;
        }
        if (cake.guests < 2) {
            return ILLEGAL_STATE;
        }
        searchOnce();
        if (what == 0) {
            return divisions.quietCount;
        }
        if (divisions.quietCount == 0) {
            return NONE;
        }
        return what == 1 ? divisions.quietGuest : divisions.quietCut;
    }

    public int calls(int part, int guests) {
        return isMove(part, guests) ? mark.pass(cake, part, guests) : INVALID_ARGUMENT;
    }

    // ---- helpers

    /** Every action comes by here ahead of its change, so what was searched is out of date as well. */
    private void record() {
        if (states >= MOST_STATES) {
            dropOldest();
        }
        history[states].become(cake);
        states++;
        searched = false;
    }

    private void dropOldest() {
        Cake oldest = history[0];
        for (int i = 1; i < MOST_STATES; i++) {
            history[i - 1] = history[i];
        }
        history[MOST_STATES - 1] = oldest;
        states = MOST_STATES - 1;
    }

    private void searchOnce() {
        if (!searched) {
            divisions.search(cake);
            searched = true;
        }
    }

    private static boolean isSpan(int from, int to) {
        return from >= 0 && from <= to && to < CRUMBS;
    }

    private boolean isPair(int guest, int other) {
        return cake.isGuest(guest) && cake.isGuest(other) && guest != other;
    }

    private boolean isMove(int part, int guests) {
        return part >= 1 && part <= PERCENT && guests >= 1 && guests < 1 << cake.guests;
    }

    private static int lowestNumerator(int part, int total) {
        int divisor = commonDivisor(part, total);
        return total == 0 || divisor == 0 ? 0 : part / divisor;
    }

    private static int lowestDenominator(int part, int total) {
        int divisor = commonDivisor(part, total);
        return total == 0 || divisor == 0 ? 1 : total / divisor;
    }

    private static int commonDivisor(int one, int two) {
        int large = one;
        int small = two;
        for (int round = 0; small != 0 && round < MOST_ROUNDS; round++) {
            int rest = large % small;
            large = small;
            small = rest;
        }
        return large;
    }

    /** The state: who has which crumb, and what each crumb is worth to each guest. */
    private static final class Cake {
        int guests = 0;
        final int[] owner = new int[CRUMBS];
        final int[][] values = new int[MOST_GUESTS][CRUMBS];

        Cake() {
            for (int crumb = 0; crumb < CRUMBS; crumb++) {
                owner[crumb] = TABLE;
            }
        }

        void become(Cake other) {
            guests = other.guests;
            takeOwners(other.owner);
            for (int guest = 0; guest < MOST_GUESTS; guest++) {
                takeValues(guest, other.values[guest]);
            }
        }

        void takeOwners(int[] from) {
            System.arraycopy(from, 0, owner, 0, CRUMBS);
        }

        void takeValues(int guest, int[] from) {
            System.arraycopy(from, 0, values[guest], 0, CRUMBS);
        }

        boolean isGuest(int number) {
            return number >= 0 && number < guests;
        }

        int seatGuest() {
            int guest = guests;
            guests++;
            setValues(guest, 0, CRUMBS - 1, 1);
            return guest;
        }

        void setValues(int guest, int from, int to, int value) {
            for (int crumb = from; crumb <= to; crumb++) {
                values[guest][crumb] = value;
            }
        }

        int total(int guest) {
            return spanWorth(guest, 0, CRUMBS - 1);
        }

        int spanWorth(int guest, int from, int to) {
            int sum = 0;
            for (int crumb = from; crumb <= to; crumb++) {
                sum += values[guest][crumb];
            }
            return sum;
        }

        /** What the crumbs of a holder (a guest or the table) are worth to a guest. */
        int worth(int guest, int holder) {
            return worthWithin(guest, holder, 0, CRUMBS - 1);
        }

        int worthWithin(int guest, int holder, int from, int to) {
            int sum = 0;
            for (int crumb = from; crumb <= to; crumb++) {
                if (owner[crumb] == holder) {
                    sum += values[guest][crumb];
                }
            }
            return sum;
        }

        int crumbsOf(int holder) {
            int number = 0;
            for (int crumb = 0; crumb < CRUMBS; crumb++) {
                if (owner[crumb] == holder) {
                    number++;
                }
            }
            return number;
        }

        int spansOf(int holder) {
            int number = 0;
            for (int crumb = 0; crumb < CRUMBS; crumb++) {
                if (owner[crumb] == holder && (crumb == 0 || owner[crumb - 1] != holder)) {
                    number++;
                }
            }
            return number;
        }

        boolean liesOnTable(int from, int to) {
            for (int crumb = from; crumb <= to; crumb++) {
                if (owner[crumb] != TABLE) {
                    return false;
                }
            }
            return true;
        }

        int handOut(int guest, int from, int to) {
            int number = 0;
            for (int crumb = from; crumb <= to; crumb++) {
                if (owner[crumb] == TABLE) {
                    owner[crumb] = guest;
                    number++;
                }
            }
            return number;
        }

        int takeBack(int from, int to) {
            int number = 0;
            for (int crumb = from; crumb <= to; crumb++) {
                if (owner[crumb] != TABLE) {
                    owner[crumb] = TABLE;
                    number++;
                }
            }
            return number;
        }

        /** The crumb ahead of which both parts of the span are most alike for the guest. */
        int findCut(int guest, int from, int to) {
            int whole = spanWorth(guest, from, to);
            int left = 0;
            int place = from + 1;
            int smallest = whole + 1;
            for (int crumb = from + 1; crumb <= to; crumb++) {
                left += values[guest][crumb - 1];
                int difference = Math.abs(whole - 2 * left);
                if (difference < smallest) {
                    smallest = difference;
                    place = crumb;
                }
            }
            return place;
        }

        int trimPiece(int guest, int other) {
            int measure = worth(other, other);
            int piece = worth(other, guest);
            int number = 0;
            for (int crumb = CRUMBS - 1; crumb >= 0 && piece > measure; crumb--) {
                if (owner[crumb] == guest) {
                    owner[crumb] = TABLE;
                    piece -= values[other][crumb];
                    number++;
                }
            }
            return number;
        }

        /** Gives each guest of the row the piece of the next one, the last one that of the first. */
        void passPieces(Row row) {
            for (int crumb = 0; crumb < CRUMBS; crumb++) {
                int place = row.placeOf(owner[crumb]);
                if (place < row.size) {
                    owner[crumb] = row.at[place == 0 ? row.size - 1 : place - 1];
                }
            }
        }

        int envyOf(int guest, int other) {
            return Math.max(0, worth(guest, other) - worth(guest, guest));
        }

        int arrows() {
            int number = 0;
            for (int guest = 0; guest < guests; guest++) {
                for (int other = 0; other < guests; other++) {
                    if (envyOf(guest, other) > 0) {
                        number++;
                    }
                }
            }
            return number;
        }

        int allEnvies() {
            int sum = 0;
            for (int guest = 0; guest < guests; guest++) {
                for (int other = 0; other < guests; other++) {
                    sum += envyOf(guest, other);
                }
            }
            return sum;
        }

        /** How many guests have at least their due share of 1 divided by the number of guests. */
        int contentGuests() {
            int number = 0;
            for (int guest = 0; guest < guests; guest++) {
                int whole = total(guest);
                // A total of 0 makes the share 0 by 1, which is never enough.
                if (whole > 0 && worth(guest, guest) * guests >= whole) {
                    number++;
                }
            }
            return number;
        }
    }

    /** The text, and the values that are read from it. */
    private static final class ValueText {
        int length = 0;
        final int[] signs = new int[MOST_SIGNS];
        final int[] values = new int[CRUMBS];
        private int told = 0;
        private int place = 0;

        int put(int sign) {
            if (length < MOST_SIGNS) {
                signs[length] = sign;
                length++;
            }
            return length;
        }

        /** Reads the text into values; answers the place where it fails, or NO_FAILURE. */
        int findFailure() {
            told = 0;
            place = 0;
            for (int part = 0; part <= CRUMBS; part++) {
                int failure = readPart();
                if (failure != NO_FAILURE) {
                    return failure;
                }
                if (place >= length) {
                    return told == CRUMBS ? NO_FAILURE : length;
                }
                if (signs[place] != ',') {
                    return place;
                }
                place++;
            }
            return place;
        }

        /** Reads the part that begins at place, and leaves place behind it. */
        private int readPart() {
            if (told >= CRUMBS || !isDigit(place)) {
                return place;
            }
            int digit = signs[place] - '0';
            place++;
            int times = 1;
            if (place < length && signs[place] == 'x') {
                int first = place + 1;
                times = readTimes(first);
                if (times <= 0) {
                    return place;
                }
                if (told + times > CRUMBS) {
                    return first;
                }
            }
            for (int i = 0; i < times && told < CRUMBS; i++) {
                values[told] = digit;
                told++;
            }
            return NO_FAILURE;
        }

        /** Answers the number and leaves place behind it, or answers 0 and leaves place where it fails. */
        private int readTimes(int first) {
            place = first;
            if (!isDigit(first) || signs[first] == '0') {
                return 0;
            }
            int times = signs[first] - '0';
            place++;
            if (isDigit(place)) {
                times = 10 * times + signs[place] - '0';
                place++;
                if (isDigit(place)) {
                    return 0;
                }
            }
            return times;
        }

        private boolean isDigit(int index) {
            return index >= 0 && index < length && signs[index] >= '0' && signs[index] <= '9';
        }
    }

    /** A mark that moves over the crumbs on the table of a cake, which it leaves as it is. */
    private static final class Mark {
        /** Who would have each crumb once the mark had moved. */
        final int[] owner = new int[CRUMBS];

        /** Answers how many guests would get something. */
        int pass(Cake cake, int part, int guests) {
            System.arraycopy(cake.owner, 0, owner, 0, CRUMBS);
            int waiting = guests;
            int begin = 0;
            int winners = 0;
            for (int crumb = 0; crumb < CRUMBS && waiting != 0; crumb++) {
                if (owner[crumb] != TABLE) {
                    continue;
                }
                int caller = firstCaller(cake, part, waiting, begin, crumb);
                if (caller != NOBODY) {
                    giveTo(caller, begin, crumb);
                    waiting &= ~(1 << caller);
                    begin = crumb + 1;
                    winners++;
                }
            }
            return winners;
        }

        private static int firstCaller(Cake cake, int part, int waiting, int from, int to) {
            for (int guest = 0; guest < cake.guests; guest++) {
                boolean waits = (waiting >> guest & 1) == 1;
                if (waits && PERCENT * cake.worthWithin(guest, TABLE, from, to) >= part * cake.total(guest)) {
                    return guest;
                }
            }
            return NOBODY;
        }

        private void giveTo(int guest, int from, int to) {
            for (int crumb = from; crumb <= to; crumb++) {
                if (owner[crumb] == TABLE) {
                    owner[crumb] = guest;
                }
            }
        }
    }

    /** A row of different guests; such rows come one after the other, compared by their first difference. */
    private static final class Row {
        final int[] at = new int[MOST_GUESTS];
        int size = 0;
        private int guests = 0;

        /** Makes this the first row of that size; there are at least as many guests. */
        void begin(int newSize, int newGuests) {
            size = Math.min(newSize, MOST_GUESTS);
            guests = newGuests;
            fill(0);
        }

        /** Makes this the next row that differs at the place or ahead of it; false if there is none. */
        boolean advance(int place) {
            for (int i = Math.min(place, size - 1); i >= 0; i--) {
                int next = firstFree(i, at[i] + 1);
                if (next < guests) {
                    at[i] = next;
                    fill(i + 1);
                    return true;
                }
            }
            return false;
        }

        /** Where the guest stands, or the size of the row. */
        int placeOf(int guest) {
            for (int i = 0; i < size; i++) {
                if (at[i] == guest) {
                    return i;
                }
            }
            return size;
        }

        private void fill(int from) {
            for (int i = from; i < size; i++) {
                at[i] = firstFree(i, 0);
            }
        }

        /** The smallest guest, of a number from least on, who doesn't stand ahead of the place. */
        private int firstFree(int place, int least) {
            int taken = 0;
            for (int i = 0; i < place; i++) {
                taken |= 1 << at[i];
            }
            for (int guest = least; guest < guests; guest++) {
                if ((taken >> guest & 1) == 0) {
                    return guest;
                }
            }
            return guests;
        }
    }

    /** The search for a ring of the envy graph. */
    private static final class Rings {
        final Row row = new Row();
        /** Bit by bit, whom each guest envies. */
        private final int[] envied = new int[MOST_GUESTS];

        /** Leaves the ring of an exchange in row; answers its number of guests, 0 if there is none. */
        int find(Cake cake) {
            drawArrows(cake);
            for (int size = 2; size <= cake.guests; size++) {
                // The first row that is a ring begins with its smallest guest: turned, it is a ring too.
                row.begin(size, cake.guests);
                boolean more = true;
                for (int round = 0; more && round < MOST_ROUNDS; round++) {
                    if (isRing()) {
                        return size;
                    }
                    more = row.advance(size - 1);
                }
            }
            return 0;
        }

        private void drawArrows(Cake cake) {
            for (int guest = 0; guest < cake.guests; guest++) {
                envied[guest] = 0;
                for (int other = 0; other < cake.guests; other++) {
                    if (cake.envyOf(guest, other) > 0) {
                        envied[guest] |= 1 << other;
                    }
                }
            }
        }

        private boolean isRing() {
            for (int i = 0; i < row.size; i++) {
                int next = row.at[i + 1 < row.size ? i + 1 : 0];
                if ((envied[row.at[i]] >> next & 1) == 0) {
                    return false;
                }
            }
            return true;
        }
    }

    /** The search through all divisions of the whole cake into one span for each guest. */
    private static final class Divisions {
        /** The smallest share of the best division, and how that division begins. */
        int fairPart = 0;
        int fairTotal = 1;
        int fairGuest = 0;
        final int[] fairStart = new int[MOST_GUESTS];

        /** The divisions without envy: their number, and how the first of them begins. */
        int quietCount = 0;
        int quietGuest = 0;
        int quietCut = 0;

        private int spans = 0;
        private final Row order = new Row();
        /** The first crumb of each span, and behind the last one the end of the cake. */
        private final int[] start = new int[MOST_GUESTS + 1];
        /** For each guest the total, or 1 for a total of 0, by which every share is 0 as well. */
        private final int[] totals = new int[MOST_GUESTS];
        /** For each guest what all crumbs ahead of a crumb are worth. */
        private final int[][] ahead = new int[MOST_GUESTS][CRUMBS + 1];
        /** For each guest what each span is worth. */
        private final int[][] parts = new int[MOST_GUESTS][MOST_GUESTS];
        /** For each guest what the span of the greatest value is worth. */
        private final int[] greatest = new int[MOST_GUESTS];

        void search(Cake cake) {
            prepare(cake);
            boolean more = spans >= 1;
            for (int round = 0; more && round < MOST_ROUNDS; round++) {
                measureSpans();
                seekFair();
                seekQuiet();
                more = nextCuts();
            }
        }

        private void prepare(Cake cake) {
            spans = cake.guests;
            // Less than every share, so that the first division is kept.
            fairPart = -1;
            fairTotal = 1;
            quietCount = 0;
            for (int guest = 0; guest < spans; guest++) {
                for (int crumb = 0; crumb < CRUMBS; crumb++) {
                    ahead[guest][crumb + 1] = ahead[guest][crumb] + cake.values[guest][crumb];
                }
                totals[guest] = Math.max(1, ahead[guest][CRUMBS]);
            }
            for (int span = 0; span < spans; span++) {
                start[span] = span;
            }
            start[spans] = CRUMBS;
        }

        private boolean nextCuts() {
            for (int span = spans - 1; span >= 1; span--) {
                if (start[span] < CRUMBS - spans + span) {
                    start[span]++;
                    for (int later = span + 1; later < spans; later++) {
                        start[later] = start[later - 1] + 1;
                    }
                    return true;
                }
            }
            return false;
        }

        private void measureSpans() {
            for (int guest = 0; guest < spans; guest++) {
                greatest[guest] = 0;
                for (int span = 0; span < spans; span++) {
                    parts[guest][span] = ahead[guest][start[span + 1]] - ahead[guest][start[span]];
                    greatest[guest] = Math.max(greatest[guest], parts[guest][span]);
                }
            }
        }

        private void seekFair() {
            order.begin(spans, spans);
            boolean more = true;
            for (int round = 0; more && round < MOST_ROUNDS; round++) {
                int place = firstPoor();
                if (place == spans) {
                    keepFair();
                }
                more = order.advance(place);
            }
        }

        /** The first span whose guest would have no more than the best smallest share so far, or spans. */
        private int firstPoor() {
            for (int span = 0; span < spans; span++) {
                int guest = order.at[span];
                if (parts[guest][span] * fairTotal <= fairPart * totals[guest]) {
                    return span;
                }
            }
            return spans;
        }

        private void keepFair() {
            fairGuest = order.at[0];
            fairPart = parts[fairGuest][0];
            fairTotal = totals[fairGuest];
            for (int span = 0; span < spans; span++) {
                int guest = order.at[span];
                fairStart[span] = start[span];
                if (parts[guest][span] * fairTotal < fairPart * totals[guest]) {
                    fairPart = parts[guest][span];
                    fairTotal = totals[guest];
                }
            }
        }

        private void seekQuiet() {
            order.begin(spans, spans);
            boolean more = true;
            for (int round = 0; more && round < MOST_ROUNDS; round++) {
                int place = firstEnvious();
                if (place == spans) {
                    countQuiet();
                }
                more = order.advance(place);
            }
        }

        /** The first span whose guest would rather have another one, or spans. */
        private int firstEnvious() {
            for (int span = 0; span < spans; span++) {
                int guest = order.at[span];
                if (parts[guest][span] < greatest[guest]) {
                    return span;
                }
            }
            return spans;
        }

        private void countQuiet() {
            if (quietCount == 0) {
                quietGuest = order.at[0];
                quietCut = start[1];
            }
            quietCount++;
        }
    }
}
