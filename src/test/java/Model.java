import java.util.ArrayDeque;
import java.util.ArrayList;
import java.util.Arrays;
import java.util.Deque;
import java.util.List;

/** The document once more, told in the plainest way: slow, without any of the class's own means. */
final class Model {
    private static final int TABLE = -9;

    private List<int[]> values = new ArrayList<>();
    private int[] owner = new int[24];
    private final Deque<Object[]> history = new ArrayDeque<>();
    private String text = "";

    Model() {
        Arrays.fill(owner, TABLE);
    }

    int answer(String call, int[] a) {
        switch (call) {
            case "addGuest": return addGuest();
            case "setValue": return setValue(a[0], a[1], a[2], a[3]);
            case "append": return append(a[0]);
            case "clearText": return clearText();
            case "read": return read(a[0]);
            case "give": return give(a[0], a[1], a[2]);
            case "putBack": return putBack(a[0], a[1]);
            case "move": return move(a[0], a[1], true);
            case "cut": return cut(a[0], a[1], a[2], a[3]);
            case "trim": return trim(a[0], a[1]);
            case "exchange": return exchange();
            case "undo": return undo();
            case "count": return count(a[0]);
            case "guest": return guest(a[0], a[1]);
            case "crumb": return a[0] < 0 || a[0] > 23 ? -1 : owner[a[0]];
            case "value": return !known(a[0]) || a[1] < 0 || a[1] > 23 ? -1 : values.get(a[0])[a[1]];
            case "envy": return !pair(a[0], a[1]) ? -1 : envy(a[0], a[1]);
            case "ring": return a[0] < 0 ? -1 : a[0] >= ring().size() ? -9 : ring().get(a[0]);
            case "middle": return !known(a[0]) ? -1 : middle(a[0], 0, 23);
            case "best": return best(a[0]);
            case "calm": return calm(a[0]);
            case "calls": return move(a[0], a[1], false);
            default: throw new IllegalArgumentException(call);
        }
    }

    private boolean known(int guest) {
        return 0 <= guest && guest < values.size();
    }

    private boolean pair(int one, int two) {
        return known(one) && known(two) && one != two;
    }

    private static boolean span(int from, int to) {
        return 0 <= from && from <= to && to <= 23;
    }

    private void save() {
        List<int[]> copy = new ArrayList<>();
        for (int[] row : values) {
            copy.add(row.clone());
        }
        history.addLast(new Object[] {copy, owner.clone()});
        if (history.size() > 5) {
            history.removeFirst();
        }
    }

    @SuppressWarnings("unchecked")
    private int undo() {
        if (history.isEmpty()) {
            return -2;
        }
        Object[] state = history.removeLast();
        values = (List<int[]>) state[0];
        owner = (int[]) state[1];
        return history.size();
    }

    private int addGuest() {
        if (values.size() == 4) {
            return -3;
        }
        save();
        int[] row = new int[24];
        Arrays.fill(row, 1);
        values.add(row);
        return values.size() - 1;
    }

    private int setValue(int guest, int from, int to, int value) {
        if (!known(guest) || !span(from, to) || value < 0 || value > 9) {
            return -1;
        }
        save();
        Arrays.fill(values.get(guest), from, to + 1, value);
        return total(guest);
    }

    private int append(int sign) {
        if (sign < 1 || sign > 255) {
            return -1;
        }
        if (text.length() == 60) {
            return -3;
        }
        text += (char) sign;
        return text.length();
    }

    private int clearText() {
        int before = text.length();
        text = "";
        return before;
    }

    private int read(int guest) {
        if (!known(guest)) {
            return -1;
        }
        StringBuilder told = new StringBuilder();
        int failure = failure(told);
        if (failure >= 0) {
            return -1000 - failure;
        }
        save();
        for (int crumb = 0; crumb < 24; crumb++) {
            values.get(guest)[crumb] = told.charAt(crumb) - '0';
        }
        return total(guest);
    }

    private int failure(StringBuilder told) {
        int at = 0;
        while (true) {
            if (at == text.length() || !text.substring(at, at + 1).matches("[0-9]") || told.length() == 24) {
                return at;
            }
            String digit = text.substring(at, at + 1);
            at++;
            if (text.startsWith("x", at)) {
                int first = at + 1;
                int end = first;
                while (end < text.length() && text.substring(end, end + 1).matches("[0-9]")) {
                    end++;
                }
                if (end == first || text.charAt(first) == '0') {
                    return first;
                }
                if (end - first > 2) {
                    return first + 2;
                }
                int times = Integer.parseInt(text.substring(first, end));
                if (times > 24 || told.length() + times > 24) {
                    return first;
                }
                told.append(digit.repeat(times));
                at = end;
            } else {
                told.append(digit);
            }
            if (at == text.length()) {
                return told.length() == 24 ? -1 : at;
            }
            if (text.charAt(at) != ',') {
                return at;
            }
            at++;
        }
    }

    private int give(int guest, int from, int to) {
        if (!known(guest) || !span(from, to)) {
            return -1;
        }
        save();
        return hand(TABLE, guest, from, to);
    }

    private int hand(int before, int then, int from, int to) {
        int number = 0;
        for (int crumb = from; crumb <= to; crumb++) {
            if (owner[crumb] == before) {
                owner[crumb] = then;
                number++;
            }
        }
        return number;
    }

    private int putBack(int from, int to) {
        if (!span(from, to)) {
            return -1;
        }
        save();
        int number = 0;
        for (int guest = 0; guest < 4; guest++) {
            number += hand(guest, TABLE, from, to);
        }
        return number;
    }

    private int move(int part, int guests, boolean real) {
        if (part < 1 || part > 100 || guests < 1 || guests >= Math.pow(2, values.size())) {
            return -1;
        }
        if (real) {
            save();
        }
        int[] then = owner.clone();
        List<Integer> waiting = new ArrayList<>();
        for (int guest = 0; guest < values.size(); guest++) {
            if ((guests & 1 << guest) != 0) {
                waiting.add(guest);
            }
        }
        List<Integer> passed = new ArrayList<>();
        int winners = 0;
        for (int crumb = 0; crumb < 24 && !waiting.isEmpty(); crumb++) {
            if (owner[crumb] != TABLE) {
                continue;
            }
            passed.add(crumb);
            Integer caller = null;
            for (Integer guest : waiting) {
                int worth = 0;
                for (int c : passed) {
                    worth += values.get(guest)[c];
                }
                if (caller == null && (total(guest) == 0 || worth * 100 >= part * total(guest))) {
                    caller = guest;
                }
            }
            if (caller != null) {
                for (int c : passed) {
                    then[c] = caller;
                }
                passed.clear();
                waiting.remove(caller);
                winners++;
            }
        }
        if (real) {
            owner = then;
        }
        return winners;
    }

    private int cut(int cutter, int chooser, int from, int to) {
        if (!pair(cutter, chooser) || from < 0 || from > 22 || to <= from || to > 23) {
            return -1;
        }
        for (int crumb = from; crumb <= to; crumb++) {
            if (owner[crumb] != TABLE) {
                return -2;
            }
        }
        save();
        int right = middle(cutter, from, to);
        boolean left = sum(chooser, from, right) >= sum(chooser, right, to + 1);
        for (int crumb = from; crumb <= to; crumb++) {
            owner[crumb] = crumb < right == left ? chooser : cutter;
        }
        return right;
    }

    private int middle(int guest, int from, int to) {
        int best = from + 1;
        for (int place = from + 1; place <= to; place++) {
            if (difference(guest, from, place, to) < difference(guest, from, best, to)) {
                best = place;
            }
        }
        return best;
    }

    private int difference(int guest, int from, int place, int to) {
        return Math.abs(sum(guest, from, place) - sum(guest, place, to + 1));
    }

    private int sum(int guest, int from, int end) {
        int[] row = values.get(guest);
        int sum = 0;
        for (int crumb = from; crumb < end; crumb++) {
            sum += row[crumb];
        }
        return sum;
    }

    private int total(int guest) {
        return sum(guest, 0, 24);
    }

    private int worth(int guest, int holder) {
        int sum = 0;
        for (int crumb = 0; crumb < 24; crumb++) {
            sum += owner[crumb] == holder ? values.get(guest)[crumb] : 0;
        }
        return sum;
    }

    private int trim(int guest, int other) {
        if (!pair(guest, other)) {
            return -1;
        }
        save();
        int number = 0;
        while (worth(other, guest) > worth(other, other)) {
            int last = 23;
            while (owner[last] != guest) {
                last--;
            }
            owner[last] = TABLE;
            number++;
        }
        return number;
    }

    private int envy(int guest, int other) {
        int more = worth(guest, other) - worth(guest, guest);
        return more > 0 ? more : 0;
    }

    /** Every ring is looked at, and the shortest kept, of several the first by its guests as a text. */
    private List<Integer> ring() {
        List<List<Integer>> rings = new ArrayList<>();
        for (int guest = 0; guest < values.size(); guest++) {
            grow(new ArrayList<>(List.of(guest)), rings);
        }
        List<Integer> first = new ArrayList<>();
        for (List<Integer> ring : rings) {
            if (first.isEmpty() || ring.size() < first.size()
                    || ring.size() == first.size() && ring.toString().compareTo(first.toString()) < 0) {
                first = ring;
            }
        }
        return first;
    }

    private void grow(List<Integer> row, List<List<Integer>> rings) {
        int last = row.get(row.size() - 1);
        if (row.size() > 1 && envy(last, row.get(0)) > 0) {
            rings.add(row);
        }
        for (int next = row.get(0) + 1; next < values.size(); next++) {
            if (!row.contains(next) && envy(last, next) > 0) {
                List<Integer> longer = new ArrayList<>(row);
                longer.add(next);
                grow(longer, rings);
            }
        }
    }

    private int exchange() {
        List<Integer> ring = ring();
        if (ring.isEmpty()) {
            return -2;
        }
        save();
        int[] before = owner.clone();
        for (int i = 0; i < ring.size(); i++) {
            for (int crumb = 0; crumb < 24; crumb++) {
                if (before[crumb] == ring.get((i + 1) % ring.size())) {
                    owner[crumb] = ring.get(i);
                }
            }
        }
        return ring.size();
    }

    private int count(int what) {
        int arrows = 0;
        int envies = 0;
        int content = 0;
        for (int guest = 0; guest < values.size(); guest++) {
            for (int other = 0; other < values.size(); other++) {
                if (guest != other && envy(guest, other) > 0) {
                    arrows++;
                    envies += envy(guest, other);
                }
            }
            content += values.size() * (long) guest(guest, 3) >= guest(guest, 4) ? 1 : 0;
        }
        int table = (int) Arrays.stream(owner).filter(o -> o == TABLE).count();
        int[] all = {values.size(), table, arrows, envies, arrows == 0 ? 1 : 0, content, history.size(), text.length()};
        return what < 0 || what > 7 ? -1 : all[what];
    }

    private int guest(int guest, int what) {
        if (!known(guest) || what < 0 || what > 6) {
            return -1;
        }
        StringBuilder row = new StringBuilder();
        for (int o : owner) {
            row.append(o == guest ? 'o' : ' ');
        }
        String piece = row.toString().trim();
        int has = worth(guest, guest);
        int divisor = 1;
        for (int d = 2; d <= 216; d++) {
            divisor = has % d == 0 && total(guest) % d == 0 ? d : divisor;
        }
        switch (what) {
            case 0: return total(guest);
            case 1: return has;
            case 2: return piece.replace(" ", "").length();
            case 3: return has == 0 ? 0 : has / divisor;
            case 4: return has == 0 ? 1 : total(guest) / divisor;
            case 5: return piece.isEmpty() ? 0 : piece.split(" +").length;
            default: return worth(guest, TABLE);
        }
    }

    private int best(int what) {
        if (what < 0 || what > 5) {
            return -1;
        }
        return values.isEmpty() ? -2 : ModelSearch.of(values).best(what);
    }

    private int calm(int what) {
        if (what < 0 || what > 2) {
            return -1;
        }
        return values.size() < 2 ? -2 : ModelSearch.of(values).calm(what);
    }
}
