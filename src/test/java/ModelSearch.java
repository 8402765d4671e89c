import java.util.HashMap;
import java.util.List;
import java.util.Map;

/** The model's search for best() and calm(): every division is made and judged, one after the other. */
final class ModelSearch {
    /** What was found for which values: the tests come back to the same ones very often. */
    private static final Map<String, ModelSearch> FOUND = new HashMap<>();

    private final List<int[]> values;
    private long topNumerator = -1;
    private long topDenominator = 1;
    private int[] topCuts;
    private int[] topGuests;
    private int quiet = 0;
    private int[] quietCuts;
    private int[] quietGuests;

    private ModelSearch(List<int[]> values) {
        this.values = values;
        cutOn(new int[values.size() + 1], 1);
    }

    static ModelSearch of(List<int[]> values) {
        StringBuilder key = new StringBuilder();
        for (int[] row : values) {
            for (int value : row) {
                key.append(value);
            }
        }
        return FOUND.computeIfAbsent(key.toString(), same -> new ModelSearch(values));
    }

    int best(int what) {
        long divisor = 1;
        for (long d = 2; d <= topDenominator; d++) {
            divisor = topNumerator % d == 0 && topDenominator % d == 0 ? d : divisor;
        }
        switch (what) {
            case 0: return (int) (topNumerator / divisor);
            case 1: return topNumerator == 0 ? 1 : (int) (topDenominator / divisor);
            case 2: return topGuests[0];
            default: return what - 2 < topGuests.length ? topCuts[what - 2] : -9;
        }
    }

    int calm(int what) {
        return what == 0 ? quiet : quiet == 0 ? -9 : what == 1 ? quietGuests[0] : quietCuts[1];
    }

    private void cutOn(int[] cuts, int span) {
        if (span >= values.size()) {
            cuts[values.size()] = 24;
            seat(cuts, new int[values.size()], 0);
            return;
        }
        for (int place = cuts[span - 1] + 1; place < 24; place++) {
            cuts[span] = place;
            cutOn(cuts, span + 1);
        }
    }

    private void seat(int[] cuts, int[] guests, int span) {
        if (span == values.size()) {
            judge(cuts, guests);
            return;
        }
        for (int guest = 0; guest < values.size(); guest++) {
            boolean seated = false;
            for (int i = 0; i < span; i++) {
                seated |= guests[i] == guest;
            }
            if (!seated) {
                guests[span] = guest;
                seat(cuts, guests, span + 1);
            }
        }
    }

    private void judge(int[] cuts, int[] guests) {
        long numerator = 2;
        long denominator = 1;
        boolean calm = true;
        for (int span = 0; span < guests.length; span++) {
            int own = sum(guests[span], cuts[span], cuts[span + 1]);
            int whole = sum(guests[span], 0, 24);
            long below = whole == 0 ? 1 : whole;
            if (own * denominator < numerator * below) {
                numerator = own;
                denominator = below;
            }
            for (int other = 0; other < guests.length && calm; other++) {
                calm = sum(guests[span], cuts[other], cuts[other + 1]) <= own;
            }
        }
        if (numerator * topDenominator > topNumerator * denominator) {
            topNumerator = numerator;
            topDenominator = denominator;
            topCuts = cuts.clone();
            topGuests = guests.clone();
        }
        if (calm) {
            quiet++;
            if (quiet == 1) {
                quietCuts = cuts.clone();
                quietGuests = guests.clone();
            }
        }
    }

    private int sum(int guest, int from, int end) {
        int sum = 0;
        for (int crumb = from; crumb < end; crumb++) {
            sum += values.get(guest)[crumb];
        }
        return sum;
    }
}
