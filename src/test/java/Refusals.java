import java.util.ArrayList;
import java.util.List;
import java.util.function.Consumer;
import java.util.function.IntPredicate;
import java.util.function.ToIntFunction;

/**
 * "What is refused changes nothing": a hall that refused a call answers all that can be asked
 * afterwards as one does that never had that call. Each row of questions has a new hall of
 * its own, as an object is promised for 512 calls alone, and some questions change it.
 */
final class Refusals {
    /** A call with one argument left open. */
    interface Of {
        int answer(SpecimenHall x, int value);
    }

    private static final int MOST_IN_A_ROW = 150;
    private static final int[] WRAPS = {64, 256, 65536};

    private record Probe(String told, ToIntFunction<SpecimenHall> call) {
    }

    private static final List<List<Probe>> ROWS = rows();

    private final Check check;
    private final Consumer<SpecimenHall> setting;
    private final List<Integer> untouched;

    Refusals(Check check, Consumer<SpecimenHall> setting) {
        this.check = check;
        this.setting = setting;
        untouched = seenAfter(x -> 0);
    }

    static int bit(boolean answer) {
        return answer ? 1 : 0;
    }

    SpecimenHall fresh() {
        SpecimenHall x = new SpecimenHall();
        setting.accept(x);
        return x;
    }

    void refuses(String what, int due, ToIntFunction<SpecimenHall> call) {
        check.is(what, call.applyAsInt(fresh()), due);
        List<Integer> seen = seenAfter(call);
        String changed = "";
        int index = 0;
        for (List<Probe> row : ROWS) {
            for (Probe probe : row) {
                if (changed.isEmpty() && !seen.get(index).equals(untouched.get(index))) {
                    changed = ", refused, changed " + probe.told;
                }
                index++;
            }
        }
        check.is(what + changed, !changed.isEmpty(), false);
    }

    /**
     * Of one argument: just these values are taken, all others refused and without a trace.
     * Looked at are all small values, and what is next to an edge or wraps round to it.
     */
    void takesJust(String what, int refusal, IntPredicate taken, Of call, int... edges) {
        for (int value = -140; value <= 320; value++) {
            looksAt(what, refusal, taken, call, value);
        }
        looksAt(what, refusal, taken, call, Integer.MIN_VALUE);
        looksAt(what, refusal, taken, call, Integer.MAX_VALUE);
        for (int edge : edges) {
            for (int value = edge - 1; value <= edge + 1; value++) {
                looksAt(what, refusal, taken, call, value);
                refusesOutside(what, refusal, taken, call, value);
                refusesOutside(what, refusal, taken, call, value + Integer.MIN_VALUE);
            }
            for (int wrap : WRAPS) {
                refusesOutside(what, refusal, taken, call, edge + wrap);
                refusesOutside(what, refusal, taken, call, edge - wrap);
            }
        }
        refusesOutside(what, refusal, taken, call, Integer.MIN_VALUE);
        refusesOutside(what, refusal, taken, call, Integer.MAX_VALUE);
    }

    private void looksAt(String what, int refusal, IntPredicate taken, Of call, int value) {
        boolean got = call.answer(fresh(), value) != refusal;
        check.is(what + " " + value + " is taken", got, taken.test(value));
    }

    private void refusesOutside(String what, int refusal, IntPredicate taken, Of call,
            int value) {
        if (!taken.test(value)) {
            refuses(what + " " + value, refusal, x -> call.answer(x, value));
        }
    }

    private List<Integer> seenAfter(ToIntFunction<SpecimenHall> call) {
        List<Integer> seen = new ArrayList<>();
        for (List<Probe> row : ROWS) {
            SpecimenHall x = fresh();
            call.applyAsInt(x);
            for (Probe probe : row) {
                seen.add(probe.call.applyAsInt(x));
            }
        }
        return seen;
    }

    private static List<List<Probe>> rows() {
        List<List<Probe>> rows = new ArrayList<>();
        List<Probe> quiet = quietProbes();
        for (int from = 0; from < quiet.size(); from += MOST_IN_A_ROW) {
            rows.add(quiet.subList(from, Math.min(quiet.size(), from + MOST_IN_A_ROW)));
        }
        for (int field = 0; field < 5; field++) {
            rows.add(rulesOf(field));
        }
        rows.add(keysByNames());
        rows.add(keysBySizes());
        rows.add(placesLeft());
        rows.add(placesTaken());
        rows.add(shelvesByRoom());
        rows.add(shelvesByKind());
        rows.add(loansGivenBack());
        rows.add(loansToCome());
        return rows;
    }

    private static void add(List<Probe> row, String told, ToIntFunction<SpecimenHall> call) {
        row.add(new Probe(told, call));
    }

    private static List<Probe> quietProbes() {
        List<Probe> row = new ArrayList<>();
        add(row, "asked", SpecimenHall::asked);
        for (int w = -1; w <= 8; w++) {
            int what = w;
            add(row, "count " + what, x -> x.count(what));
        }
        for (int s = 0; s < Halls.SPECIMENS; s++) {
            addOfSpecimen(row, s);
        }
        for (int b = 0; b < Halls.CASES; b++) {
            for (int p = 0; p < 20; p++) {
                int box = b;
                int place = p;
                add(row, "placed " + box + " " + place, x -> x.placed(box, place));
            }
        }
        for (int day : new int[] {0, 15, 16, 17, 100, 100000}) {
            addOfDay(row, day);
        }
        for (int c = 0; c <= 48; c++) {
            int code = c;
            add(row, "find " + code, x -> x.find(code, 1, 50));
            add(row, "nth " + code, x -> x.nth(code, 2));
        }
        return row;
    }

    private static void addOfSpecimen(List<Probe> row, int specimen) {
        for (int w = 0; w <= 9; w++) {
            int what = w;
            add(row, "told " + specimen + " " + what, x -> x.told(specimen, what));
        }
        for (int f = 0; f < 5; f++) {
            int field = f;
            add(row, "asks " + specimen + " " + field, x -> x.asks(specimen, field));
            add(row, "nearest " + specimen + " " + field, x -> x.nearest(specimen, field, 0));
            add(row, "nearest " + specimen + " " + field, x -> x.nearest(specimen, field, 1));
        }
        add(row, "nth 0 " + specimen, x -> x.nth(0, specimen));
    }

    private static void addOfDay(List<Probe> row, int day) {
        add(row, "overdue " + day, x -> x.overdue(day));
        for (int n = 0; n < 13; n++) {
            int i = n;
            add(row, "lateOne " + day + " " + i, x -> x.lateOne(day, i));
        }
        for (int b = 0; b < 20; b++) {
            int borrower = b;
            add(row, "fees " + borrower + " " + day, x -> x.fees(borrower, day));
        }
    }

    private static List<Probe> rulesOf(int field) {
        List<Probe> row = new ArrayList<>();
        for (int c = 48; c >= 0; c--) {
            int code = c;
            add(row, "asks of field " + field, x -> x.asks(code % 7, field));
            add(row, "rule " + code + " " + field, x -> bit(x.unrule(code, field)));
        }
        return row;
    }

    private static List<Probe> keysByNames() {
        List<Probe> row = new ArrayList<>();
        for (int k = 0; k < 10; k++) {
            for (int s = 0; s < 5; s++) {
                int key = k;
                int specimen = s;
                add(row, "name " + key + " " + specimen, x -> x.name(key, specimen));
                add(row, "asked by " + key + " " + specimen, SpecimenHall::asked);
            }
        }
        return row;
    }

    private static List<Probe> keysBySizes() {
        List<Probe> row = new ArrayList<>();
        for (int k = 0; k < 10; k++) {
            int key = k;
            add(row, "size of key " + key, x -> x.question(key, 2, 0, 7, 8));
            add(row, "name by key " + key, x -> x.name(key, 0));
        }
        return row;
    }

    private static List<Probe> placesLeft() {
        List<Probe> row = new ArrayList<>();
        add(row, "number of the next specimen", x -> x.make(2, 3, 3));
        add(row, "number of the next case", x -> x.caseOf(2, 3));
        for (int b = 0; b < Halls.CASES + 2; b++) {
            for (int p = 0; p <= 20; p++) {
                int box = b;
                int place = p;
                add(row, "place " + box + " " + place, x -> x.putIn(box, place, 5));
            }
        }
        return row;
    }

    private static List<Probe> placesTaken() {
        List<Probe> row = new ArrayList<>();
        for (int b = 0; b < Halls.CASES; b++) {
            for (int p = 0; p < 20; p++) {
                int box = b;
                int place = p;
                add(row, "taken out " + box + " " + place, x -> x.takeOut(box, place));
            }
        }
        return row;
    }

    private static List<Probe> shelvesByRoom() {
        List<Probe> row = new ArrayList<>();
        add(row, "a specimen of 100000", x -> x.make(21, 100000, 0));
        for (int s = 0; s < 10; s++) {
            int shelf = s;
            for (int n : new int[] {5, 18, 6, 0, 4, Halls.SPECIMENS}) {
                add(row, "room on " + shelf + " for " + n, x -> bit(x.move(n, shelf)));
            }
            add(row, "shelf " + shelf, x -> bit(x.shelf(shelf, 0, 1)));
        }
        return row;
    }

    private static List<Probe> shelvesByKind() {
        List<Probe> row = new ArrayList<>();
        for (int n = 0; n < 3; n++) {
            int kind = new int[] {2, 12, 22}[n];
            int specimen = Halls.SPECIMENS + n;
            add(row, "a specimen without length", x -> x.make(kind, 0, 0));
            for (int s = 0; s < 10; s++) {
                int shelf = s;
                add(row, "kind of " + shelf, x -> bit(x.move(specimen, shelf)));
            }
        }
        for (int s = 0; s < Halls.SPECIMENS; s++) {
            int specimen = s;
            add(row, "off its shelf " + specimen, x -> bit(x.move(specimen, SpecimenHall.NONE)));
            add(row, "revised " + specimen, x -> bit(x.convert(specimen, 19)));
        }
        return row;
    }

    private static List<Probe> loansGivenBack() {
        List<Probe> row = new ArrayList<>();
        for (int s = 0; s < Halls.SPECIMENS; s++) {
            int specimen = s;
            add(row, "given back " + specimen, x -> x.giveBack(specimen, 60 + specimen));
        }
        for (int b = 0; b < 20; b++) {
            int borrower = b;
            add(row, "charged " + borrower, x -> x.fees(borrower, 0));
        }
        add(row, "charged in all", x -> x.count(7));
        add(row, "loans ever", x -> x.count(4));
        return row;
    }

    private static List<Probe> loansToCome() {
        List<Probe> row = new ArrayList<>();
        for (int b = 0; b < 20; b++) {
            int borrower = b;
            add(row, "lent to " + borrower, x -> x.lend(18, borrower, 0));
            add(row, "given back by " + borrower, x -> x.giveBack(18, 0));
        }
        for (int n : new int[] {18, 6, 5, 4, 1000, 1001, 1002, 1003}) {
            add(row, "one more to 3: " + n, x -> x.lend(n, 3, 0));
            add(row, "to one who has none: " + n, x -> x.lend(n, 17, 0));
        }
        return row;
    }
}
