import java.util.ArrayList;
import java.util.Comparator;
import java.util.HashMap;
import java.util.List;
import java.util.Map;
import java.util.TreeMap;
import java.util.TreeSet;

/**
 * The document once more, word by word and without a thought for speed: what ModelTest holds
 * SpecimenHall against. It shares no table and no way of reckoning with it.
 */
final class PlainHall {
    private static final int NONE = -1;

    private static final String KINDS = "0 specimen'; 1 plant' (0), 2 fern (1), 3 flower' (1), "
            + "4 rose (3), 5 lily (3), 6 tree (1), 7 oak (6), 8 cycad (6); 9 animal' (0), "
            + "10 insect' (9), 11 beetle (10), 12 moth (10), 13 hawk-moth (12), 14 fish (9), "
            + "15 shark (14), 16 coelacanth (14), 17 bird' (9), 18 owl (17), 19 dodo (17); "
            + "20 mineral' (0), 21 crystal (20), 22 meteorite (20), 23 realgar (21)";
    private static final String TRAITS = "40; 41 40; 42 40; 43; 44; 45; 46 45; 47 45; 48 47 43";
    private static final String NAMES = "1 41; 3 43; 5 46; 6 44; 8 47; 10 41 43; 13 44; 14 42; "
            + "15 44; 16 47; 17 41; 18 44; 19 48; 20 41; 21 43; 22 47; 23 46";

    private static final Map<Integer, Integer> PARENT = new HashMap<>();
    private static final TreeSet<Integer> KIND = new TreeSet<>();
    private static final TreeSet<Integer> ABSTRACT = new TreeSet<>();
    private static final Map<Integer, List<Integer>> EXTENDS = lists(TRAITS);
    private static final Map<Integer, List<Integer>> NAMED = lists(NAMES);

    static {
        for (String entry : KINDS.split("[;,] ")) {
            String[] words = entry.split(" ");
            int kind = Integer.parseInt(words[0]);
            KIND.add(kind);
            if (words[1].endsWith("'")) {
                ABSTRACT.add(kind);
            }
            if (words.length > 2) {
                PARENT.put(kind, Integer.parseInt(words[2].replaceAll("[()]", "")));
            }
        }
    }

    private static Map<Integer, List<Integer>> lists(String text) {
        Map<Integer, List<Integer>> map = new TreeMap<>();
        for (String entry : text.split("; ")) {
            String[] words = entry.split(" ");
            List<Integer> list = new ArrayList<>();
            for (int i = 1; i < words.length; i++) {
                list.add(Integer.parseInt(words[i]));
            }
            map.put(Integer.parseInt(words[0]), list);
        }
        return map;
    }

    private static final class Item {
        int number;
        int kind;
        int length;
        int weight;
        int box = NONE;
        int place = NONE;
        int shelf = NONE;
        int borrower = NONE;
        int day = NONE;
        int term = NONE;
        int fee = NONE;

        int late(int today) {
            return Math.max(0, today - (day + term));
        }

        int due(int today) {
            int sum = 0;
            for (int nth = 1; nth <= Math.min(late(today), 500); nth++) {
                sum += nth <= 30 ? fee : 2 * fee;
            }
            return Math.min(sum, 100 * fee);
        }
    }

    private final List<Item> items = new ArrayList<>();
    private final List<int[]> boxes = new ArrayList<>();
    private final Map<Integer, int[]> shelves = new HashMap<>();
    private final Map<String, Integer> rules = new HashMap<>();
    private final Map<Integer, Integer> charged = new HashMap<>();
    private final Map<Integer, List<int[]>> keys = new HashMap<>();
    private int ever = 0;
    private int askedLately = 0;

    private static boolean isKind(int code) {
        return KIND.contains(code);
    }

    private static boolean isTrait(int code) {
        return EXTENDS.containsKey(code);
    }

    private static boolean isEither(int code) {
        return isKind(code) || isTrait(code);
    }

    private static boolean within(int number, int least, int most) {
        return least <= number && number <= most;
    }

    private static boolean above(int c, int d) {
        if (isKind(c) && isKind(d)) {
            return c == d || PARENT.containsKey(d) && above(c, PARENT.get(d));
        }
        if (isTrait(c) && isTrait(d)) {
            return c == d || EXTENDS.get(d).stream().anyMatch(t -> above(c, t));
        }
        if (isTrait(c) && isKind(d)) {
            return KIND.stream().anyMatch(k -> above(k, d) && namesOneUnder(k, c));
        }
        return false;
    }

    private static boolean namesOneUnder(int kind, int trait) {
        return NAMED.getOrDefault(kind, List.of()).stream().anyMatch(t -> above(trait, t));
    }

    private static TreeSet<Integer> withoutOthersBelow(TreeSet<Integer> traits) {
        TreeSet<Integer> left = new TreeSet<>();
        for (int t : traits) {
            if (traits.stream().noneMatch(u -> u != t && above(t, u))) {
                left.add(t);
            }
        }
        return left;
    }

    private static int pick(TreeSet<Integer> set, int k) {
        return k >= 0 && k < set.size() ? new ArrayList<>(set).get(k) : NONE;
    }

    private Item item(int number) {
        return within(number, 0, items.size() - 1) ? items.get(number) : null;
    }

    private Item itemIn(int box, int place) {
        for (Item item : items) {
            if (item.box == box && item.place == place && box != NONE) {
                return item;
            }
        }
        return null;
    }

    private boolean isPlace(int box, int place) {
        return within(box, 0, boxes.size() - 1) && within(place, 0, boxes.get(box)[1] - 1);
    }

    int make(int kind, int length, int weight) {
        if (!isKind(kind) || ABSTRACT.contains(kind) || !within(length, 0, 100000)
                || !within(weight, 0, 100000) || items.size() == 300) {
            return NONE;
        }
        Item item = new Item();
        item.number = items.size();
        item.kind = kind;
        item.length = length;
        item.weight = weight;
        items.add(item);
        return item.number;
    }

    int caseOf(int kind, int n) {
        if (!isKind(kind) || !within(n, 1, 20) || boxes.size() == 40) {
            return NONE;
        }
        boxes.add(new int[] {kind, n});
        return boxes.size() - 1;
    }

    int putIn(int box, int place, int specimen) {
        Item item = item(specimen);
        if (!isPlace(box, place) || item == null || itemIn(box, place) != null
                || item.borrower != NONE) {
            return NONE;
        }
        if (!above(boxes.get(box)[0], item.kind)) {
            return -2;
        }
        item.box = box;
        item.place = place;
        return 1;
    }

    int takeOut(int box, int place) {
        Item item = itemIn(box, place);
        if (item == null || item.borrower != NONE) {
            return NONE;
        }
        item.box = NONE;
        item.place = NONE;
        return item.number;
    }

    int placed(int box, int place) {
        Item item = itemIn(box, place);
        return item == null ? NONE : item.number;
    }

    int told(int specimen, int what) {
        Item i = item(specimen);
        if (i == null || !within(what, 0, 9)) {
            return NONE;
        }
        return new int[] {i.kind, i.length, i.weight, i.box, i.place, i.shelf, i.borrower, i.day,
            i.term, i.fee}[what];
    }

    boolean below(int a, int b) {
        return above(b, a) || a >= 100 && b >= 100 && above(b - 100, a - 100);
    }

    int steps(int kind, int above) {
        if (!isKind(kind) || !isEither(above) || !above(above, kind)) {
            return NONE;
        }
        boolean there = kind == above || isTrait(above) && namesOneUnder(kind, above);
        return there ? 0 : 1 + steps(PARENT.get(kind), above);
    }

    int common(int a, int b) {
        int lowest = NONE;
        for (int k : KIND) {
            if (isKind(a) && isKind(b) && above(k, a) && above(k, b)
                    && (lowest == NONE || above(lowest, k))) {
                lowest = k;
            }
        }
        return lowest;
    }

    private static TreeSet<Integer> traitsAboveBoth(int a, int b) {
        TreeSet<Integer> both = new TreeSet<>();
        for (int t : EXTENDS.keySet()) {
            if (isKind(a) && isKind(b) && above(t, a) && above(t, b)) {
                both.add(t);
            }
        }
        return both;
    }

    int commonTrait(int a, int b, int k) {
        return pick(withoutOthersBelow(traitsAboveBoth(a, b)), k);
    }

    private static String ruleOf(int code, int field) {
        return code + "/" + field;
    }

    boolean rule(int code, int field, int value) {
        int[] most = {9, 99, 365, 1000, 9};
        if (!isEither(code) || !within(field, 0, 4) || !within(value, 0, most[field])) {
            return false;
        }
        rules.put(ruleOf(code, field), value);
        return true;
    }

    boolean unrule(int code, int field) {
        return rules.remove(ruleOf(code, field)) != null;
    }

    private TreeSet<Integer> nearestRules(int kind, int field) {
        TreeMap<Integer, TreeSet<Integer>> bySteps = new TreeMap<>();
        for (int code = 0; code < 49; code++) {
            if (rules.containsKey(ruleOf(code, field)) && above(code, kind)) {
                bySteps.computeIfAbsent(steps(kind, code), s -> new TreeSet<>()).add(code);
            }
        }
        if (bySteps.isEmpty()) {
            return new TreeSet<>();
        }
        TreeSet<Integer> fewest = bySteps.firstEntry().getValue();
        for (int code : fewest) {
            if (isKind(code)) {
                return new TreeSet<>(List.of(code));
            }
        }
        return withoutOthersBelow(fewest);
    }

    private int answer(int kind, int field) {
        TreeSet<Integer> said = new TreeSet<>();
        for (int code : nearestRules(kind, field)) {
            said.add(rules.get(ruleOf(code, field)));
        }
        if (said.isEmpty()) {
            return NONE;
        }
        return said.size() > 1 ? -2 : said.first();
    }

    int asks(int specimen, int field) {
        Item item = item(specimen);
        return item == null ? NONE : answer(item.kind, field);
    }

    int nearest(int specimen, int field, int k) {
        Item item = item(specimen);
        return item == null ? NONE : pick(nearestRules(item.kind, field), k);
    }

    private boolean lendable(Item item) {
        return item.borrower == NONE && answer(item.kind, 2) > 0 && answer(item.kind, 3) != -2;
    }

    int lend(int thing, int borrower, int day) {
        List<Item> wanted = new ArrayList<>();
        for (Item item : items) {
            if (item.number == thing || item.box != NONE && 1000 + item.box == thing) {
                wanted.add(item);
            }
        }
        long has = items.stream().filter(i -> i.borrower == borrower).count();
        if (wanted.isEmpty() || !within(borrower, 0, 19) || !within(day, 0, 100000)
                || has + wanted.size() > 12 || !wanted.stream().allMatch(this::lendable)) {
            return NONE;
        }
        for (Item item : wanted) {
            item.borrower = borrower;
            item.day = day;
            item.term = answer(item.kind, 2);
            item.fee = Math.max(answer(item.kind, 3), 0);
            ever++;
        }
        return wanted.size();
    }

    int giveBack(int specimen, int day) {
        Item item = item(specimen);
        if (item == null || item.borrower == NONE || !within(day, item.day, 100000)) {
            return NONE;
        }
        int due = item.due(day);
        charged.merge(item.borrower, due, Integer::sum);
        item.borrower = NONE;
        item.day = NONE;
        item.term = NONE;
        item.fee = NONE;
        return due;
    }

    private List<Item> lateItems(int day) {
        List<Item> late = new ArrayList<>();
        for (Item item : items) {
            if (item.borrower != NONE && item.late(day) > 0) {
                late.add(item);
            }
        }
        late.sort(Comparator.comparing((Item i) -> -i.late(day)).thenComparing(i -> i.number));
        return late;
    }

    int overdue(int day) {
        return within(day, 0, 100000) ? lateItems(day).size() : NONE;
    }

    int lateOne(int day, int i) {
        if (!within(day, 0, 100000) || !within(i, 0, lateItems(day).size() - 1)) {
            return NONE;
        }
        return lateItems(day).get(i).number;
    }

    int fees(int borrower, int day) {
        if (!within(borrower, 0, 19) || !within(day, 0, 100000)) {
            return NONE;
        }
        int sum = charged.getOrDefault(borrower, 0);
        for (Item item : items) {
            sum += item.borrower == borrower ? item.due(day) : 0;
        }
        return sum;
    }

    int question(int key, int asked, int number, int yes, int no) {
        boolean measures = asked == 60 || asked == 61;
        int own = keys.getOrDefault(key, List.of()).size();
        if (!within(key, 0, 9) || own == 40 || !measures && !isEither(asked)
                || !within(number, 0, measures ? 100000 : 0)) {
            return NONE;
        }
        for (int told : new int[] {yes, no}) {
            if (told != NONE && !isEither(told) && !within(told - 200, own + 1, 39)) {
                return NONE;
            }
        }
        keys.computeIfAbsent(key, k -> new ArrayList<>()).add(new int[] {asked, number, yes, no});
        return own + 1;
    }

    private int nameFrom(List<int[]> questions, int number, Item item) {
        if (number >= questions.size()) {
            return NONE;
        }
        askedLately++;
        int[] q = questions.get(number);
        boolean holds;
        if (q[0] == 60) {
            holds = item.length >= q[1];
        } else if (q[0] == 61) {
            holds = item.weight >= q[1];
        } else {
            holds = above(q[0], item.kind);
        }
        int told = holds ? q[2] : q[3];
        return told >= 200 ? nameFrom(questions, told - 200, item) : told;
    }

    int name(int key, int specimen) {
        Item item = item(specimen);
        if (item == null || !within(key, 0, 9)) {
            return NONE;
        }
        askedLately = 0;
        return nameFrom(keys.getOrDefault(key, List.of()), 0, item);
    }

    int asked() {
        return askedLately;
    }

    boolean convert(int specimen, int kind) {
        Item item = item(specimen);
        if (item == null || !isKind(kind) || ABSTRACT.contains(kind) || kind == item.kind
                || item.borrower != NONE) {
            return false;
        }
        TreeSet<Integer> both = traitsAboveBoth(item.kind, kind);
        both.remove(40);
        if (both.isEmpty()) {
            return false;
        }
        item.kind = kind;
        if (item.box != NONE && !above(boxes.get(item.box)[0], kind)) {
            item.box = NONE;
            item.place = NONE;
        }
        if (item.shelf != NONE && !above(shelfOf(item.shelf)[0], kind)) {
            item.shelf = NONE;
        }
        return true;
    }

    private List<Item> under(int code) {
        List<Item> found = new ArrayList<>();
        for (Item item : items) {
            if (above(code, item.kind)) {
                found.add(item);
            }
        }
        found.sort(Comparator.comparing((Item i) -> i.length).thenComparing(i -> i.number));
        return found;
    }

    int find(int code, int from, int to) {
        if (!isEither(code)) {
            return NONE;
        }
        return (int) under(code).stream().filter(i -> within(i.length, from, to)).count();
    }

    int nth(int code, int k) {
        List<Item> found = under(code);
        return within(k, 0, found.size() - 1) ? found.get(k).number : NONE;
    }

    private int[] shelfOf(int shelf) {
        return shelves.getOrDefault(shelf, new int[] {0, 0});
    }

    private int filled(int shelf) {
        int sum = 0;
        for (Item item : items) {
            sum += item.shelf == shelf ? item.length : 0;
        }
        return sum;
    }

    boolean shelf(int shelf, int kind, int room) {
        if (!within(shelf, 0, 9) || !isKind(kind) || !within(room, 0, 1000000)
                || items.stream().anyMatch(i -> i.shelf == shelf)) {
            return false;
        }
        shelves.put(shelf, new int[] {kind, room});
        return true;
    }

    boolean move(int specimen, int shelf) {
        Item item = item(specimen);
        if (item == null || !within(shelf, -1, 9) || item.shelf == shelf
                || item.borrower != NONE) {
            return false;
        }
        if (shelf != NONE && (!above(shelfOf(shelf)[0], item.kind)
                || filled(shelf) + item.length > shelfOf(shelf)[1])) {
            return false;
        }
        item.shelf = shelf;
        return true;
    }

    int count(int what) {
        switch (what) {
            case 0: return items.size();
            case 1: return boxes.size();
            case 2: return rules.size();
            case 3: return (int) items.stream().filter(i -> i.borrower != NONE).count();
            case 4: return ever;
            case 5: return (int) items.stream().filter(i -> i.box != NONE).count();
            case 6: return (int) items.stream().filter(i -> i.shelf != NONE).count();
            case 7: return charged.values().stream().mapToInt(i -> i).sum();
            default: return NONE;
        }
    }
}
