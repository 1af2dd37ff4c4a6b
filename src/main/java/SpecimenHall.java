/**
 * A register of a natural history house: specimens of kinds, cases, rules of the nearest
 * kind or trait, loans, naming keys, revisions of kinds and shelves.
 */
public final class SpecimenHall {
    public static final int NONE = -1;

    private static final int NOT_BELOW = -2;
    private static final int MAX_BOXES = 40;
    private static final int MAX_PLACES = 20;
    private static final int MAX_ROOM = 1000000;
    private static final int SHELVES = 10;
    private static final int KEYS = 10;
    private static final int FIRST_BOX_TO_LEND = 1000;

    private final Stock stock;
    private final Box[] boxes;
    private final Shelf[] shelves;
    private final Key[] keys;
    private final Rules rules;
    private final Loans loans;
    private int boxCount;
    private int questionsAsked;

    public SpecimenHall() {
        stock = new Stock();
        boxes = new Box[MAX_BOXES];
        shelves = new Shelf[SHELVES];
        for (int i = 0; i < SHELVES; i++) {
            shelves[i] = new Shelf(i);
        }
        keys = new Key[KEYS];
        for (int i = 0; i < KEYS; i++) {
            keys[i] = new Key();
        }
        rules = new Rules();
        loans = new Loans();
        boxCount = 0;
        questionsAsked = 0;
    }

    public int make(int kind, int length, int weight) {
        if (!Codes.isConcrete(kind) || !Specimen.isMeasure(length)
                || !Specimen.isMeasure(weight)) {
            return NONE;
        }
        return stock.add(kind, length, weight);
    }

    public int caseOf(int kind, int n) {
        if (!Codes.isKind(kind) || n < 1 || n > MAX_PLACES || boxCount >= MAX_BOXES) {
            return NONE;
        }
        boxes[boxCount] = new Box(boxCount, kind, n);
        boxCount++;
        return boxCount - 1;
    }

    public int putIn(int box, int place, int specimen) {
        Box to = boxAt(box);
        Specimen s = stock.at(specimen);
        if (to == null || s == null || !to.isFree(place) || s.isLent()) {
            return NONE;
        }
        if (!Codes.standsUnder(s.kind, to.kind)) {
            return NOT_BELOW;
        }
        leavePlace(s);
        to.set(place, s);
        s.box = to;
        s.place = place;
        return 1;
    }

    public int takeOut(int box, int place) {
        Specimen s = specimenIn(box, place);
        if (s == null || s.isLent()) {
            return NONE;
        }
        leavePlace(s);
        return s.number;
    }

    public int placed(int box, int place) {
        Specimen s = specimenIn(box, place);
        return s == null ? NONE : s.number;
    }

    public int told(int specimen, int what) {
        Specimen s = stock.at(specimen);
        if (s == null) {
            return NONE;
        }
        switch (what) {
            case 0: return s.kind;
            case 1: return s.length;
            case 2: return s.weight;
            case 3: return s.box == null ? NONE : s.box.number;
            case 4: return s.place;
            case 5: return s.shelf == null ? NONE : s.shelf.number;
            case 6: return s.borrower;
            case 7: return s.lentOn;
            case 8: return s.term;
            case 9: return s.fee;
            default: return NONE;
        }
    }

    public boolean below(int a, int b) {
        if (Codes.isCase(a) && Codes.isCase(b)) {
            return Codes.standsUnder(a - Codes.CASE, b - Codes.CASE);
        }
        return Codes.standsUnder(a, b);
    }

    public int steps(int kind, int above) {
        return Codes.stepsUp(kind, above);
    }

    public int common(int a, int b) {
        return Codes.lowestShared(a, b);
    }

    public int commonTrait(int a, int b, int k) {
        return Codes.pick(Codes.lowest(Codes.sharedTraits(a, b)), k);
    }

    public boolean rule(int code, int field, int value) {
        return rules.lay(code, field, value);
    }

    public boolean unrule(int code, int field) {
        return rules.drop(code, field);
    }

    public int asks(int specimen, int field) {
        Specimen s = stock.at(specimen);
        return s == null ? NONE : rules.answer(s.kind, field);
    }

    public int nearest(int specimen, int field, int k) {
        Specimen s = stock.at(specimen);
        return s == null ? NONE : Codes.pick(rules.nearestOf(s.kind, field), k);
    }

    public int lend(int thing, int borrower, int day) {
        if (!Loans.isBorrower(borrower) || !Loans.isDay(day)) {
            return NONE;
        }
        if (thing >= FIRST_BOX_TO_LEND) {
            return lendBox(boxAt(thing - FIRST_BOX_TO_LEND), borrower, day);
        }
        Specimen s = stock.at(thing);
        if (!mayBeLent(s) || !loans.hasLeaveFor(borrower, 1)) {
            return NONE;
        }
        openLoan(s, borrower, day);
        return 1;
    }

    public int giveBack(int specimen, int day) {
        Specimen s = stock.at(specimen);
        if (s == null || !s.isLent() || !Loans.isDay(day) || day < s.lentOn) {
            return NONE;
        }
        return loans.close(s, day);
    }

    public int overdue(int day) {
        return Loans.isDay(day) ? loans.lateCount(day) : NONE;
    }

    public int lateOne(int day, int i) {
        return Loans.isDay(day) ? loans.lateAt(day, i) : NONE;
    }

    public int fees(int borrower, int day) {
        if (!Loans.isBorrower(borrower) || !Loans.isDay(day)) {
            return NONE;
        }
        return loans.owed(borrower, day);
    }

    public int question(int key, int asked, int number, int yes, int no) {
        Key k = keyAt(key);
        if (k == null || k.isFull() || !Question.mayAsk(asked, number)
                || !k.mayTell(yes) || !k.mayTell(no)) {
            return NONE;
        }
        return k.add(new Question(asked, number, yes, no));
    }

    public int name(int key, int specimen) {
        Key k = keyAt(key);
        Specimen s = stock.at(specimen);
        if (k == null || s == null) {
            return NONE;
        }
        int answer = k.nameOf(s);
        questionsAsked = k.askedLately;
        return answer;
    }

    public int asked() {
        return questionsAsked;
    }

    public boolean convert(int specimen, int kind) {
        Specimen s = stock.at(specimen);
        if (s == null || s.isLent() || !Codes.isConcrete(kind) || kind == s.kind
                || !Codes.mayTurnInto(s.kind, kind)) {
            return false;
        }
        s.kind = kind;
        if (s.box != null && !Codes.standsUnder(kind, s.box.kind)) {
            leavePlace(s);
        }
        if (s.shelf != null && !Codes.standsUnder(kind, s.shelf.kind)) {
            leaveShelf(s);
        }
        return true;
    }

    public int find(int code, int from, int to) {
        return Codes.isKindOrTrait(code) ? stock.countOf(code, from, to) : NONE;
    }

    public int nth(int code, int k) {
        return Codes.isKindOrTrait(code) ? stock.numberOf(code, k) : NONE;
    }

    public boolean shelf(int shelf, int kind, int room) {
        Shelf changed = shelfAt(shelf);
        if (changed == null || changed.standing > 0 || !Codes.isKind(kind)
                || room < 0 || room > MAX_ROOM) {
            return false;
        }
        changed.kind = kind;
        changed.room = room;
        return true;
    }

    public boolean move(int specimen, int shelf) {
        Specimen s = stock.at(specimen);
        if (s == null || s.isLent()) {
            return false;
        }
        if (shelf == NONE) {
            return leaveShelf(s);
        }
        Shelf to = shelfAt(shelf);
        if (to == null || to == s.shelf || !to.hasRoomFor(s)
                || !Codes.standsUnder(s.kind, to.kind)) {
            return false;
        }
        leaveShelf(s);
        to.add(s);
        s.shelf = to;
        return true;
    }

    public int count(int what) {
        switch (what) {
            case 0: return stock.size;
            case 1: return boxCount;
            case 2: return rules.size();
            case 3: return loans.openCount;
            case 4: return loans.everCount;
            case 5: return stock.countInBoxes();
            case 6: return onShelves();
            case 7: return loans.chargedToAll();
            default: return NONE;
        }
    }

    private Box boxAt(int box) {
        return box >= 0 && box < boxCount && box < boxes.length ? boxes[box] : null;
    }

    private Shelf shelfAt(int shelf) {
        return shelf >= 0 && shelf < shelves.length ? shelves[shelf] : null;
    }

    private Key keyAt(int key) {
        return key >= 0 && key < keys.length ? keys[key] : null;
    }

    private Specimen specimenIn(int box, int place) {
        Box from = boxAt(box);
        return from == null ? null : from.at(place);
    }

    private int onShelves() {
        int sum = 0;
        for (int i = 0; i < SHELVES; i++) {
            Shelf each = shelfAt(i);
            sum += each == null ? 0 : each.standing;
        }
        return sum;
    }

    private static void leavePlace(Specimen s) {
        if (s.box != null) {
            s.box.set(s.place, null);
            s.box = null;
            s.place = NONE;
        }
    }

    /** Whether it stood on a shelf at all. */
    private static boolean leaveShelf(Specimen s) {
        if (s.shelf == null) {
            return false;
        }
        s.shelf.remove(s);
        s.shelf = null;
        return true;
    }

    private boolean mayBeLent(Specimen s) {
        return s != null && !s.isLent()
                && rules.answer(s.kind, Rules.DAYS) > 0
                && rules.answer(s.kind, Rules.FEE) != Rules.TIE;
    }

    private void openLoan(Specimen s, int borrower, int day) {
        int term = rules.answer(s.kind, Rules.DAYS);
        int fee = Math.max(0, rules.answer(s.kind, Rules.FEE));
        s.lendTo(borrower, day, term, fee);
        loans.open(s);
    }

    /** All are looked at before the first is lent: a case goes whole or not at all. */
    private int lendBox(Box box, int borrower, int day) {
        if (box == null) {
            return NONE;
        }
        int inside = 0;
        for (int place = 0; place < box.places.length; place++) {
            Specimen s = box.places[place];
            if (s != null) {
                if (!mayBeLent(s)) {
                    return NONE;
                }
                inside++;
            }
        }
        if (inside == 0 || !loans.hasLeaveFor(borrower, inside)) {
            return NONE;
        }
        for (int place = 0; place < box.places.length; place++) {
            Specimen s = box.places[place];
            if (s != null) {
                openLoan(s, borrower, day);
            }
        }
        return inside;
    }

    /**
     * The kinds and traits and how they stand under one another. A set of them is a long:
     * the bit of a code's number is set, if the code is in the set.
     */
    private static final class Codes {
        static final int KINDS = 24;
        static final int FIRST_TRAIT = 40;
        static final int END = 49;
        static final int CASE = 100;

        private static final int[] PARENT = {
            NONE, 0, 1, 1, 3, 3, 1, 6, 6,
            0, 9, 10, 10, 12, 9, 14, 14, 9, 17, 17,
            0, 20, 20, 21
        };

        private static final long ABSTRACT =
                1L << 0 | 1L << 1 | 1L << 3 | 1L << 9 | 1L << 10 | 1L << 17 | 1L << 20;

        // Each trait together with all that it extends.
        private static final long KEPT = 1L << 40;
        private static final long DRY = 1L << 41 | KEPT;
        private static final long WET = 1L << 42 | KEPT;
        private static final long FRAIL = 1L << 43;
        private static final long LARGE = 1L << 44;
        private static final long WATCHED = 1L << 45;
        private static final long POISON = 1L << 46 | WATCHED;
        private static final long RARE = 1L << 47 | WATCHED;
        private static final long EXTINCT = 1L << 48 | RARE | FRAIL;
        private static final long TRAITS =
                DRY | WET | LARGE | POISON | EXTINCT;

        private static final long[] EXTENDED = {
            KEPT, DRY, WET, FRAIL, LARGE, WATCHED, POISON, RARE, EXTINCT
        };

        // What each kind names, not what it has from the kinds above it.
        private static final long[] NAMED = {
            0L, DRY, 0L, FRAIL, 0L, POISON, LARGE, 0L, RARE,
            0L, DRY | FRAIL, 0L, 0L, LARGE, WET, LARGE, RARE, DRY, LARGE, EXTINCT,
            DRY, FRAIL, RARE, POISON
        };

        private Codes() {
        }

        static boolean isKind(int code) {
            return code >= 0 && code < KINDS;
        }

        static boolean isTrait(int code) {
            return code >= FIRST_TRAIT && code < END;
        }

        static boolean isKindOrTrait(int code) {
            return isKind(code) || isTrait(code);
        }

        static boolean isConcrete(int code) {
            return isKind(code) && !has(ABSTRACT, code);
        }

        static boolean isCase(int code) {
            return code >= CASE && isKindOrTrait(code - CASE);
        }

        static boolean has(long set, int code) {
            return (set >> code & 1L) != 0L;
        }

        static int parentOf(int kind) {
            return isKind(kind) ? PARENT[kind] : NONE;
        }

        static long namedBy(int kind) {
            return isKind(kind) ? NAMED[kind] : 0L;
        }

        /** All that is above a kind or trait, itself too; empty for what is neither. */
        static long allAbove(int code) {
            if (isTrait(code)) {
                return EXTENDED[code - FIRST_TRAIT];
            }
            long set = 0L;
            int kind = code;
            for (int step = 0; step < KINDS && isKind(kind); step++) {
                set |= 1L << kind | NAMED[kind];
                kind = PARENT[kind];
            }
            return set;
        }

        static boolean standsUnder(int a, int b) {
            return isKindOrTrait(a) && isKindOrTrait(b) && has(allAbove(a), b);
        }

        static int stepsUp(int from, int above) {
            if (!isKindOrTrait(above)) {
                return NONE;
            }
            int kind = from;
            for (int step = 0; step < KINDS && isKind(kind); step++) {
                if (kind == above || has(NAMED[kind], above)) {
                    return step;
                }
                kind = PARENT[kind];
            }
            return NONE;
        }

        static int lowestShared(int a, int b) {
            if (!isKind(a) || !isKind(b)) {
                return NONE;
            }
            long aboveOther = allAbove(b);
            int kind = a;
            for (int step = 0; step < KINDS && isKind(kind); step++) {
                if (has(aboveOther, kind)) {
                    return kind;
                }
                kind = PARENT[kind];
            }
            return NONE;
        }

        static long sharedTraits(int a, int b) {
            if (!isKind(a) || !isKind(b)) {
                return 0L;
            }
            return allAbove(a) & allAbove(b) & TRAITS;
        }

        static boolean mayTurnInto(int from, int to) {
            return (sharedTraits(from, to) & ~KEPT) != 0L;
        }

        /** Those of a set of traits that have no other one of the set below them. */
        static long lowest(long traits) {
            long left = traits;
            for (int code = FIRST_TRAIT; code < END; code++) {
                if (has(traits, code)) {
                    left &= ~EXTENDED[code - FIRST_TRAIT] | 1L << code;
                }
            }
            return left;
        }

        /** The k-th code of a set, from 0 on. */
        static int pick(long set, int k) {
            int before = 0;
            for (int code = 0; code < END; code++) {
                if (has(set, code)) {
                    if (before == k) {
                        return code;
                    }
                    before++;
                }
            }
            return NONE;
        }
    }

    private static final class Specimen {
        private static final int MAX_MEASURE = 100000;

        final int number;
        final int length;
        final int weight;
        int kind;
        Box box;
        int place;
        Shelf shelf;
        int borrower;
        int lentOn;
        int term;
        int fee;

        Specimen(int number, int kind, int length, int weight) {
            this.number = number;
            this.kind = kind;
            this.length = length;
            this.weight = weight;
            box = null;
            place = NONE;
            shelf = null;
            borrower = NONE;
            lentOn = NONE;
            term = NONE;
            fee = NONE;
        }

        static boolean isMeasure(int number) {
            return number >= 0 && number <= MAX_MEASURE;
        }

        boolean isLent() {
            return borrower != NONE;
        }

        void lendTo(int to, int day, int days, int dayFee) {
            borrower = to;
            lentOn = day;
            term = days;
            fee = dayFee;
        }

        void endLoan() {
            lendTo(NONE, NONE, NONE, NONE);
        }

        int lastDay() {
            return lentOn + term;
        }

        int dueOn(int day) {
            int late = Math.max(0, day - lastDay());
            int feesToPay = late + Math.max(0, late - Loans.PLAIN_DAYS);
            return fee * Math.min(feesToPay, Loans.MOST_FEES);
        }
    }

    /** The specimens by number, and by length, which never changes. */
    private static final class Stock {
        static final int MAX = 300;

        private final Specimen[] byNumber;
        private final Specimen[] byLength;
        int size;

        Stock() {
            byNumber = new Specimen[MAX];
            byLength = new Specimen[MAX];
            size = 0;
        }

        Specimen at(int number) {
            return number >= 0 && number < size && number < MAX ? byNumber[number] : null;
        }

        int add(int kind, int length, int weight) {
            if (size >= MAX) {
                return NONE;
            }
            Specimen fresh = new Specimen(size, kind, length, weight);
            byNumber[size] = fresh;
            int index = size;
            while (index > 0 && isLonger(byLength[index - 1], length)) {
                byLength[index] = byLength[index - 1];
                index--;
            }
            byLength[index] = fresh;
            size++;
            return fresh.number;
        }

        private static boolean isLonger(Specimen s, int length) {
            return s != null && s.length > length;
        }

        int countOf(int code, int from, int to) {
            int found = 0;
            for (int i = 0; i < size && i < MAX; i++) {
                Specimen s = byNumber[i];
                if (s != null && s.length >= from && s.length <= to
                        && Codes.standsUnder(s.kind, code)) {
                    found++;
                }
            }
            return found;
        }

        int numberOf(int code, int k) {
            int before = 0;
            for (int i = 0; i < size && i < MAX; i++) {
                Specimen s = byLength[i];
                if (s != null && Codes.standsUnder(s.kind, code)) {
                    if (before == k) {
                        return s.number;
                    }
                    before++;
                }
            }
            return NONE;
        }

        int countInBoxes() {
            int found = 0;
            for (int i = 0; i < size && i < MAX; i++) {
                Specimen s = byNumber[i];
                if (s != null && s.box != null) {
                    found++;
                }
            }
            return found;
        }
    }

    /** A case; the word itself is one of Java's own. */
    private static final class Box {
        final int number;
        final int kind;
        final Specimen[] places;

        Box(int number, int kind, int n) {
            this.number = number;
            this.kind = kind;
            places = new Specimen[Math.max(0, n)];
        }

        private boolean hasPlace(int place) {
            return place >= 0 && place < places.length;
        }

        boolean isFree(int place) {
            return hasPlace(place) && places[place] == null;
        }

        Specimen at(int place) {
            return hasPlace(place) ? places[place] : null;
        }

        void set(int place, Specimen s) {
            if (hasPlace(place)) {
                places[place] = s;
            }
        }
    }

    private static final class Shelf {
        final int number;
        int kind;
        int room;
        int standing;
        private int filled;

        Shelf(int number) {
            this.number = number;
            kind = 0;
            room = 0;
            standing = 0;
            filled = 0;
        }

        boolean hasRoomFor(Specimen s) {
            return filled + s.length <= room;
        }

        void add(Specimen s) {
            standing++;
            filled += s.length;
        }

        void remove(Specimen s) {
            standing--;
            filled -= s.length;
        }
    }

    private static final class Rules {
        static final int TIE = -2;
        static final int DAYS = 2;
        static final int FEE = 3;

        private static final int FIELDS = 5;
        private static final int[] MOST = {9, 99, 365, 1000, 9};

        private final long[] laid;
        private final int[] values;

        Rules() {
            laid = new long[FIELDS];
            values = new int[FIELDS * Codes.END];
        }

        private static boolean isField(int field) {
            return field >= 0 && field < FIELDS;
        }

        boolean lay(int code, int field, int value) {
            if (!Codes.isKindOrTrait(code) || !isField(field)
                    || value < 0 || value > MOST[field]) {
                return false;
            }
            laid[field] |= 1L << code;
            values[field * Codes.END + code] = value;
            return true;
        }

        boolean drop(int code, int field) {
            if (!Codes.isKindOrTrait(code) || !isField(field) || !Codes.has(laid[field], code)) {
                return false;
            }
            laid[field] &= ~(1L << code);
            return true;
        }

        int size() {
            int sum = 0;
            for (int field = 0; field < FIELDS; field++) {
                sum += Long.bitCount(laid[field]);
            }
            return sum;
        }

        /** The first step up that has a rule ends the way: no rule further up is nearer. */
        long nearestOf(int from, int field) {
            if (!isField(field)) {
                return 0L;
            }
            int kind = from;
            for (int step = 0; step < Codes.KINDS && Codes.isKind(kind); step++) {
                if (Codes.has(laid[field], kind)) {
                    return 1L << kind;
                }
                long traits = Codes.namedBy(kind) & laid[field];
                if (traits != 0L) {
                    return Codes.lowest(traits);
                }
                kind = Codes.parentOf(kind);
            }
            return 0L;
        }

        int answer(int kind, int field) {
            if (!isField(field)) {
                return NONE;
            }
            long asking = nearestOf(kind, field);
            int said = NONE;
            for (int code = 0; code < Codes.END; code++) {
                if (Codes.has(asking, code)) {
                    int value = values[field * Codes.END + code];
                    if (said != NONE && said != value) {
                        return TIE;
                    }
                    said = value;
                }
            }
            return said;
        }
    }

    /**
     * The loans that are not given back, by their last day and then by number: on any day
     * those that are late then stand in front, the one that is most late first.
     */
    private static final class Loans {
        static final int PLAIN_DAYS = 30;
        static final int MOST_FEES = 100;

        private static final int MAX_DAY = 100000;
        private static final int BORROWERS = 20;
        private static final int MOST_HELD = 12;
        private static final int MAX_OPEN = BORROWERS * MOST_HELD;

        private final Specimen[] lent;
        private final int[] held;
        private final int[] charged;
        int openCount;
        int everCount;

        Loans() {
            lent = new Specimen[MAX_OPEN];
            held = new int[BORROWERS];
            charged = new int[BORROWERS];
            openCount = 0;
            everCount = 0;
        }

        static boolean isDay(int day) {
            return day >= 0 && day <= MAX_DAY;
        }

        static boolean isBorrower(int borrower) {
            return borrower >= 0 && borrower < BORROWERS;
        }

        boolean hasLeaveFor(int borrower, int more) {
            return isBorrower(borrower) && held[borrower] + more <= MOST_HELD;
        }

        void open(Specimen s) {
            if (!isBorrower(s.borrower) || openCount >= MAX_OPEN) {
                return;
            }
            int index = openCount;
            while (index > 0 && comesBehind(lent[index - 1], s)) {
                lent[index] = lent[index - 1];
                index--;
            }
            lent[index] = s;
            held[s.borrower]++;
            openCount++;
            everCount++;
        }

        private static boolean comesBehind(Specimen s, Specimen other) {
            if (s == null) {
                return false;
            }
            if (s.lastDay() != other.lastDay()) {
                return s.lastDay() > other.lastDay();
            }
            return s.number > other.number;
        }

        int close(Specimen s, int day) {
            if (!isBorrower(s.borrower)) {
                return NONE;
            }
            int due = s.dueOn(day);
            charged[s.borrower] += due;
            held[s.borrower]--;
            remove(s);
            s.endLoan();
            return due;
        }

        private void remove(Specimen s) {
            int kept = 0;
            for (int i = 0; i < openCount && i < MAX_OPEN; i++) {
                if (lent[i] != s) {
                    lent[kept] = lent[i];
                    kept++;
                }
            }
            openCount = kept;
        }

        int lateCount(int day) {
            int late = 0;
            for (int i = 0; i < openCount && i < MAX_OPEN; i++) {
                Specimen s = lent[i];
                if (s != null && s.lastDay() < day) {
                    late++;
                }
            }
            return late;
        }

        int lateAt(int day, int i) {
            if (i < 0 || i >= openCount || i >= MAX_OPEN) {
                return NONE;
            }
            Specimen s = lent[i];
            return s != null && s.lastDay() < day ? s.number : NONE;
        }

        int owed(int borrower, int day) {
            if (!isBorrower(borrower)) {
                return NONE;
            }
            int sum = charged[borrower];
            for (int i = 0; i < openCount && i < MAX_OPEN; i++) {
                Specimen s = lent[i];
                if (s != null && s.borrower == borrower) {
                    sum += s.dueOn(day);
                }
            }
            return sum;
        }

        int chargedToAll() {
            int sum = 0;
            for (int borrower = 0; borrower < BORROWERS; borrower++) {
                sum += charged[borrower];
            }
            return sum;
        }
    }

    private static final class Question {
        private static final int LENGTH = 60;
        private static final int WEIGHT = 61;

        private final int about;
        private final int number;
        private final int yes;
        private final int no;

        Question(int about, int number, int yes, int no) {
            this.about = about;
            this.number = number;
            this.yes = yes;
            this.no = no;
        }

        static boolean mayAsk(int about, int number) {
            if (about == LENGTH || about == WEIGHT) {
                return Specimen.isMeasure(number);
            }
            return Codes.isKindOrTrait(about) && number == 0;
        }

        int tell(Specimen s) {
            return holdsFor(s) ? yes : no;
        }

        private boolean holdsFor(Specimen s) {
            if (about == LENGTH) {
                return s.length >= number;
            }
            if (about == WEIGHT) {
                return s.weight >= number;
            }
            return Codes.standsUnder(s.kind, about);
        }
    }

    private static final class Key {
        private static final int MAX = 40;
        private static final int FIRST = 200;

        private final Question[] questions;
        private int size;
        int askedLately;

        Key() {
            questions = new Question[MAX];
            size = 0;
            askedLately = 0;
        }

        boolean isFull() {
            return size >= MAX;
        }

        /** Whether the question that comes next may tell this. */
        boolean mayTell(int code) {
            return code == NONE || Codes.isKindOrTrait(code)
                    || code > FIRST + size && code < FIRST + MAX;
        }

        int add(Question question) {
            if (isFull()) {
                return NONE;
            }
            questions[size] = question;
            size++;
            return size;
        }

        int nameOf(Specimen s) {
            askedLately = 0;
            int next = FIRST;
            for (int step = 0; step < MAX && next >= FIRST; step++) {
                Question question = questionAt(next - FIRST);
                if (question == null) {
                    return NONE;
                }
                askedLately++;
                next = question.tell(s);
            }
            return next;
        }

        private Question questionAt(int number) {
            return number >= 0 && number < size && number < MAX ? questions[number] : null;
        }
    }
}
