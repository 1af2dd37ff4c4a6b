import java.util.Set;
import java.util.function.IntPredicate;

/**
 * Each sentence of the promises that names an edge, with a test of its own: the least and the
 * greatest that is taken, what is next to them outside, the empty and the full, and each
 * refusal with what it leaves as it was.
 */
public final class BoundaryTest {
    private static final int NONE = SpecimenHall.NONE;
    private static final int NOT_BELOW = -2;
    private static final int LOW = Integer.MIN_VALUE;
    private static final int HIGH = Integer.MAX_VALUE;
    private static final int MOST_MEASURE = 100000;
    private static final int LAST_DAY = 100000;

    private static final Check check = new Check("BoundaryTest");
    private static final Refusals FURNISHED = new Refusals(check, Halls::furnish);
    private static final Refusals FILLED = new Refusals(check, Halls::fill);

    private static final Set<Integer> ABSTRACT = Set.of(0, 1, 3, 9, 10, 17, 20);
    private static final IntPredicate KIND = from(0, 23);
    private static final IntPredicate TRAIT = from(40, 48);
    private static final IntPredicate CODE = KIND.or(TRAIT);
    private static final IntPredicate CONCRETE = KIND.and(code -> !ABSTRACT.contains(code));
    private static final IntPredicate SPECIMEN = from(0, Halls.SPECIMENS - 1);
    private static final IntPredicate LENT = number -> number == 1 || number >= 7 && number <= 17;
    private static final IntPredicate FREE = SPECIMEN.and(LENT.negate());
    private static final IntPredicate DAY = from(0, LAST_DAY);
    private static final IntPredicate BORROWER = from(0, 19);
    private static final IntPredicate MEASURE = from(0, MOST_MEASURE);

    private static final int[] KIND_EDGES = {0, 23, 40, 48, 100, 123};
    private static final int[] CODE_EDGES = {0, 23, 40, 48, 60, 61, 100, 123, 140, 148};
    private static final int[] SPECIMEN_EDGES = {0, 18, 299, 1000};

    public static void main(String[] args) {
        newObject();
        makeTakesKinds();
        makeTakesMeasures();
        makeUpTo300();
        caseTakesKinds();
        caseTakesPlaces();
        caseUpTo40();
        putInCasePlaceSpecimen();
        putInTakenPlace();
        putInLent();
        putInNotBelow();
        putInAskedBehindThese();
        putInOutOfWhereItWas();
        takeOutNoneSuch();
        takeOutLent();
        placedNoneSuch();
        toldOthers();
        toldWithout();
        belowOfNone();
        stepsOfNone();
        commonOfNone();
        commonTraitOfNone();
        commonTraitByNumbers();
        ruleTakesCodesAndFields();
        ruleTakesValues();
        ruleInPlaceOfWhatItSaid();
        unruleNoneSuch();
        asksOfNone();
        asksTie();
        nearestOfNone();
        nearestByNumbers();
        lendThings();
        lendBorrowersAndDays();
        lendHowMany();
        lendRefused();
        lendCaseRefused();
        lendAtMostTwelve();
        giveBackWhatIsLent();
        giveBackDays();
        giveBackDue();
        overdueDays();
        overdueEdge();
        lateOneNoneSuch();
        lateOneOrder();
        feesOfNone();
        feesOfBoth();
        questionKeys();
        questionUpTo40();
        questionAsks();
        questionNumbers();
        questionTells();
        questionTellsAtTheEnd();
        nameOfNone();
        nameEnds();
        askedOfNone();
        askedOfAll();
        convertTakes();
        convertKinds();
        convertLent();
        convertLeaves();
        findCodes();
        findFromTo();
        nthNoneSuch();
        nthOrder();
        shelfTakes();
        shelfOnWhichOneStands();
        moveTakes();
        moveToNone();
        moveStandsThere();
        moveLent();
        moveKind();
        moveRoom();
        countOthers();
        countEach();
        all512Calls();
        check.end();
    }

    private static IntPredicate from(int least, int most) {
        return value -> value >= least && value <= most;
    }

    private static IntPredicate of(Integer... values) {
        return Set.of(values)::contains;
    }

    private static int bit(boolean answer) {
        return answer ? 1 : 0;
    }

    // Promise 1

    private static void newObject() {
        check.part("1: nothing has come; no rules");
        SpecimenHall x = new SpecimenHall();
        for (int what = 0; what <= 7; what++) {
            check.is("count " + what, x.count(what), 0);
        }
        check.is("asked", x.asked(), 0);
        for (int what = 0; what <= 9; what++) {
            check.is("told " + what, x.told(0, what), NONE);
        }
        for (int field = 0; field < 5; field++) {
            for (int code = 0; code <= 48; code++) {
                check.no("rule", x.unrule(code, field));
            }
        }
        x = new SpecimenHall();
        for (int borrower = 0; borrower < 20; borrower++) {
            check.is("fees", x.fees(borrower, LAST_DAY), 0);
        }
        check.is("overdue", x.overdue(LAST_DAY), 0);
        check.is("lateOne", x.lateOne(LAST_DAY, 0), NONE);
        check.is("find", x.find(0, LOW, HIGH), 0);
        check.is("nth", x.nth(0, 0), NONE);
        check.is("placed", x.placed(0, 0), NONE);
        check.is("takeOut", x.takeOut(0, 0), NONE);
        check.is("giveBack", x.giveBack(0, 0), NONE);
        check.is("lend", x.lend(0, 0, 0), NONE);
        check.is("lend a case", x.lend(1000, 0, 0), NONE);
        check.no("convert", x.convert(0, 2));
        check.no("move", x.move(0, 0));
        check.no("move to none", x.move(0, NONE));
        check.is("the first case", x.caseOf(0, 1), 0);
        check.is("the first specimen", x.make(2, 0, 0), 0);
        for (int key = 0; key < 10; key++) {
            check.is("name", x.name(key, 0), NONE);
            check.is("the first question", x.question(key, 0, 0, 0, 0), 1);
        }
    }

    // Promise 2

    private static void makeTakesKinds() {
        check.part("2: NONE if there is no such KIND, it is ABSTRACT");
        FURNISHED.takesJust("kind", NONE, CONCRETE, (x, kind) -> x.make(kind, 1, 1), KIND_EDGES);
        for (int kind : ABSTRACT) {
            FURNISHED.refuses("abstract " + kind, NONE, x -> x.make(kind, 1, 1));
        }
    }

    private static void makeTakesMeasures() {
        check.part("2: NONE if LENGTH or WEIGHT are not 0 .. 100000");
        FURNISHED.takesJust("length", NONE, MEASURE, (x, n) -> x.make(2, n, 1), 0, MOST_MEASURE);
        FURNISHED.takesJust("weight", NONE, MEASURE, (x, n) -> x.make(2, 1, n), 0, MOST_MEASURE);
        SpecimenHall x = new SpecimenHall();
        x.make(2, 0, MOST_MEASURE);
        x.make(2, MOST_MEASURE, 0);
        check.is("least length", x.told(0, 1), 0);
        check.is("greatest weight", x.told(0, 2), MOST_MEASURE);
        check.is("greatest length", x.told(1, 1), MOST_MEASURE);
        check.is("least weight", x.told(1, 2), 0);
    }

    private static void makeUpTo300() {
        check.part("2: NONE if 300 came");
        Refusals almost = new Refusals(check, x -> Halls.makeMany(x, 2, 299));
        check.is("the 300th", almost.fresh().make(2, 1, 1), 299);
        almost.refuses("a refused one isn't the 300th", NONE, x -> x.make(3, 1, 1));
        Refusals full = new Refusals(check, x -> Halls.makeMany(x, 2, 300));
        full.refuses("the 301st", NONE, x -> x.make(2, 1, 1));
        full.refuses("the 301st of another kind", NONE, x -> x.make(11, 0, 0));
        SpecimenHall x = full.fresh();
        check.is("the last is there", x.told(299, 0), 2);
        check.is("no 301st", x.told(300, 0), NONE);
        check.is("all are found", x.find(2, 1, 1), 300);
        check.is("the last by length", x.nth(2, 299), 299);
        check.is("none behind it", x.nth(2, 300), NONE);
        check.yes("the last may change", x.convert(299, 4));
        x.rule(4, 2, 1);
        check.is("and be lent", x.lend(299, 0, 0), 1);
        check.is("none of 300", x.lend(300, 0, 0), NONE);
    }

    // Promise 3

    private static void caseTakesKinds() {
        check.part("3: NONE if there is no such KIND");
        FURNISHED.takesJust("kind", NONE, KIND, (x, kind) -> x.caseOf(kind, 1), KIND_EDGES);
    }

    private static void caseTakesPlaces() {
        check.part("3: n places (1 .. 20)");
        FURNISHED.takesJust("n", NONE, from(1, 20), (x, n) -> x.caseOf(0, n), 1, 20);
        for (int n = 1; n <= 20; n++) {
            SpecimenHall x = new SpecimenHall();
            x.make(2, 1, 1);
            x.caseOf(0, n);
            check.is("the first of " + n, x.putIn(0, 0, 0), 1);
            check.is("behind the last of " + n, x.putIn(0, n, 0), NONE);
            check.is("the last of " + n, x.putIn(0, n - 1, 0), n == 1 ? NONE : 1);
            check.is("it is there", x.placed(0, n - 1), 0);
        }
    }

    private static void caseUpTo40() {
        check.part("3: NONE if 40 came");
        Refusals almost = new Refusals(check, x -> Halls.caseMany(x, 39));
        check.is("the 40th", almost.fresh().caseOf(23, 20), 39);
        almost.refuses("a refused one isn't the 40th", NONE, x -> x.caseOf(0, 21));
        Refusals full = new Refusals(check, x -> Halls.caseMany(x, 40));
        full.refuses("the 41st", NONE, x -> x.caseOf(0, 1));
        SpecimenHall x = full.fresh();
        x.make(2, 1, 1);
        check.is("40 are there", x.count(1), 40);
        check.is("no 41st", x.putIn(40, 0, 0), NONE);
        check.is("the 40th takes", x.putIn(39, 0, 0), 1);
        x.rule(0, 2, 1);
        check.is("no 41st is lent", x.lend(1040, 0, 0), NONE);
        check.is("the 40th is lent", x.lend(1039, 0, 0), 1);
    }

    // Promise 4

    private static void putInCasePlaceSpecimen() {
        check.part("4: NONE if there is no such CASE, place or SPECIMEN");
        FURNISHED.takesJust("case", NONE, of(0, 3), (x, box) -> x.putIn(box, 0, 18), 0, 3, 100, 1000);
        FURNISHED.takesJust("case, second place", NONE, of(1), (x, box) -> x.putIn(box, 1, 18), 0, 3);
        IntPredicate open = from(0, 19).and(place -> place != 1 && place != 7);
        FURNISHED.takesJust("place", NONE, open, (x, place) -> x.putIn(0, place, 18), 0, 19);
        FURNISHED.takesJust("the one place", NONE, of(0), (x, place) -> x.putIn(3, place, 18), 0);
        FURNISHED.takesJust("specimen", NONE, FREE, (x, s) -> x.putIn(0, 0, s), SPECIMEN_EDGES);
        new Refusals(check, x -> Halls.makeMany(x, 2, 1))
                .refuses("no case has come", NONE, x -> x.putIn(0, 0, 0));
        new Refusals(check, x -> x.caseOf(0, 1))
                .refuses("no specimen has come", NONE, x -> x.putIn(0, 0, 0));
    }

    private static void putInTakenPlace() {
        check.part("4: NONE if the place is taken");
        FURNISHED.refuses("by another", NONE, x -> x.putIn(0, 1, 18));
        FURNISHED.refuses("by one that is lent", NONE, x -> x.putIn(0, 7, 18));
        FURNISHED.refuses("by itself", NONE, x -> x.putIn(0, 1, 6));
        FURNISHED.refuses("for one that is in a place", NONE, x -> x.putIn(1, 0, 6));
        FURNISHED.refuses("the one place of a full case", NONE, x -> x.putIn(2, 0, 18));
        SpecimenHall x = FURNISHED.fresh();
        x.takeOut(0, 1);
        check.is("free again", x.putIn(0, 1, 18), 1);
    }

    private static void putInLent() {
        check.part("4: NONE if it is lent");
        FURNISHED.refuses("out of its place", NONE, x -> x.putIn(0, 0, 1));
        FURNISHED.refuses("to its own place", NONE, x -> x.putIn(0, 7, 1));
        FURNISHED.refuses("one in no place", NONE, x -> x.putIn(0, 0, 17));
        SpecimenHall x = FURNISHED.fresh();
        x.giveBack(17, 6);
        check.is("given back", x.putIn(0, 0, 17), 1);
    }

    private static void putInNotBelow() {
        check.part("4: -2, if it isn't BELOW the CASE's KIND");
        FURNISHED.refuses("one in no place", NOT_BELOW, x -> x.putIn(1, 1, 18));
        FURNISHED.refuses("one that stays in its place", NOT_BELOW, x -> x.putIn(1, 1, 6));
        FURNISHED.refuses("one on a shelf", NOT_BELOW, x -> x.putIn(3, 0, 3));
        SpecimenHall x = new SpecimenHall();
        for (int kind = 0; kind < 24; kind++) {
            x.caseOf(kind, 20);
        }
        int number = 0;
        for (int kind = 0; kind < 24; kind++) {
            if (!ABSTRACT.contains(kind)) {
                x.make(kind, 1, 1);
                for (int box = 0; box < 24; box++) {
                    boolean below = new SpecimenHall().below(kind, box);
                    check.is(kind + " in a case of " + box, x.putIn(box, number, number),
                            below ? 1 : NOT_BELOW);
                }
                number++;
            }
        }
    }

    private static void putInAskedBehindThese() {
        check.part("4: -2 is asked behind these");
        FURNISHED.refuses("no place, not below", NONE, x -> x.putIn(2, 1, 18));
        FURNISHED.refuses("taken, not below", NONE, x -> x.putIn(2, 0, 18));
        FURNISHED.refuses("lent, not below", NONE, x -> x.putIn(3, 0, 1));
        FURNISHED.refuses("lent, taken, not below", NONE, x -> x.putIn(1, 0, 1));
    }

    private static void putInOutOfWhereItWas() {
        check.part("4: out of the place where it was");
        SpecimenHall x = FURNISHED.fresh();
        int inCases = x.count(5);
        check.is("to the next place", x.putIn(0, 2, 6), 1);
        check.is("its place is free", x.placed(0, 1), NONE);
        check.is("it is there", x.placed(0, 2), 6);
        check.is("to another case", x.putIn(3, 0, 6), 1);
        check.is("its place is free again", x.placed(0, 2), NONE);
        check.is("its case", x.told(6, 3), 3);
        check.is("its place", x.told(6, 4), 0);
        check.is("as many in cases", x.count(5), inCases);
        check.is("one more in cases", x.putIn(0, 1, 18), 1);
        check.is("is counted", x.count(5), inCases + 1);
    }

    // Promises 5 and 6

    private static void takeOutNoneSuch() {
        check.part("5: NONE if there is none such");
        FILLED.takesJust("case", NONE, from(0, 3), (x, box) -> x.takeOut(box, 0), 0, 3, 1000);
        FILLED.takesJust("place", NONE, of(0, 1, 19), (x, place) -> x.takeOut(0, place), 0, 1, 19);
        FILLED.takesJust("the one place", NONE, of(0), (x, place) -> x.takeOut(2, place), 0);
        FURNISHED.refuses("an empty place", NONE, x -> x.takeOut(0, 0));
        FURNISHED.refuses("an empty case", NONE, x -> x.takeOut(3, 0));
        SpecimenHall x = FILLED.fresh();
        int inCases = x.count(5);
        check.is("the last place", x.takeOut(0, 19), 2);
        check.is("is empty then", x.takeOut(0, 19), NONE);
        check.is("no case", x.told(2, 3), NONE);
        check.is("no place", x.told(2, 4), NONE);
        check.is("one less", x.count(5), inCases - 1);
    }

    private static void takeOutLent() {
        check.part("5: NONE if it is lent");
        FURNISHED.refuses("lent", NONE, x -> x.takeOut(0, 7));
        SpecimenHall x = FURNISHED.fresh();
        x.giveBack(1, 5);
        check.is("given back", x.takeOut(0, 7), 1);
    }

    private static void placedNoneSuch() {
        check.part("6: NONE if there is none such");
        FILLED.takesJust("case", NONE, from(0, 3), (x, box) -> x.placed(box, 0), 0, 3, 1000);
        FILLED.takesJust("place", NONE, of(0, 1, 7, 19), (x, place) -> x.placed(0, place), 0, 7, 19);
        FILLED.takesJust("the one place", NONE, of(0), (x, place) -> x.placed(2, place), 0);
        check.is("a lent one is in its place", FILLED.fresh().placed(0, 7), 1);
        check.is("the first place", FILLED.fresh().placed(0, 0), 18);
        check.is("the last place", FILLED.fresh().placed(0, 19), 2);
    }

    // Promise 7

    private static void toldOthers() {
        check.part("7: NONE for others, or no such SPECIMEN");
        FURNISHED.takesJust("of one lent, in a case", NONE, from(0, 9).and(w -> w != 5),
                (x, what) -> x.told(1, what), 0, 9);
        FURNISHED.takesJust("of one on a shelf", NONE, from(0, 5),
                (x, what) -> x.told(3, what), 0, 9);
        FURNISHED.takesJust("of one that has nothing", NONE, from(0, 2),
                (x, what) -> x.told(18, what), 0, 2, 9);
        FURNISHED.takesJust("specimen", NONE, SPECIMEN, (x, s) -> x.told(s, 0), SPECIMEN_EDGES);
    }

    private static void toldWithout() {
        check.part("7: 3 to 9 NONE without");
        SpecimenHall x = new SpecimenHall();
        x.make(2, 0, 0);
        toldIs(x, 3, 9, NONE);
        x.caseOf(0, 1);
        x.putIn(0, 0, 0);
        toldIs(x, 3, 4, 0);
        toldIs(x, 5, 9, NONE);
        x.move(0, 0);
        toldIs(x, 3, 5, 0);
        toldIs(x, 6, 9, NONE);
        x.rule(2, 2, 1);
        x.lend(0, 0, 0);
        toldIs(x, 3, 7, 0);
        toldIs(x, 8, 8, 1);
        toldIs(x, 9, 9, 0);
        x.giveBack(0, 0);
        toldIs(x, 3, 5, 0);
        toldIs(x, 6, 9, NONE);
        x.takeOut(0, 0);
        toldIs(x, 3, 4, NONE);
        toldIs(x, 5, 5, 0);
        x.move(0, NONE);
        toldIs(x, 3, 9, NONE);
        toldIs(x, 1, 2, 0);
    }

    private static void toldIs(SpecimenHall x, int from, int to, int due) {
        for (int what = from; what <= to; what++) {
            check.is("told " + what, x.told(0, what), due);
        }
    }

    // Promises 8 to 11

    private static void belowOfNone() {
        check.part("8: false if one is none");
        int[] edges = CODE_EDGES;
        IntPredicate cases = code -> CODE.test(code - 100) && code >= 100;
        FURNISHED.takesJust("itself", 0, CODE.or(cases), (x, a) -> bit(x.below(a, a)), edges);
        FURNISHED.takesJust("under the first kind", 0, KIND, (x, a) -> bit(x.below(a, 0)), edges);
        FURNISHED.takesJust("under the case of it", 0, cases.and(code -> code < 140),
                (x, a) -> bit(x.below(a, 100)), edges);
        FURNISHED.takesJust("above the hawk moth", 0, of(0, 9, 10, 12, 13, 40, 41, 43, 44),
                (x, b) -> bit(x.below(13, b)), edges);
        FURNISHED.takesJust("above its case", 0,
                of(100, 109, 110, 112, 113, 140, 141, 143, 144),
                (x, b) -> bit(x.below(113, b)), edges);
        FURNISHED.takesJust("above the last trait", 0, of(43, 45, 47, 48),
                (x, b) -> bit(x.below(48, b)), edges);
    }

    private static void stepsOfNone() {
        check.part("9: NONE if one is none, or it isn't above");
        int[] edges = CODE_EDGES;
        FURNISHED.takesJust("kind", NONE, KIND, (x, kind) -> x.steps(kind, 0), edges);
        FURNISHED.takesJust("to itself", NONE, KIND, (x, kind) -> x.steps(kind, kind), edges);
        FURNISHED.takesJust("kind to kept", NONE, KIND.and(kind -> kind != 0 && kind != 9),
                (x, kind) -> x.steps(kind, 40), edges);
        FURNISHED.takesJust("above", NONE, of(0, 9, 17, 19, 40, 41, 43, 45, 47, 48),
                (x, above) -> x.steps(19, above), edges);
        FURNISHED.takesJust("above the first kind", NONE, of(0),
                (x, above) -> x.steps(0, above), edges);
    }

    private static void commonOfNone() {
        check.part("10: NONE if one is none");
        FURNISHED.takesJust("a", NONE, KIND, (x, a) -> x.common(a, 23), CODE_EDGES);
        FURNISHED.takesJust("b", NONE, KIND, (x, b) -> x.common(0, b), CODE_EDGES);
        FURNISHED.takesJust("both", NONE, KIND, (x, both) -> x.common(both, both), CODE_EDGES);
    }

    private static void commonTraitOfNone() {
        check.part("11: NONE if there is none such");
        IntPredicate kept = KIND.and(kind -> kind != 0 && kind != 9);
        FURNISHED.takesJust("a", NONE, kept, (x, a) -> x.commonTrait(a, 23, 0), CODE_EDGES);
        FURNISHED.takesJust("b", NONE, kept, (x, b) -> x.commonTrait(1, b, 0), CODE_EDGES);
        FURNISHED.takesJust("both", NONE, kept, (x, ab) -> x.commonTrait(ab, ab, 0), CODE_EDGES);
        FURNISHED.takesJust("k of none", NONE, of(), (x, k) -> x.commonTrait(0, 0, k), 0);
        FURNISHED.takesJust("k of one", NONE, of(0), (x, k) -> x.commonTrait(1, 1, k), 0);
        FURNISHED.takesJust("k of two", NONE, from(0, 1), (x, k) -> x.commonTrait(19, 19, k), 0, 1);
        FURNISHED.takesJust("k of three", NONE, from(0, 2), (x, k) -> x.commonTrait(13, 13, k), 0, 2);
    }

    private static void commonTraitByNumbers() {
        check.part("11: by numbers, those that have no other one below them");
        SpecimenHall x = new SpecimenHall();
        int[] hawkMoth = {41, 43, 44};
        for (int k = 0; k < 3; k++) {
            check.is("of the hawk moth", x.commonTrait(13, 13, k), hawkMoth[k]);
        }
        check.is("lily and realgar, first", x.commonTrait(5, 23, 0), 41);
        check.is("lily and realgar, second", x.commonTrait(5, 23, 1), 43);
        check.is("lily and realgar, last", x.commonTrait(5, 23, 2), 46);
        check.is("lily and realgar, no more", x.commonTrait(5, 23, 3), NONE);
        check.is("dodo and coelacanth, first", x.commonTrait(19, 16, 0), 40);
        check.is("dodo and coelacanth, last", x.commonTrait(19, 16, 1), 47);
        check.is("dodo and coelacanth, no more", x.commonTrait(19, 16, 2), NONE);
        check.is("shark and oak, first", x.commonTrait(15, 7, 0), 40);
        check.is("shark and oak, last", x.commonTrait(15, 7, 1), 44);
    }

    // Promises 12 and 13

    private static void ruleTakesCodesAndFields() {
        check.part("12: false if there is no such KIND or TRAIT, FIELD");
        FURNISHED.takesJust("code", 0, CODE, (x, code) -> bit(x.rule(code, 1, 5)), CODE_EDGES);
        FURNISHED.takesJust("field", 0, from(0, 4), (x, field) -> bit(x.rule(4, field, 5)), 0, 4);
    }

    private static void ruleTakesValues() {
        check.part("12: false if there is no such value");
        int[] most = {9, 99, 365, 1000, 9};
        for (int f = 0; f < 5; f++) {
            int field = f;
            FURNISHED.takesJust("value of " + field, 0, from(0, most[field]),
                    (x, value) -> bit(x.rule(4, field, value)), 0, most[field]);
            FURNISHED.takesJust("value of " + field + " for a trait", 0, from(0, most[field]),
                    (x, value) -> bit(x.rule(48, field, value)), 0, most[field]);
            SpecimenHall x = new SpecimenHall();
            x.make(4, 1, 1);
            x.rule(4, field, most[field]);
            check.is("the greatest is said", x.asks(0, field), most[field]);
            x.rule(4, field, 0);
            check.is("the least is said", x.asks(0, field), 0);
        }
    }

    private static void ruleInPlaceOfWhatItSaid() {
        check.part("12: in place of what it said");
        SpecimenHall x = new SpecimenHall();
        x.make(4, 1, 1);
        check.yes("laid down", x.rule(4, 0, 3));
        check.yes("the same again", x.rule(4, 0, 3));
        check.is("one rule", x.count(2), 1);
        check.yes("another value", x.rule(4, 0, 9));
        check.is("still one", x.count(2), 1);
        check.is("said now", x.asks(0, 0), 9);
        check.yes("another field", x.rule(4, 4, 9));
        check.is("two", x.count(2), 2);
        check.no("a refused value", x.rule(4, 0, 10));
        check.is("says what it said", x.asks(0, 0), 9);
        SpecimenHall all = new SpecimenHall();
        for (int field = 0; field < 5; field++) {
            for (int code = 0; code <= 48; code++) {
                all.rule(code, field, 1);
            }
        }
        check.is("all that there can be", all.count(2), 33 * 5);
    }

    private static void unruleNoneSuch() {
        check.part("13: false if there is none such");
        FURNISHED.takesJust("code of days", 0, of(0, 12),
                (x, code) -> bit(x.unrule(code, 2)), CODE_EDGES);
        FURNISHED.takesJust("code of shelf", 0, of(43, 47),
                (x, code) -> bit(x.unrule(code, 1)), CODE_EDGES);
        FURNISHED.takesJust("field of frail", 0, of(1, 3),
                (x, field) -> bit(x.unrule(43, field)), 0, 4);
        Refusals all = new Refusals(check, x -> {
            for (int code = 0; code <= 48; code++) {
                x.rule(code, 0, 1);
                x.rule(code, 4, 1);
            }
        });
        all.takesJust("code", 0, CODE, (x, code) -> bit(x.unrule(code, 0)), CODE_EDGES);
        all.takesJust("field", 0, of(0, 4), (x, field) -> bit(x.unrule(48, field)), 0, 4);
        new Refusals(check, x -> {
            x.rule(4, 0, 3);
            x.unrule(4, 0);
        }).refuses("taken away already", 0, x -> bit(x.unrule(4, 0)));
    }

    // Promises 14 and 15

    private static void asksOfNone() {
        check.part("14: NONE if there are none, or no such SPECIMEN or FIELD");
        FURNISHED.takesJust("specimen", NONE, SPECIMEN, (x, s) -> x.asks(s, 2), SPECIMEN_EDGES);
        FURNISHED.takesJust("field of the rose", NONE, from(0, 3), (x, f) -> x.asks(0, f), 0, 4);
        FURNISHED.takesJust("field of realgar", NONE, from(0, 4), (x, f) -> x.asks(2, f), 0, 4);
        FURNISHED.takesJust("field of the shark", NONE, of(2), (x, f) -> x.asks(4, f), 0, 4);
    }

    private static void asksTie() {
        check.part("14: -2 if it is a TIE");
        SpecimenHall x = FURNISHED.fresh();
        check.is("8 and 7", x.asks(1, 1), -2);
        x.rule(47, 1, 8);
        check.is("8 and 8", x.asks(1, 1), 8);
        x.rule(47, 1, 0);
        check.is("8 and 0", x.asks(1, 1), -2);
        x.rule(43, 1, 0);
        check.is("0 and 0", x.asks(1, 1), 0);
        x.rule(43, 1, 99);
        check.is("99 and 0", x.asks(1, 1), -2);
        x.unrule(47, 1);
        check.is("99 alone", x.asks(1, 1), 99);
        x.unrule(43, 1);
        check.is("none", x.asks(1, 1), NONE);
        SpecimenHall three = new SpecimenHall();
        three.make(13, 1, 1);
        three.rule(41, 0, 1);
        three.rule(43, 0, 2);
        check.is("two at two steps", three.asks(0, 0), -2);
        three.rule(44, 0, 3);
        check.is("one at none", three.asks(0, 0), 3);
    }

    private static void nearestOfNone() {
        check.part("15: NONE if there is none such");
        FURNISHED.takesJust("specimen", NONE, SPECIMEN, (x, s) -> x.nearest(s, 2, 0), SPECIMEN_EDGES);
        FURNISHED.takesJust("field", NONE, from(0, 4), (x, f) -> x.nearest(2, f, 0), 0, 4);
        FURNISHED.takesJust("k of two", NONE, from(0, 1), (x, k) -> x.nearest(1, 1, k), 0, 1);
        FURNISHED.takesJust("k of one", NONE, of(0), (x, k) -> x.nearest(0, 0, k), 0, 1);
        FURNISHED.takesJust("k of none", NONE, of(), (x, k) -> x.nearest(0, 4, k), 0, 1);
    }

    private static void nearestByNumbers() {
        check.part("15: by numbers, from 0 on");
        SpecimenHall x = FURNISHED.fresh();
        check.is("the lower number", x.nearest(1, 1, 0), 43);
        check.is("the higher number", x.nearest(1, 1, 1), 47);
        check.is("a kind alone", x.nearest(3, 2, 0), 12);
        check.is("the first kind", x.nearest(0, 2, 0), 0);
        x.rule(48, 1, 5);
        check.is("the one below both", x.nearest(1, 1, 0), 48);
        check.is("alone", x.nearest(1, 1, 1), NONE);
        x.unrule(48, 1);
        x.rule(45, 1, 5);
        check.is("45 has 47 below it", x.nearest(1, 1, 1), 47);
        check.is("no third", x.nearest(1, 1, 2), NONE);
    }

    // Promise 16

    private static void lendThings() {
        check.part("16: NONE if there is none such");
        FURNISHED.takesJust("thing", NONE, FREE.or(of(1001, 1002)), (x, s) -> x.lend(s, 0, 0),
                0, 18, 299, 300, 999, 1000, 1001, 1002, 1003, 1039);
        FILLED.takesJust("thing", NONE, FREE.or(of(1001, 1002, 1003)), (x, s) -> x.lend(s, 0, 0),
                0, 18, 299, 999, 1003);
    }

    private static void lendBorrowersAndDays() {
        check.part("16: NONE if there is no such BORROWER or DAY");
        FURNISHED.takesJust("borrower", NONE, BORROWER, (x, b) -> x.lend(18, b, 0), 0, 19);
        FURNISHED.takesJust("borrower of a case", NONE, BORROWER, (x, b) -> x.lend(1001, b, 0), 0, 19);
        FURNISHED.takesJust("day", NONE, DAY, (x, day) -> x.lend(18, 0, day), 0, LAST_DAY);
        FURNISHED.takesJust("day of a case", NONE, DAY, (x, d) -> x.lend(1001, 0, d), 0, LAST_DAY);
        SpecimenHall x = FURNISHED.fresh();
        x.lend(18, 19, LAST_DAY);
        check.is("the last borrower", x.told(18, 6), 19);
        check.is("the last day", x.told(18, 7), LAST_DAY);
        x.lend(5, 0, 0);
        check.is("the first borrower", x.told(5, 6), 0);
        check.is("the first day", x.told(5, 7), 0);
    }

    private static void lendHowMany() {
        check.part("16: how many loans came");
        for (int n = 1; n <= 12; n++) {
            SpecimenHall x = new SpecimenHall();
            Halls.caseWith(x, 2, n);
            check.is("a case with " + n, x.lend(1000, 0, 0), n);
            check.is("loans", x.count(3), n);
            check.is("loans ever", x.count(4), n);
            check.is("the last is lent", x.told(n - 1, 6), 0);
        }
        check.is("a specimen", FURNISHED.fresh().lend(18, 3, 0), 1);
    }

    private static void lendRefused() {
        check.part("16: NONE if it is refused");
        FURNISHED.refuses("lent to another", NONE, x -> x.lend(1, 0, 20));
        FURNISHED.refuses("lent to the same", NONE, x -> x.lend(1, 2, 5));
        refusesToLend("no rule for days", x -> x.rule(3, 2, 5));
        refusesToLend("0 days", x -> x.rule(0, 2, 0));
        refusesToLend("0 days, nearer than 5", x -> {
            x.rule(0, 2, 5);
            x.rule(2, 2, 0);
        });
        refusesToLend("a rule for fees alone", x -> x.rule(0, 3, 5));
        lendsDodo("tie for days", NONE, new int[][] {{43, 2, 5}, {47, 2, 6}});
        lendsDodo("tie of 0 and 1 for days", NONE, new int[][] {{43, 2, 0}, {47, 2, 1}});
        lendsDodo("no tie for days", 1, new int[][] {{43, 2, 5}, {47, 2, 5}});
        lendsDodo("two say 0 days", NONE, new int[][] {{43, 2, 0}, {47, 2, 0}});
        lendsDodo("tie for fees", NONE, new int[][] {{0, 2, 1}, {43, 3, 0}, {45, 3, 1}});
        lendsDodo("no tie for fees", 1, new int[][] {{0, 2, 1}, {43, 3, 1}, {45, 3, 1}});
        lendsDodo("a fee of 0", 1, new int[][] {{0, 2, 1}, {0, 3, 0}});
        lendsDodo("no fee", 1, new int[][] {{0, 2, 1}});
        lendsDodo("1 day", 1, new int[][] {{0, 2, 1}, {0, 3, 1000}});
        lendsDodo("365 days", 1, new int[][] {{0, 2, 365}, {0, 3, 1000}});
        lendsDodo("tie for another field", 1, new int[][] {{0, 2, 1}, {43, 1, 0}, {45, 1, 1}});
    }

    private static void refusesToLend(String what, java.util.function.Consumer<SpecimenHall> rules) {
        new Refusals(check, x -> {
            x.make(2, 1, 1);
            rules.accept(x);
        }).refuses(what, NONE, x -> x.lend(0, 0, 0));
    }

    private static void lendsDodo(String what, int due, int[][] rules) {
        Refusals setting = new Refusals(check, x -> {
            x.make(19, 1, 1);
            for (int[] rule : rules) {
                x.rule(rule[0], rule[1], rule[2]);
            }
        });
        if (due == NONE) {
            setting.refuses(what, NONE, x -> x.lend(0, 0, 0));
        } else {
            check.is(what, setting.fresh().lend(0, 0, 0), due);
        }
    }

    private static void lendCaseRefused() {
        check.part("16: a CASE is lent, if each in it (one at least) can be lent");
        FURNISHED.refuses("an empty case", NONE, x -> x.lend(1003, 0, 0));
        FURNISHED.refuses("one is lent, one isn't", NONE, x -> x.lend(1000, 0, 0));
        FURNISHED.refuses("no such case", NONE, x -> x.lend(1004, 0, 0));
        caseOfTwo("the first has no days", 4, 2, NONE, new int[][] {{2, 2, 1}});
        caseOfTwo("the last has no days", 2, 4, NONE, new int[][] {{2, 2, 1}});
        caseOfTwo("the last has 0 days", 2, 4, NONE, new int[][] {{2, 2, 1}, {4, 2, 0}});
        caseOfTwo("both have days", 2, 4, 2, new int[][] {{2, 2, 1}, {4, 2, 2}});
        caseOfTwo("the last has a tie for days", 2, 19, NONE,
                new int[][] {{0, 2, 1}, {43, 2, 1}, {47, 2, 2}});
        caseOfTwo("the last has a tie for fees", 2, 19, NONE,
                new int[][] {{0, 2, 1}, {43, 3, 1}, {47, 3, 2}});
        caseOfTwo("the first has a tie for fees", 19, 2, NONE,
                new int[][] {{0, 2, 1}, {43, 3, 1}, {47, 3, 2}});
    }

    private static void caseOfTwo(String what, int first, int last, int due, int[][] rules) {
        Refusals setting = new Refusals(check, x -> {
            x.make(first, 1, 1);
            x.make(last, 1, 1);
            x.caseOf(0, 20);
            x.putIn(0, 0, 0);
            x.putIn(0, 19, 1);
            for (int[] rule : rules) {
                x.rule(rule[0], rule[1], rule[2]);
            }
        });
        if (due == NONE) {
            setting.refuses(what, NONE, x -> x.lend(1000, 0, 0));
        } else {
            check.is(what, setting.fresh().lend(1000, 0, 0), due);
        }
    }

    private static void lendAtMostTwelve() {
        check.part("16: refused, if the BORROWER would have more than 12");
        check.is("the twelfth", FURNISHED.fresh().lend(18, 3, 0), 1);
        check.is("a case of one as the twelfth", FURNISHED.fresh().lend(1001, 3, 0), 1);
        Refusals twelve = new Refusals(check, x -> {
            Halls.furnish(x);
            x.lend(18, 3, 0);
        });
        twelve.refuses("the thirteenth", NONE, x -> x.lend(0, 3, 0));
        twelve.refuses("a case as the thirteenth", NONE, x -> x.lend(1001, 3, 0));
        check.is("another borrower", twelve.fresh().lend(0, 4, 0), 1);
        SpecimenHall x = twelve.fresh();
        x.giveBack(7, 6);
        check.is("after one came back", x.lend(0, 3, 0), 1);
        check.is("just one", x.lend(2, 3, 0), NONE);
        Refusals two = new Refusals(check, y -> {
            Halls.furnish(y);
            y.putIn(1, 1, 0);
            y.convert(2, 4);
            y.putIn(1, 0, 2);
        });
        two.refuses("a case of two to one who has 11", NONE, y -> y.lend(1001, 3, 0));
        check.is("to one who has 1", two.fresh().lend(1001, 2, 0), 2);
        Refusals thirteen = new Refusals(check, y -> Halls.caseWith(y, 2, 13));
        thirteen.refuses("13 at once", NONE, y -> y.lend(1000, 0, 0));
        Refusals twenty = new Refusals(check, y -> Halls.caseWith(y, 2, 20));
        twenty.refuses("20 at once", NONE, y -> y.lend(1000, 0, 0));
    }

    // Promise 17

    private static void giveBackWhatIsLent() {
        check.part("17: NONE if it isn't lent");
        FURNISHED.takesJust("specimen", NONE, LENT, (x, s) -> x.giveBack(s, 50),
                0, 1, 7, 17, 18, 299, 1000);
        FURNISHED.refuses("given back already", NONE, x -> x.giveBack(2, 12));
    }

    private static void giveBackDays() {
        check.part("17: a DAY not ahead of that on which it was lent; NONE if no such DAY");
        FURNISHED.takesJust("day", NONE, from(5, LAST_DAY), (x, day) -> x.giveBack(1, day),
                0, 5, LAST_DAY);
        Refusals first = new Refusals(check, x -> lendOne(x, 1, 0, 0));
        first.takesJust("lent on the first day", NONE, DAY, (x, d) -> x.giveBack(0, d), 0, LAST_DAY);
        Refusals last = new Refusals(check, x -> lendOne(x, 1, 0, LAST_DAY));
        last.takesJust("lent on the last day", NONE, day -> day == LAST_DAY,
                (x, day) -> x.giveBack(0, day), 0, LAST_DAY);
    }

    private static void lendOne(SpecimenHall x, int term, int fee, int day) {
        x.make(2, 1, 1);
        x.rule(2, 2, term);
        x.rule(2, 3, fee);
        x.lend(0, 0, day);
    }

    private static void giveBackDue() {
        check.part("17: what was DUE");
        int[] late = {-1, 0, 1, 29, 30, 31, 64, 65, 66, 90000};
        int[] fees = {0, 0, 1, 29, 30, 32, 98, 100, 100, 100};
        for (int fee : new int[] {0, 1, 1000}) {
            for (int term : new int[] {1, 365}) {
                for (int i = 0; i < late.length; i++) {
                    SpecimenHall x = new SpecimenHall();
                    lendOne(x, term, fee, 9000);
                    int day = 9000 + term + late[i];
                    check.is("due before", x.fees(0, day), fee * fees[i]);
                    check.is(late[i] + " days late", x.giveBack(0, day), fee * fees[i]);
                    check.is("charged", x.count(7), fee * fees[i]);
                    check.is("and kept", x.fees(0, 0), fee * fees[i]);
                    check.is("no loan is left", x.count(3), 0);
                    check.is("one was", x.count(4), 1);
                }
            }
        }
    }

    // Promises 18 to 20

    private static void overdueDays() {
        check.part("18: NONE for no such DAY");
        FURNISHED.takesJust("day", NONE, DAY, (x, day) -> x.overdue(day), 0, LAST_DAY);
    }

    private static void overdueEdge() {
        check.part("18: how many loans are LATE");
        SpecimenHall x = FURNISHED.fresh();
        int[] days = {0, 5, 15, 16, 17, LAST_DAY};
        int[] due = {0, 0, 0, 1, 12, 12};
        for (int i = 0; i < days.length; i++) {
            check.is("on " + days[i], x.overdue(days[i]), due[i]);
        }
        for (int back = 1; back <= 11; back++) {
            x.giveBack(6 + back, 17);
            check.is("given back " + back, x.overdue(17), 12 - back);
            check.is("the last of them", x.lateOne(17, 11 - back), back < 11 ? 17 : 1);
            check.is("none behind it", x.lateOne(17, 12 - back), NONE);
        }
        check.is("the last is given back", x.giveBack(1, 17), 14);
        check.is("none is late", x.overdue(17), 0);
        check.is("none is the first", x.lateOne(17, 0), NONE);
        SpecimenHall last = new SpecimenHall();
        lendOne(last, 1, 1, LAST_DAY - 1);
        check.is("its last day is the last of all", last.overdue(LAST_DAY), 0);
        last.giveBack(0, LAST_DAY);
        last.lend(0, 0, LAST_DAY - 2);
        check.is("late on the last day of all", last.overdue(LAST_DAY), 1);
        check.is("not on the day ahead", last.overdue(LAST_DAY - 1), 0);
        last.giveBack(0, LAST_DAY);
        last.rule(2, 2, 365);
        last.lend(0, 0, LAST_DAY);
        check.is("a term beyond all days", last.overdue(LAST_DAY), 0);
        check.is("is never due", last.fees(0, LAST_DAY), 1);
    }

    private static void lateOneNoneSuch() {
        check.part("19: NONE if there is none such");
        FURNISHED.takesJust("i of twelve", NONE, from(0, 11), (x, i) -> x.lateOne(50, i), 0, 11, 12);
        FURNISHED.takesJust("i of one", NONE, of(0), (x, i) -> x.lateOne(16, i), 0, 11);
        FURNISHED.takesJust("i of none", NONE, of(), (x, i) -> x.lateOne(15, i), 0, 11);
        FURNISHED.takesJust("day of the first", NONE, from(16, LAST_DAY),
                (x, day) -> x.lateOne(day, 0), 0, 16, LAST_DAY);
        FURNISHED.takesJust("day of the last", NONE, from(17, LAST_DAY),
                (x, day) -> x.lateOne(day, 11), 0, 17, LAST_DAY);
    }

    private static void lateOneOrder() {
        check.part("19: most LATE first, of like ones by number");
        SpecimenHall x = FURNISHED.fresh();
        check.is("the one that is most late", x.lateOne(17, 0), 1);
        for (int i = 1; i < 12; i++) {
            check.is("like ones by number", x.lateOne(17, i), i + 6);
        }
        x.giveBack(7, 17);
        x.lend(7, 0, 4);
        check.is("lent again, later by term, ahead", x.lateOne(17, 0), 7);
        check.is("then the other", x.lateOne(17, 1), 1);
        x.giveBack(7, 17);
        x.lend(7, 0, 5);
        check.is("as late as 1, of higher number", x.lateOne(17, 1), 7);
        check.is("1 ahead of it", x.lateOne(17, 0), 1);
        x.lend(0, 0, 5);
        check.is("0 ahead of both", x.lateOne(17, 0), 0);
        x.lend(3, 1, 7);
        check.is("a term of 5 days, lent last", x.lateOne(13, 0), 3);
        check.is("ahead of all", x.lateOne(100, 0), 3);
    }

    private static void feesOfNone() {
        check.part("20: NONE if there is no such BORROWER or DAY");
        FURNISHED.takesJust("borrower", NONE, BORROWER, (x, b) -> x.fees(b, 50), 0, 19);
        FURNISHED.takesJust("day", NONE, DAY, (x, day) -> x.fees(3, day), 0, LAST_DAY);
    }

    private static void feesOfBoth() {
        check.part("20: what a BORROWER was charged, and what is DUE");
        SpecimenHall x = FURNISHED.fresh();
        check.is("charged alone", x.fees(1, 0), 14);
        check.is("charged alone, last day", x.fees(1, LAST_DAY), 14);
        check.is("nothing", x.fees(0, LAST_DAY), 0);
        check.is("due of eleven, day ahead", x.fees(3, 16), 0);
        check.is("due of eleven", x.fees(3, 17), 77);
        check.is("due of eleven at most", x.fees(3, LAST_DAY), 7700);
        check.is("due ahead of the loan", x.fees(3, 0), 0);
        x.giveBack(7, 17);
        check.is("one charged, ten due", x.fees(3, 18), 7 + 140);
        check.is("one charged, ten not due", x.fees(3, 0), 7);
        check.is("all charged", x.count(7), 14 + 7);
        SpecimenHall most = new SpecimenHall();
        most.rule(0, 2, 1);
        most.rule(0, 3, 1000);
        Halls.makeMany(most, 2, 12);
        for (int round = 1; round <= 10; round++) {
            for (int i = 0; i < 12; i++) {
                most.lend(i, 19, 0);
            }
            check.is("charged and due", most.fees(19, LAST_DAY), round * 1200000);
            for (int i = 0; i < 12; i++) {
                check.is("a hundred fees", most.giveBack(i, LAST_DAY), 100000);
            }
        }
        check.is("all that was charged", most.count(7), 12000000);
    }

    // Promise 21

    private static void questionKeys() {
        check.part("21: NONE if there is no such KEY");
        FURNISHED.takesJust("key", NONE, from(0, 9).and(key -> key != 8),
                (x, key) -> x.question(key, 0, 0, 0, 0), 0, 9);
    }

    private static void questionUpTo40() {
        check.part("21: how many it has; NONE if it has 40");
        SpecimenHall x = new SpecimenHall();
        for (int n = 1; n <= 40; n++) {
            check.is("question " + n, x.question(9, 0, 0, 0, NONE), n);
        }
        check.is("a 41st", x.question(9, 0, 0, 0, NONE), NONE);
        check.is("of another key", x.question(0, 0, 0, 0, NONE), 1);
        FURNISHED.refuses("a 41st for key 8", NONE, y -> y.question(8, 0, 0, 0, 0));
        FURNISHED.refuses("a 41st that tells NONE", NONE, y -> y.question(8, 0, 0, NONE, NONE));
        Refusals almost = new Refusals(check, y -> Halls.askMany(y, 5, 39));
        almost.refuses("a refused one isn't the 40th", NONE, y -> y.question(5, 24, 0, 0, 0));
        check.is("the 40th", almost.fresh().question(5, 0, 0, 0, 0), 40);
    }

    private static void questionAsks() {
        check.part("21: NONE if it doesn't ask for a KIND, TRAIT, 60 or 61");
        FURNISHED.takesJust("asked", NONE, CODE.or(of(60, 61)),
                (x, code) -> x.question(0, code, 0, 0, 0), CODE_EDGES);
        FURNISHED.takesJust("asked with a number", NONE, of(60, 61),
                (x, code) -> x.question(0, code, 1, 0, 0), CODE_EDGES);
        FURNISHED.takesJust("asked with the greatest number", NONE, of(60, 61),
                (x, code) -> x.question(0, code, MOST_MEASURE, 0, 0), 60, 61);
    }

    private static void questionNumbers() {
        check.part("21: with these a number 0 .. 100000; else number is 0");
        for (int c : new int[] {60, 61}) {
            int code = c;
            FURNISHED.takesJust("number with " + code, NONE, MEASURE,
                    (x, number) -> x.question(0, code, number, 0, 0), 0, MOST_MEASURE);
        }
        for (int c : new int[] {0, 23, 40, 48}) {
            int code = c;
            FURNISHED.takesJust("number with " + code, NONE, of(0),
                    (x, number) -> x.question(0, code, number, 0, 0), 0, MOST_MEASURE);
        }
    }

    private static void questionTells() {
        check.part("21: yes or no is none of what they may be");
        IntPredicate plain = CODE.or(of(NONE));
        int[] edges = {NONE, 0, 23, 40, 48, 60, 61, 100, 123, 200, 201, 204, 205, 239, 240};
        FURNISHED.takesJust("yes of question 4", NONE, plain.or(from(205, 239)),
                (x, yes) -> x.question(0, 0, 0, yes, 0), edges);
        FURNISHED.takesJust("no of question 4", NONE, plain.or(from(205, 239)),
                (x, no) -> x.question(0, 0, 0, 0, no), edges);
        FURNISHED.takesJust("yes of question 0", NONE, plain.or(from(201, 239)),
                (x, yes) -> x.question(9, 60, 5, yes, 239), edges);
        FURNISHED.takesJust("no of question 0", NONE, plain.or(from(201, 239)),
                (x, no) -> x.question(9, 60, 5, 239, no), edges);
        FURNISHED.takesJust("both of question 0", NONE, plain.or(from(201, 239)),
                (x, both) -> x.question(9, 60, 5, both, both), edges);
    }

    private static void questionTellsAtTheEnd() {
        check.part("21: 200 and a number above that of this question, below 240");
        IntPredicate plain = CODE.or(of(NONE));
        Refusals at38 = new Refusals(check, x -> Halls.askMany(x, 0, 38));
        at38.takesJust("yes of question 38", NONE, plain.or(of(239)),
                (x, yes) -> x.question(0, 0, 0, yes, 0), 200, 238, 239, 240);
        Refusals at39 = new Refusals(check, x -> Halls.askMany(x, 0, 39));
        at39.takesJust("yes of question 39", NONE, plain,
                (x, yes) -> x.question(0, 0, 0, yes, 0), 200, 239, 240);
        at39.takesJust("no of question 39", NONE, plain,
                (x, no) -> x.question(0, 0, 0, 0, no), 200, 239, 240);
    }

    // Promises 22 and 23

    private static void nameOfNone() {
        check.part("22: NONE if there is none, or no such KEY or SPECIMEN");
        IntPredicate named = SPECIMEN.and(s -> s != 1 && s != 3 && (s < 7 || s > 17));
        FURNISHED.takesJust("specimen that key 8 names", NONE, SPECIMEN,
                (x, s) -> x.name(8, s));
        FURNISHED.takesJust("specimen that key 0 names", NONE, named, (x, s) -> x.name(0, s));
        FURNISHED.takesJust("key that names", NONE, of(0, 8), (x, key) -> x.name(key, 0));
        for (int no : new int[] {LOW, LOW + 8, -1, 10, 64, 72, 264, HIGH}) {
            FURNISHED.refuses("no key " + no, NONE, x -> x.name(no, 0));
        }
        for (int no : new int[] {LOW, LOW + 1, -1, Halls.SPECIMENS, 64, 256, 300, HIGH}) {
            FURNISHED.refuses("no specimen " + no, NONE, x -> x.name(8, no));
        }
    }

    private static void nameEnds() {
        check.part("22: the KIND or TRAIT");
        for (int code = NONE; code <= 48; code++) {
            if (code == NONE || CODE.test(code)) {
                SpecimenHall x = new SpecimenHall();
                x.make(2, 1, 1);
                x.question(9, 2, 0, code, 23);
                x.question(0, 4, 0, 23, code);
                check.is("for yes", x.name(9, 0), code);
                check.is("for no", x.name(0, 0), code);
            }
        }
    }

    private static void askedOfNone() {
        check.part("23: 0 ahead of any");
        SpecimenHall x = new SpecimenHall();
        check.is("ahead of any", x.asked(), 0);
        x.make(2, 1, 1);
        check.is("a key without questions", x.name(0, 0), NONE);
        check.is("asks none", x.asked(), 0);
        x.question(0, 2, 0, 2, NONE);
        check.is("a question alone isn't asked", x.asked(), 0);
        x.name(0, 0);
        check.is("one", x.asked(), 1);
        x.name(1, 0);
        check.is("none by the latest", x.asked(), 0);
        x.name(0, 0);
        x.name(10, 0);
        check.is("a refused one changes nothing", x.asked(), 1);
        x.name(0, 1);
        check.is("nor without a specimen", x.asked(), 1);
    }

    private static void askedOfAll() {
        check.part("23: how many questions the latest name() asked");
        SpecimenHall x = FURNISHED.fresh();
        check.is("a question that isn't there isn't asked", x.asked(), 3);
        check.is("through all forty", x.name(8, 0), 48);
        check.is("forty", x.asked(), 40);
        check.is("not an animal", x.name(0, 0), 20);
        check.is("one", x.asked(), 1);
        check.is("told NONE behind a question", x.name(0, 1), NONE);
        check.is("that is asked", x.asked(), 3);
        SpecimenHall leap = new SpecimenHall();
        leap.make(2, 1, 1);
        leap.question(0, 0, 0, 239, NONE);
        for (int n = 1; n < 39; n++) {
            leap.question(0, 0, 0, NONE, NONE);
        }
        check.is("39 isn't there", leap.name(0, 0), NONE);
        check.is("one asked", leap.asked(), 1);
        leap.question(0, 0, 0, 7, NONE);
        check.is("39 is there", leap.name(0, 0), 7);
        check.is("two asked", leap.asked(), 2);
    }

    // Promise 24

    private static void convertTakes() {
        check.part("24: false if there is no such SPECIMEN");
        IntPredicate toFern = FREE.and(s -> s != 4 && s != 5 && s != 18);
        FURNISHED.takesJust("specimen", 0, toFern, (x, s) -> bit(x.convert(s, 2)), SPECIMEN_EDGES);
    }

    private static void convertKinds() {
        check.part("24: false if no such KIND, ABSTRACT, the one that it has, no TRAIT but 40");
        int[] edges = {0, 2, 3, 4, 14, 15, 16, 20, 23, 40, 48, 100, 123};
        IntPredicate dryOrFrail = CONCRETE.and(of(4, 14, 15, 16).negate());
        FURNISHED.takesJust("of the rose", 0, dryOrFrail,
                (x, kind) -> bit(x.convert(0, kind)), edges);
        FURNISHED.takesJust("of the shark", 0, of(6, 7, 8, 13, 14, 16, 18),
                (x, kind) -> bit(x.convert(4, kind)), edges);
        Refusals rareFish = new Refusals(check, x -> x.make(16, 1, 1));
        rareFish.takesJust("of the coelacanth", 0, of(5, 8, 14, 15, 19, 22, 23),
                (x, kind) -> bit(x.convert(0, kind)), edges);
        Refusals fish = new Refusals(check, x -> x.make(14, 1, 1));
        fish.takesJust("of the fish", 0, of(15, 16),
                (x, kind) -> bit(x.convert(0, kind)), edges);
    }

    private static void convertLent() {
        check.part("24: false if it is lent");
        FURNISHED.refuses("in a case", 0, x -> bit(x.convert(1, 18)));
        FURNISHED.refuses("in no place", 0, x -> bit(x.convert(17, 12)));
        SpecimenHall x = FURNISHED.fresh();
        x.giveBack(17, 6);
        check.yes("given back", x.convert(17, 12));
    }

    private static void convertLeaves() {
        check.part("24: it leaves its place, if the CASE's KIND isn't above it, its SHELF likewise");
        SpecimenHall x = FURNISHED.fresh();
        check.yes("rose to lily", x.convert(0, 5));
        check.is("a flower stays", x.placed(1, 0), 0);
        check.yes("lily to fern", x.convert(0, 2));
        check.is("a fern leaves", x.placed(1, 0), NONE);
        check.is("no case", x.told(0, 3), NONE);
        check.is("no place", x.told(0, 4), NONE);
        check.is("one less in cases", x.count(5), 3);
        check.yes("hawk moth to beetle", x.convert(3, 11));
        check.is("its case takes insects", x.placed(2, 0), 3);
        check.is("its shelf too", x.told(3, 5), 4);
        check.yes("beetle to owl", x.convert(3, 18));
        check.is("out of its case", x.placed(2, 0), NONE);
        check.is("off its shelf", x.told(3, 5), NONE);
        check.is("one on shelves", x.count(6), 1);
        check.yes("none stands there then", x.shelf(4, 0, 18));
        check.yes("its room is free", x.move(6, 4));
        check.yes("all of it", x.move(3, 4));
        check.yes("oak to owl", x.convert(6, 18));
        check.is("a case of kind 0 takes all", x.placed(0, 1), 6);
        check.is("a shelf of kind 0 too", x.told(6, 5), 4);
    }

    // Promises 25 and 26

    private static void findCodes() {
        check.part("25: NONE if there is none such");
        FURNISHED.takesJust("code", NONE, CODE, (x, code) -> x.find(code, 0, 100), CODE_EDGES);
        check.is("a kind of which there is none", FURNISHED.fresh().find(22, 0, MOST_MEASURE), 0);
        check.is("nothing has come", new SpecimenHall().find(0, 0, MOST_MEASURE), 0);
    }

    private static void findFromTo() {
        check.part("25: from .. to (both counted)");
        SpecimenHall x = new SpecimenHall();
        int[] lengths = {0, 10, 10, 11, MOST_MEASURE};
        for (int length : lengths) {
            x.make(2, length, 5);
        }
        int[][] due = {{0, MOST_MEASURE, 5}, {LOW, HIGH, 5}, {0, 0, 1}, {-1, -1, 0},
            {1, 9, 0}, {9, 10, 2}, {10, 10, 2}, {10, 11, 3}, {11, 11, 1}, {11, 10, 0},
            {12, MOST_MEASURE - 1, 0}, {MOST_MEASURE, MOST_MEASURE, 1}, {MOST_MEASURE, HIGH, 1},
            {MOST_MEASURE + 1, HIGH, 0}, {LOW, -1, 0}, {LOW, 0, 1}, {1, MOST_MEASURE, 4},
            {0, MOST_MEASURE - 1, 4}, {HIGH, LOW, 0}, {LOW, LOW, 0}, {HIGH, HIGH, 0}};
        for (int[] row : due) {
            check.is(row[0] + " .. " + row[1], x.find(2, row[0], row[1]), row[2]);
            check.is(row[0] + " .. " + row[1] + ", dry", x.find(41, row[0], row[1]), row[2]);
            check.is(row[0] + " .. " + row[1] + ", roses", x.find(4, row[0], row[1]), 0);
        }
    }

    private static void nthNoneSuch() {
        check.part("26: NONE if there is none such");
        FURNISHED.takesJust("k of all", NONE, SPECIMEN, (x, k) -> x.nth(0, k), SPECIMEN_EDGES);
        FURNISHED.takesJust("k of ferns", NONE, from(0, 1), (x, k) -> x.nth(2, k), 0, 1);
        FURNISHED.takesJust("k of none", NONE, of(), (x, k) -> x.nth(22, k), 0);
        IntPredicate has = of(0, 1, 2, 3, 4, 6, 7, 9, 10, 11, 12, 13, 14, 15, 17, 19, 20, 21, 23)
                .or(TRAIT);
        FURNISHED.takesJust("code", NONE, has, (x, code) -> x.nth(code, 0), CODE_EDGES);
    }

    private static void nthOrder() {
        check.part("26: by LENGTH, of like ones by number");
        SpecimenHall x = FURNISHED.fresh();
        int[] due = {5, 7, 8, 9, 10, 11, 12, 13, 14, 15, 16, 17, 18, 2, 3, 6, 0, 1, 4};
        for (int k = 0; k < due.length; k++) {
            check.is("of all, " + k, x.nth(0, k), due[k]);
        }
        check.is("large, first", x.nth(44, 0), 3);
        check.is("large, last", x.nth(44, 2), 4);
        x.make(2, 0, 9);
        check.is("a like one comes behind", x.nth(0, 1), 19);
        check.is("the first stays", x.nth(0, 0), 5);
        x.convert(5, 4);
        check.is("revised, no fern", x.nth(2, 0), 19);
        check.is("among roses by length", x.nth(4, 0), 5);
    }

    // Promises 27 and 28

    private static void shelfTakes() {
        check.part("27: false if there is none such, or no such KIND or ROOM");
        FURNISHED.takesJust("shelf", 0, from(0, 9).and(s -> s != 1 && s != 4),
                (x, shelf) -> bit(x.shelf(shelf, 2, 7)), 0, 9);
        FURNISHED.takesJust("kind", 0, KIND, (x, kind) -> bit(x.shelf(9, kind, 7)), KIND_EDGES);
        FURNISHED.takesJust("room", 0, from(0, 1000000),
                (x, room) -> bit(x.shelf(9, 2, room)), 0, 1000000);
        SpecimenHall x = new SpecimenHall();
        for (int i = 0; i < 11; i++) {
            x.make(2, MOST_MEASURE, 0);
        }
        x.make(2, 0, 0);
        x.make(2, 1, 0);
        x.shelf(0, 2, 1000000);
        for (int i = 0; i < 10; i++) {
            check.yes("the greatest room", x.move(i, 0));
        }
        check.no("is full", x.move(10, 0));
        check.no("for the shortest", x.move(12, 0));
        check.yes("but for none at all", x.move(11, 0));
        check.yes("the least room", x.shelf(1, 2, 0));
        check.no("has none for the shortest", x.move(12, 1));
        check.yes("but for none at all", x.move(11, 1));
    }

    private static void shelfOnWhichOneStands() {
        check.part("27: a SHELF on which none stands");
        FURNISHED.refuses("a full one", 0, x -> bit(x.shelf(1, 0, 1000)));
        FURNISHED.refuses("one with room", 0, x -> bit(x.shelf(4, 0, 1000)));
        FURNISHED.refuses("as it is", 0, x -> bit(x.shelf(4, 10, 12)));
        Refusals zero = new Refusals(check, x -> {
            x.make(2, 0, 0);
            x.move(0, 0);
        });
        zero.refuses("one without length stands there", 0, x -> bit(x.shelf(0, 0, 50)));
        SpecimenHall x = zero.fresh();
        check.yes("it goes", x.move(0, NONE));
        check.yes("none stands there", x.shelf(0, 0, 50));
        SpecimenHall y = zero.fresh();
        check.yes("it goes to another", y.move(0, 1));
        check.yes("none stands there", y.shelf(0, 0, 50));
        check.no("one stands on the other", y.shelf(1, 0, 50));
    }

    private static void moveTakes() {
        check.part("28: false if there is no such SPECIMEN or SHELF");
        FURNISHED.takesJust("specimen", 0, FREE, (x, s) -> bit(x.move(s, 9)), SPECIMEN_EDGES);
        IntPredicate open = from(0, 9).and(s -> s != 4);
        FURNISHED.takesJust("shelf", 0, open, (x, shelf) -> bit(x.move(5, shelf)), 0, 9);
        FURNISHED.takesJust("shelf of one that stands", 0, of(NONE, 9),
                (x, shelf) -> bit(x.move(3, shelf)), NONE, 0, 9);
    }

    private static void moveToNone() {
        check.part("28: NONE: to none");
        FURNISHED.refuses("it stands on none", 0, x -> bit(x.move(18, NONE)));
        SpecimenHall x = FURNISHED.fresh();
        check.yes("off its shelf", x.move(3, NONE));
        check.is("it has none", x.told(3, 5), NONE);
        check.no("twice", x.move(3, NONE));
        check.is("one is left", x.count(6), 1);
        check.yes("its shelf is empty", x.shelf(4, 2, 0));
    }

    private static void moveStandsThere() {
        check.part("28: false if it stands there");
        FURNISHED.refuses("on a shelf with room", 0, x -> bit(x.move(3, 4)));
        FURNISHED.refuses("on a full one", 0, x -> bit(x.move(4, 1)));
        Refusals zero = new Refusals(check, x -> {
            x.make(2, 0, 0);
            x.move(0, 0);
        });
        zero.refuses("without length", 0, x -> bit(x.move(0, 0)));
    }

    private static void moveLent() {
        check.part("28: false if it is lent");
        Refusals lent = new Refusals(check, x -> {
            Halls.furnish(x);
            x.lend(3, 0, 0);
        });
        lent.refuses("to none", 0, x -> bit(x.move(3, NONE)));
        lent.refuses("to another shelf", 0, x -> bit(x.move(3, 9)));
        lent.refuses("to its own", 0, x -> bit(x.move(3, 4)));
        lent.refuses("one that stands on none", 0, x -> bit(x.move(1, 9)));
        SpecimenHall x = lent.fresh();
        check.no("it keeps its shelf from changing", x.shelf(4, 0, 50));
        x.giveBack(3, 0);
        check.yes("given back", x.move(3, 9));
    }

    private static void moveKind() {
        check.part("28: false if the SHELF's KIND isn't above its own");
        FURNISHED.refuses("a fern among insects", 0, x -> bit(x.move(18, 4)));
        FURNISHED.refuses("one that stays where it stands", 0, x -> bit(x.move(3, 3)));
        SpecimenHall below = new SpecimenHall();
        for (int kind = 0; kind < 24; kind++) {
            SpecimenHall x = new SpecimenHall();
            int number = 0;
            x.shelf(9, kind, 0);
            for (int own = 0; own < 24; own++) {
                if (!ABSTRACT.contains(own)) {
                    x.make(own, 0, 0);
                    check.is(own + " on a shelf of " + kind, x.move(number, 9),
                            below.below(own, kind));
                    number++;
                }
            }
        }
    }

    private static void moveRoom() {
        check.part("28: false if there isn't ROOM");
        Refusals four = new Refusals(check, x -> {
            Halls.furnish(x);
            x.make(11, 4, 0);
            x.make(11, 5, 0);
            x.make(11, 12, 0);
            x.make(11, 13, 0);
        });
        check.yes("4 into 4", four.fresh().move(19, 4));
        four.refuses("5 into 4", 0, x -> bit(x.move(20, 4)));
        four.refuses("a full shelf", 0, x -> bit(x.move(18, 1)));
        four.refuses("a shelf of no room", 0, x -> bit(x.move(18, 0)));
        check.yes("no length onto a full shelf", four.fresh().move(5, 1));
        SpecimenHall x = four.fresh();
        x.move(3, NONE);
        check.no("13 into 12", x.move(22, 4));
        check.yes("12 into 12", x.move(21, 4));
        check.no("1 into none", x.move(19, 4));
        check.yes("to a shelf with room", x.move(21, 9));
        check.yes("4 where 12 were", x.move(19, 4));
        check.yes("8 behind it", x.move(3, 4));
    }

    // Promise 29

    private static void countOthers() {
        check.part("29: NONE for others");
        FURNISHED.takesJust("what", NONE, from(0, 7), (x, what) -> x.count(what), 0, 7);
    }

    private static void countEach() {
        check.part("29: 0 to 7");
        SpecimenHall x = FURNISHED.fresh();
        int[] due = {19, 4, 8, 12, 13, 4, 2, 14};
        for (int what = 0; what < due.length; what++) {
            check.is("what " + what, x.count(what), due[what]);
        }
        x.giveBack(1, 17);
        check.is("a loan less", x.count(3), 11);
        check.is("as many ever", x.count(4), 13);
        check.is("charged more", x.count(7), 28);
        x.lend(1001, 0, 0);
        check.is("a loan more", x.count(3), 12);
        check.is("one more ever", x.count(4), 14);
        check.is("a rule less", bit(x.unrule(0, 2)) * x.count(2), 7);
    }

    private static void all512Calls() {
        check.part("an object is used for at most 512 calls");
        SpecimenHall loans = new SpecimenHall();
        loans.make(2, 1, 1);
        loans.rule(0, 2, 1);
        loans.rule(0, 3, 1000);
        for (int round = 1; round <= 254; round++) {
            check.is("lent", loans.lend(0, round % 20, 0), 1);
            check.is("given back", loans.giveBack(0, LAST_DAY), 100000);
        }
        check.is("the 512th call", loans.count(7), 25400000);
        SpecimenHall things = new SpecimenHall();
        Halls.makeMany(things, 2, 300);
        Halls.caseMany(things, 40);
        things.rule(0, 2, 1);
        for (int i = 0; i < 170; i++) {
            check.is("lent", things.lend(i, i % 20, 0), 1);
        }
        check.is("the 512th call", things.count(3), 170);
    }
}
