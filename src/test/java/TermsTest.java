import java.util.Set;
import java.util.function.IntPredicate;

/** Each sentence of the document's terms that names an edge, with a test of its own. */
public final class TermsTest {
    private static final int NONE = SpecimenHall.NONE;
    private static final int TIE = -2;
    private static final int LAST_DAY = 100000;

    private static final int[] PARENT = {NONE, 0, 1, 1, 3, 3, 1, 6, 6, 0, 9, 10, 10, 12, 9, 14,
        14, 9, 17, 17, 0, 20, 20, 21};
    private static final Set<Integer> ABSTRACT = Set.of(0, 1, 3, 9, 10, 17, 20);

    // Of each kind the traits above it, each with the steps up to it.
    private static final String[] TRAITS = {"", "40/0 41/0", "40/1 41/1", "40/1 41/1 43/0",
        "40/2 41/2 43/1", "40/2 41/2 43/1 45/0 46/0", "40/1 41/1 44/0", "40/2 41/2 44/1",
        "40/2 41/2 44/1 45/0 47/0", "", "40/0 41/0 43/0", "40/1 41/1 43/1", "40/1 41/1 43/1",
        "40/2 41/2 43/2 44/0", "40/0 42/0", "40/1 42/1 44/0", "40/1 42/1 45/0 47/0",
        "40/0 41/0", "40/1 41/1 44/0", "40/1 41/1 43/0 45/0 47/0 48/0", "40/0 41/0",
        "40/1 41/1 43/0", "40/1 41/1 45/0 47/0", "40/2 41/2 43/1 45/0 46/0"};

    private static final Check check = new Check("TermsTest");
    private static final Refusals NEW = new Refusals(check, x -> { });

    public static void main(String[] args) {
        none();
        kinds();
        abstractKinds();
        parents();
        traits();
        traitsExtend();
        kindsNameTraits();
        cases();
        stepsUp();
        specimensAsTheyCome();
        casesAsTheyCome();
        onePlaceAtMost();
        shelvesAtFirst();
        sumOfLengths();
        fieldsAndValues();
        rulesForWhatItIsBelow();
        fewestSteps();
        kindAlone();
        lowestTraits();
        allSayOneThing();
        daysAndBorrowers();
        asTheyWereOnTheDay();
        refusedByDays();
        refusedByFees();
        refusedAboveTwelve();
        casesAllTogether();
        late();
        due();
        addedToWhatWasCharged();
        lentStays();
        keys();
        questionsAsTheyCome();
        asksWhetherBelow();
        asksAtLeast();
        tellsHigherNumbers();
        fromQuestionZeroOn();
        check.end();
    }

    private static IntPredicate from(int least, int most) {
        return value -> value >= least && value <= most;
    }

    private static int bit(boolean answer) {
        return answer ? 1 : 0;
    }

    private static SpecimenHall hallWith(int... kinds) {
        SpecimenHall x = new SpecimenHall();
        for (int kind : kinds) {
            x.make(kind, 1, 1);
        }
        return x;
    }

    private static void none() {
        check.part("NONE = -1");
        check.is("NONE", SpecimenHall.NONE, -1);
    }

    // 1. CODES

    private static void kinds() {
        check.part("1. KINDS 0 .. 23");
        NEW.takesJust("kind", NONE, from(0, 23), (x, kind) -> x.caseOf(kind, 1), 0, 23);
        NEW.takesJust("kind", NONE, from(0, 23), (x, kind) -> x.common(kind, kind), 0, 23);
        NEW.takesJust("kind", 0, from(0, 23), (x, kind) -> bit(x.shelf(0, kind, 0)), 0, 23);
    }

    private static void abstractKinds() {
        check.part("1. those with ' are ABSTRACT");
        for (int kind = 0; kind < 24; kind++) {
            SpecimenHall x = new SpecimenHall();
            check.is("made of " + kind, x.make(kind, 0, 0), ABSTRACT.contains(kind) ? NONE : 0);
            check.is("it came", x.count(0), ABSTRACT.contains(kind) ? 0 : 1);
        }
    }

    private static void parents() {
        check.part("1. each with its parent; a KIND is ABOVE itself");
        SpecimenHall x = new SpecimenHall();
        for (int kind = 0; kind < 24; kind++) {
            check.yes(kind + " above itself", x.below(kind, kind));
            check.is("steps to itself", x.steps(kind, kind), 0);
            check.is("in common with itself", x.common(kind, kind), kind);
            if (kind > 0) {
                check.yes(kind + " under its parent", x.below(kind, PARENT[kind]));
                check.no("its parent isn't under " + kind, x.below(PARENT[kind], kind));
                check.is("one step", x.steps(kind, PARENT[kind]), 1);
                check.is("in common with its parent", x.common(kind, PARENT[kind]), PARENT[kind]);
            }
        }
        for (int kind = 0; kind < 24; kind++) {
            check.yes(kind + " under the first", new SpecimenHall().below(kind, 0));
            check.is("the first under it", new SpecimenHall().below(0, kind), kind == 0);
        }
    }

    private static void traits() {
        check.part("1. TRAITS 40 .. 48");
        IntPredicate code = from(0, 23).or(from(40, 48));
        NEW.takesJust("code", 0, code, (x, c) -> bit(x.rule(c, 0, 0)), 0, 23, 24, 39, 40, 48, 49);
        NEW.takesJust("code", NONE, code, (x, c) -> x.find(c, 0, 0), 0, 23, 24, 39, 40, 48, 49);
        NEW.takesJust("no trait is a kind", NONE, from(0, 23), (x, c) -> x.steps(c, c), 40, 48);
    }

    private static void traitsExtend() {
        check.part("1. a TRAIT is ABOVE itself, and each TRAIT that extends one that it is above");
        String[] above = {"40", "40 41", "40 42", "43", "44", "45", "45 46", "45 47",
            "43 45 47 48"};
        for (int trait = 40; trait <= 48; trait++) {
            SpecimenHall x = new SpecimenHall();
            for (int other = 0; other <= 48; other++) {
                boolean due = (" " + above[trait - 40] + " ").contains(" " + other + " ");
                check.is(trait + " under " + other, x.below(trait, other), due && other >= 40);
            }
        }
    }

    private static void kindsNameTraits() {
        check.part("1. a TRAIT is ABOVE each KIND that NAMES, or has one above it that NAMES");
        for (int kind = 0; kind < 24; kind++) {
            SpecimenHall x = new SpecimenHall();
            for (int trait = 39; trait <= 49; trait++) {
                boolean due = (" " + TRAITS[kind]).contains(" " + trait + "/");
                check.is(kind + " under " + trait, x.below(kind, trait), due);
                check.no(trait + " under " + kind, x.below(trait, kind));
            }
        }
    }

    private static void cases() {
        check.part("1. 100 + c is the CASE of c: it is ABOVE the CASE of d, if c is above d");
        for (int c = 0; c <= 49; c++) {
            SpecimenHall x = new SpecimenHall();
            for (int d = 0; d <= 49; d++) {
                boolean due = x.below(d, c);
                check.is("case of " + d + " under case of " + c, x.below(100 + d, 100 + c), due);
                check.no("case of " + d + " under " + c, x.below(100 + d, c));
                check.no(d + " under case of " + c, x.below(d, 100 + c));
            }
        }
        SpecimenHall x = new SpecimenHall();
        for (int code : new int[] {99, 124, 139, 149, 200, 248}) {
            check.no(code + " is no case", x.below(code, code));
            check.no(code + " is under no case", x.below(code, 100));
            check.no(code + " is above no case", x.below(123, code));
        }
        for (int code : new int[] {100, 123, 140, 148}) {
            check.yes(code + " is a case", x.below(code, code));
        }
    }

    private static void stepsUp() {
        check.part("1. STEPS (itself: 0)");
        for (int kind = 0; kind < 24; kind++) {
            SpecimenHall x = new SpecimenHall();
            for (int trait = 40; trait <= 48; trait++) {
                int at = (" " + TRAITS[kind]).indexOf(" " + trait + "/");
                int due = at < 0 ? NONE : TRAITS[kind].charAt(at + 3) - '0';
                check.is("from " + kind + " to " + trait, x.steps(kind, trait), due);
            }
            int above = kind;
            for (int steps = 0; above != NONE; steps++) {
                check.is("from " + kind + " to " + above, x.steps(kind, above), steps);
                above = PARENT[above];
            }
        }
        check.is("the longest way", new SpecimenHall().steps(13, 0), 4);
    }

    // 2. SPECIMENS

    private static void specimensAsTheyCome() {
        check.part("2. SPECIMENS have numbers as they come");
        SpecimenHall x = new SpecimenHall();
        check.is("first", x.make(23, 1, 1), 0);
        check.is("refused", x.make(20, 1, 1), NONE);
        check.is("refused", x.make(23, -1, 1), NONE);
        check.is("next", x.make(2, 1, 1), 1);
        check.is("next", x.make(2, 1, 1), 2);
    }

    private static void casesAsTheyCome() {
        check.part("2. CASES have numbers as they come, a KIND (ABSTRACT ones, too), places 0, 1");
        SpecimenHall x = new SpecimenHall();
        for (int kind = 0; kind < 24; kind++) {
            check.is("case", x.caseOf(kind, 2), kind);
            check.is("refused", x.caseOf(kind, 0), NONE);
        }
        x.make(23, 1, 1);
        check.is("place 1", x.putIn(23, 1, 0), 1);
        check.is("place 0", x.putIn(23, 0, 0), 1);
        check.is("no place -1", x.putIn(23, -1, 0), NONE);
        check.is("no place 2", x.putIn(23, 2, 0), NONE);
    }

    private static void onePlaceAtMost() {
        check.part("2. each has a SPECIMEN or none; a SPECIMEN is in one place at most");
        SpecimenHall x = new SpecimenHall();
        x.make(4, 1, 1);
        x.make(4, 1, 1);
        x.caseOf(0, 20);
        x.caseOf(4, 20);
        for (int place = 0; place < 20; place++) {
            check.is("put", x.putIn(0, place, 0), 1);
            check.is("in one place", x.count(5), 1);
            check.is("the place ahead is empty", x.placed(0, place - 1), NONE);
            check.is("put into the other case", x.putIn(1, place, 0), 1);
            check.is("empty", x.placed(0, place), NONE);
            check.is("its case", x.told(0, 3), 1);
            check.is("its place", x.told(0, 4), place);
        }
        check.is("another", x.putIn(1, 0, 1), 1);
        check.is("two in cases", x.count(5), 2);
    }

    private static void shelvesAtFirst() {
        check.part("2. SHELVES 0 .. 9 have a KIND (0 at first) and ROOM (0 at first)");
        for (int shelf = 0; shelf < 10; shelf++) {
            SpecimenHall x = new SpecimenHall();
            int number = 0;
            for (int kind = 0; kind < 24; kind++) {
                if (!ABSTRACT.contains(kind)) {
                    x.make(kind, 0, 0);
                    check.yes("takes " + kind, x.move(number, shelf));
                    number++;
                }
            }
            x.make(2, 1, 0);
            check.no("no room", x.move(number, shelf));
            check.is("all stand", x.count(6), number);
        }
    }

    private static void sumOfLengths() {
        check.part("2. the sum of LENGTHS of those that stand there is not above ROOM");
        SpecimenHall x = new SpecimenHall();
        int[] lengths = {3, 4, 5, 6, 0, 1};
        for (int length : lengths) {
            x.make(2, length, 99);
        }
        x.shelf(0, 0, 12);
        check.yes("3", x.move(0, 0));
        check.yes("7", x.move(1, 0));
        check.no("13", x.move(3, 0));
        check.yes("12", x.move(2, 0));
        check.yes("12 and none", x.move(4, 0));
        check.no("13", x.move(5, 0));
        check.yes("less 4", x.move(1, NONE));
        check.no("14", x.move(3, 0));
        check.yes("9", x.move(5, 0));
        check.no("13", x.move(1, 0));
        check.yes("less 5", x.move(2, NONE));
        check.yes("8", x.move(1, 0));
        check.is("four stand", x.count(6), 4);
    }

    // 3. RULES

    private static void fieldsAndValues() {
        check.part("3. care 0 .. 9, shelf 0 .. 99, days 0 .. 365, fee 0 .. 1000, label 0 .. 9");
        int[] most = {9, 99, 365, 1000, 9};
        for (int f = 0; f < 5; f++) {
            int field = f;
            NEW.takesJust("value of field " + field, 0, from(0, most[field]),
                    (x, value) -> bit(x.rule(0, field, value)), 0, most[field]);
        }
        NEW.takesJust("field", 0, from(0, 4), (x, field) -> bit(x.rule(0, field, 0)), 0, 4);
    }

    private static void rulesForWhatItIsBelow() {
        check.part("3. those that are laid down for what it is BELOW count");
        for (int kind = 0; kind < 24; kind++) {
            if (!ABSTRACT.contains(kind)) {
                SpecimenHall below = new SpecimenHall();
                SpecimenHall x = hallWith(kind);
                for (int code = 0; code <= 48; code++) {
                    boolean laid = x.rule(code, 0, 5);
                    boolean counts = laid && below.below(kind, code);
                    check.is("of " + code + " for " + kind, x.asks(0, 0), counts ? 5 : NONE);
                    check.is("nearest", x.nearest(0, 0, 0), counts ? code : NONE);
                    x.unrule(code, 0);
                }
            }
        }
    }

    private static void fewestSteps() {
        check.part("3. NEAREST are those with the fewest STEPS");
        SpecimenHall x = hallWith(13);
        int[] nearer = {0, 9, 43, 10, 12, 44, 13};
        for (int code : nearer) {
            x.rule(code, 1, code);
            check.is("of " + code, x.asks(0, 1), code);
            check.is("alone", x.nearest(0, 1, 1), NONE);
        }
        x.rule(41, 1, 99);
        check.is("a farther one says nothing", x.asks(0, 1), 13);
    }

    private static void kindAlone() {
        check.part("3. if one of these is of a KIND, it alone");
        SpecimenHall x = hallWith(11, 19);
        x.rule(41, 0, 1);
        x.rule(43, 0, 2);
        check.is("two traits at one step", x.asks(0, 0), TIE);
        x.rule(10, 0, 3);
        check.is("a kind at one step", x.asks(0, 0), 3);
        check.is("it", x.nearest(0, 0, 0), 10);
        check.is("alone", x.nearest(0, 0, 1), NONE);
        x.rule(48, 0, 4);
        x.rule(19, 0, 0);
        check.is("a kind at no step", x.asks(1, 0), 0);
        check.is("alone", x.nearest(1, 0, 1), NONE);
        x.unrule(19, 0);
        check.is("the trait again", x.asks(1, 0), 4);
        x.rule(17, 0, 5);
        check.is("a kind farther up doesn't count", x.asks(1, 0), 4);
    }

    private static void lowestTraits() {
        check.part("3. else those TRAITS that have no other one of these below them");
        SpecimenHall x = hallWith(19, 23, 14, 11);
        x.rule(45, 0, 1);
        check.is("45 alone", x.nearest(0, 0, 0), 45);
        x.rule(47, 0, 2);
        check.is("47 below 45", x.nearest(0, 0, 0), 47);
        check.is("one", x.nearest(0, 0, 1), NONE);
        check.is("realgar isn't rare", x.nearest(1, 0, 0), 45);
        x.rule(46, 0, 3);
        check.is("46 below 45", x.nearest(1, 0, 0), 46);
        check.is("the dodo isn't poison", x.nearest(0, 0, 0), 47);
        x.rule(43, 0, 4);
        check.is("43 stands beside", x.nearest(0, 0, 0), 43);
        check.is("47 too", x.nearest(0, 0, 1), 47);
        check.is("43 is one step off for realgar", x.nearest(1, 0, 1), NONE);
        x.rule(48, 0, 5);
        check.is("48 below both", x.nearest(0, 0, 0), 48);
        check.is("alone", x.nearest(0, 0, 1), NONE);
        x.rule(40, 0, 6);
        check.is("kept", x.nearest(2, 0, 0), 40);
        x.rule(42, 0, 7);
        check.is("wet below kept", x.nearest(2, 0, 0), 42);
        check.is("kept and frail of the beetle", x.asks(3, 0), TIE);
        x.rule(41, 0, 4);
        check.is("dry and frail say 4", x.asks(3, 0), 4);
    }

    private static void allSayOneThing() {
        check.part("3. if all NEAREST say one thing, that is the answer; else it is a TIE");
        int[] most = {9, 99, 365, 1000, 9};
        for (int field = 0; field < 5; field++) {
            SpecimenHall x = hallWith(11);
            x.rule(41, field, 0);
            x.rule(43, field, 0);
            check.is("the least", x.asks(0, field), 0);
            x.rule(43, field, 1);
            check.is("0 and 1", x.asks(0, field), TIE);
            x.rule(41, field, 1);
            x.rule(43, field, 0);
            check.is("1 and 0", x.asks(0, field), TIE);
            x.rule(41, field, most[field]);
            check.is("the greatest and 0", x.asks(0, field), TIE);
            x.rule(43, field, most[field]);
            check.is("the greatest", x.asks(0, field), most[field]);
        }
    }

    // 4. LOANS

    private static void daysAndBorrowers() {
        check.part("4. DAYS are 0 .. 100000; a BORROWER (0 .. 19)");
        Refusals one = new Refusals(check, x -> {
            x.make(2, 1, 1);
            x.rule(0, 2, 365);
        });
        one.takesJust("day", NONE, from(0, LAST_DAY), (x, day) -> x.lend(0, 0, day), 0, LAST_DAY);
        one.takesJust("day", NONE, from(0, LAST_DAY), (x, day) -> x.overdue(day), 0, LAST_DAY);
        one.takesJust("day", NONE, from(0, LAST_DAY), (x, day) -> x.fees(0, day), 0, LAST_DAY);
        one.takesJust("borrower", NONE, from(0, 19), (x, b) -> x.lend(0, b, 0), 0, 19);
        one.takesJust("borrower", NONE, from(0, 19), (x, b) -> x.fees(b, 0), 0, 19);
    }

    private static void asTheyWereOnTheDay() {
        check.part("4. with the DAY, the TERM and the FEE (0, if there is none)");
        SpecimenHall x = hallWith(2);
        x.rule(0, 2, 1);
        check.is("lent", x.lend(0, 19, LAST_DAY), 1);
        check.is("day", x.told(0, 7), LAST_DAY);
        check.is("the least term", x.told(0, 8), 1);
        check.is("no rule for fees", x.told(0, 9), 0);
        x.rule(0, 2, 365);
        x.rule(0, 3, 1000);
        check.is("the term stays", x.told(0, 8), 1);
        check.is("the fee stays", x.told(0, 9), 0);
        x.giveBack(0, LAST_DAY);
        x.lend(0, 0, 0);
        check.is("the greatest term", x.told(0, 8), 365);
        check.is("the greatest fee", x.told(0, 9), 1000);
        x.unrule(0, 2);
        x.unrule(0, 3);
        check.is("the term stays", x.told(0, 8), 365);
        check.is("the fee stays", x.told(0, 9), 1000);
        check.is("due by these", x.giveBack(0, 366), 1000);
        check.is("no term now", x.lend(0, 0, 0), NONE);
    }

    private static void refusedByDays() {
        check.part("4. refused, if it is lent; if its rule for days is none, a TIE, or 0");
        SpecimenHall x = hallWith(11);
        check.is("none", x.lend(0, 0, 0), NONE);
        x.rule(41, 2, 0);
        check.is("0", x.lend(0, 0, 0), NONE);
        x.rule(43, 2, 1);
        check.is("a tie", x.lend(0, 0, 0), NONE);
        x.rule(41, 2, 1);
        check.is("1", x.lend(0, 0, 0), 1);
        check.is("lent", x.lend(0, 0, 0), NONE);
        check.is("lent, to another", x.lend(0, 1, 1), NONE);
        x.giveBack(0, 0);
        check.is("given back", x.lend(0, 1, 1), 1);
        check.is("two came", x.count(4), 2);
    }

    private static void refusedByFees() {
        check.part("4. refused, if its rule for fees is a TIE");
        SpecimenHall x = hallWith(11);
        x.rule(0, 2, 1);
        x.rule(41, 3, 0);
        x.rule(43, 3, 1);
        check.is("a tie", x.lend(0, 0, 0), NONE);
        x.rule(43, 3, 0);
        check.is("0", x.lend(0, 0, 0), 1);
        check.is("fee 0", x.told(0, 9), 0);
        x.giveBack(0, 0);
        x.rule(41, 3, 1000);
        check.is("a tie again", x.lend(0, 0, 0), NONE);
        x.rule(43, 3, 1000);
        check.is("1000", x.lend(0, 0, 0), 1);
        check.is("fee 1000", x.told(0, 9), 1000);
    }

    private static void refusedAboveTwelve() {
        check.part("4. refused, if the BORROWER would have more than 12");
        for (int borrower : new int[] {0, 19}) {
            SpecimenHall x = new SpecimenHall();
            x.rule(0, 2, 1);
            Halls.makeMany(x, 2, 14);
            for (int i = 0; i < 12; i++) {
                check.is("up to 12", x.lend(i, borrower, 0), 1);
            }
            check.is("13", x.lend(12, borrower, 0), NONE);
            check.is("12 stay", x.count(3), 12);
            check.is("it isn't lent", x.told(12, 6), NONE);
            check.is("another may", x.lend(12, 10, 0), 1);
            x.giveBack(0, 0);
            check.is("12 again", x.lend(13, borrower, 0), 1);
            check.is("13 again", x.lend(0, borrower, 0), NONE);
        }
    }

    private static void casesAllTogether() {
        check.part("4. a CASE is lent, all together: each is a loan of its own");
        SpecimenHall x = new SpecimenHall();
        Halls.caseWith(x, 2, 13);
        check.is("13", x.lend(1000, 0, 0), NONE);
        check.is("none is lent", x.count(3), 0);
        x.takeOut(0, 0);
        check.is("12", x.lend(1000, 0, 0), 12);
        check.is("each is a loan", x.count(4), 12);
        check.is("one is given back", x.giveBack(1, 0), 0);
        check.is("eleven are left", x.count(3), 11);
        check.is("not again", x.lend(1000, 1, 0), NONE);
        check.is("but the one", x.lend(1, 1, 0), 1);
        SpecimenHall empty = new SpecimenHall();
        Halls.caseWith(empty, 2, 0);
        check.is("one at least", empty.lend(1000, 0, 0), NONE);
        SpecimenHall one = new SpecimenHall();
        Halls.caseWith(one, 2, 1);
        check.is("one", one.lend(1000, 0, 0), 1);
    }

    private static void late() {
        check.part("4. LATE: how many DAYS it is above (0 at least)");
        SpecimenHall x = hallWith(2);
        x.rule(0, 2, 10);
        x.rule(0, 3, 1);
        x.lend(0, 0, 100);
        int[] days = {0, 99, 100, 109, 110, 111, 112};
        int[] late = {0, 0, 0, 0, 0, 1, 2};
        for (int i = 0; i < days.length; i++) {
            check.is("fee on " + days[i], x.fees(0, days[i]), late[i]);
            check.is("late on " + days[i], x.overdue(days[i]), late[i] > 0 ? 1 : 0);
            check.is("who on " + days[i], x.lateOne(days[i], 0), late[i] > 0 ? 0 : NONE);
        }
    }

    private static void due() {
        check.part("4. DUE: 30 DAYS, twice for each further one, a hundred times the FEE at most");
        for (int fee : new int[] {0, 1, 7, 1000}) {
            SpecimenHall x = hallWith(2);
            x.rule(0, 2, 1);
            x.rule(0, 3, fee);
            x.lend(0, 0, 0);
            int sum = 0;
            for (int day = 0; day <= 200; day++) {
                check.is("on " + day, x.fees(0, day), fee * Math.min(sum, 100));
                sum += day < 1 ? 0 : day <= 30 ? 1 : 2;
            }
            check.is("on the last day", x.fees(0, LAST_DAY), 100 * fee);
            check.is("given back then", x.giveBack(0, LAST_DAY), 100 * fee);
        }
    }

    private static void addedToWhatWasCharged() {
        check.part("4. what is DUE then is added to what the BORROWER was charged");
        SpecimenHall x = hallWith(2, 2);
        x.rule(0, 2, 1);
        x.rule(0, 3, 5);
        x.lend(0, 4, 0);
        x.lend(1, 4, 0);
        check.is("nothing yet", x.count(7), 0);
        check.is("in time", x.giveBack(0, 1), 0);
        check.is("nothing", x.fees(4, 1), 0);
        check.is("a day late", x.giveBack(1, 2), 5);
        check.is("charged", x.fees(4, 0), 5);
        x.lend(0, 4, 0);
        check.is("two days late", x.giveBack(0, 3), 10);
        check.is("added", x.fees(4, 0), 15);
        x.lend(0, 5, 0);
        x.giveBack(0, 2);
        check.is("not another's", x.fees(4, LAST_DAY), 15);
        check.is("his own", x.fees(5, LAST_DAY), 5);
        check.is("all", x.count(7), 20);
    }

    private static void lentStays() {
        check.part("4. what is lent can't be put, taken out of a place, moved, or changed");
        Refusals lent = new Refusals(check, x -> {
            x.make(4, 1, 1);
            x.caseOf(0, 2);
            x.putIn(0, 0, 0);
            x.shelf(0, 0, 1);
            x.shelf(1, 0, 1);
            x.move(0, 0);
            x.rule(0, 2, 1);
            x.lend(0, 0, 0);
        });
        lent.refuses("put", NONE, x -> x.putIn(0, 1, 0));
        lent.refuses("taken out", NONE, x -> x.takeOut(0, 0));
        lent.refuses("moved", 0, x -> bit(x.move(0, 1)));
        lent.refuses("moved to none", 0, x -> bit(x.move(0, NONE)));
        lent.refuses("changed", 0, x -> bit(x.convert(0, 5)));
        SpecimenHall x = lent.fresh();
        x.giveBack(0, 0);
        check.is("put", x.putIn(0, 1, 0), 1);
        check.is("taken out", x.takeOut(0, 1), 0);
        check.yes("moved", x.move(0, 1));
        check.yes("moved to none", x.move(0, NONE));
        check.yes("changed", x.convert(0, 5));
    }

    // 5. KEYS

    private static void keys() {
        check.part("5. KEYS 0 .. 9 have up to 40 questions");
        NEW.takesJust("key", NONE, from(0, 9), (x, key) -> x.question(key, 0, 0, 0, 0), 0, 9);
        for (int key = 0; key < 10; key++) {
            SpecimenHall x = new SpecimenHall();
            Halls.askMany(x, key, 39);
            check.is("the 40th of " + key, x.question(key, 0, 0, 0, 0), 40);
            check.is("no 41st of " + key, x.question(key, 0, 0, 0, 0), NONE);
            check.is("of the next", x.question((key + 1) % 10, 0, 0, 0, 0), 1);
        }
    }

    private static void questionsAsTheyCome() {
        check.part("5. numbered from 0 on as they come");
        SpecimenHall x = hallWith(2);
        check.is("0", x.question(0, 0, 0, 201, NONE), 1);
        check.is("refused", x.question(0, 0, 0, 201, NONE), NONE);
        check.is("1", x.question(0, 0, 0, 202, NONE), 2);
        check.is("2", x.question(0, 0, 0, 40, NONE), 3);
        check.is("through all", x.name(0, 0), 40);
        check.is("three asked", x.asked(), 3);
    }

    private static void asksWhetherBelow() {
        check.part("5. each asks whether the SPECIMEN is BELOW a KIND or TRAIT");
        SpecimenHall below = new SpecimenHall();
        for (int kind : new int[] {2, 13, 19, 23}) {
            for (int code = 0; code <= 48; code++) {
                SpecimenHall x = hallWith(kind);
                if (x.question(0, code, 0, 1, 2) == 1) {
                    check.is(kind + " asked for " + code, x.name(0, 0),
                            below.below(kind, code) ? 1 : 2);
                }
            }
        }
    }

    private static void asksAtLeast() {
        check.part("5. or whether its LENGTH (60) or WEIGHT (61) is at least a number");
        int[] numbers = {0, 1, 49, 50, 51, 99999, LAST_DAY};
        for (int number : numbers) {
            SpecimenHall x = new SpecimenHall();
            for (int measure : numbers) {
                x.make(2, measure, LAST_DAY - measure);
            }
            x.question(0, 60, number, 1, 2);
            x.question(1, 61, number, 1, 2);
            for (int i = 0; i < numbers.length; i++) {
                check.is("length " + numbers[i] + " at least " + number, x.name(0, i),
                        numbers[i] >= number ? 1 : 2);
                check.is("weight at least " + number, x.name(1, i),
                        LAST_DAY - numbers[i] >= number ? 1 : 2);
            }
        }
    }

    private static void tellsHigherNumbers() {
        check.part("5. it tells a question of a higher number (it may not have come yet)");
        for (int number = 0; number < 40; number++) {
            int own = number;
            Refusals key = new Refusals(check, x -> Halls.askMany(x, 7, own));
            for (int told : new int[] {199, 200, 199 + own, 200 + own, 240, 241}) {
                if (told < 201 + own || told > 239) {
                    key.refuses(own + " tells " + told, NONE, x -> x.question(7, 0, 0, told, 0));
                    key.refuses(own + " tells " + told, NONE, x -> x.question(7, 0, 0, 0, told));
                }
            }
            int due = own < 39 ? own + 1 : NONE;
            check.is("the next", key.fresh().question(7, 0, 0, 201 + own, NONE), due);
            check.is("the last", key.fresh().question(7, 0, 0, NONE, 239), due);
        }
    }

    private static void fromQuestionZeroOn() {
        check.part("5. from question 0 on, till a name or NONE comes, or one that isn't there");
        SpecimenHall x = hallWith(2);
        check.is("no question 0", x.name(0, 0), NONE);
        check.is("none asked", x.asked(), 0);
        x.question(0, 0, 0, 203, NONE);
        check.is("no question 3", x.name(0, 0), NONE);
        check.is("one asked", x.asked(), 1);
        x.question(0, 0, 0, 5, 5);
        x.question(0, 0, 0, 6, 6);
        check.is("still none", x.name(0, 0), NONE);
        check.is("one asked", x.asked(), 1);
        x.question(0, 4, 0, 7, 204);
        check.is("no question 4", x.name(0, 0), NONE);
        check.is("two asked", x.asked(), 2);
        x.question(0, 4, 0, 7, NONE);
        check.is("NONE comes", x.name(0, 0), NONE);
        check.is("three asked", x.asked(), 3);
        x.question(1, 0, 0, 0, NONE);
        check.is("the kind 0 is a name", x.name(1, 0), 0);
        check.is("one asked", x.asked(), 1);
    }
}
