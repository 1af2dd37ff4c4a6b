/** For each promise of the document: ordinary inputs, the edges it names, wrong inputs. */
public final class PromiseTest {
    private static final int NONE = SpecimenHall.NONE;
    private static final int LOW = Integer.MIN_VALUE;
    private static final int HIGH = Integer.MAX_VALUE;
    private static final int[] NO_NUMBERS = {-1, -2, LOW, HIGH};

    private static final Check check = new Check("PromiseTest");

    public static void main(String[] args) {
        promise1();
        promise2();
        promise3();
        promise4();
        promise5();
        promise6();
        promise7();
        promise8();
        promise9();
        promise10();
        promise11();
        promise12();
        promise13();
        promise14();
        promise15();
        promise15OfKindsAndSteps();
        promise16();
        promise16OfCases();
        promise16OfAllBorrowers();
        promise17();
        promise18();
        promise19();
        promise20();
        promise21();
        promise22();
        promise23();
        promise24();
        promise24OfPlaces();
        promise25();
        promise26();
        promise27();
        promise28();
        promise29();
        check.end();
    }

    private static void promise1() {
        check.part("promise 1");
        check.is("NONE", SpecimenHall.NONE, -1);
        SpecimenHall x = new SpecimenHall();
        for (int what = 0; what < 8; what++) {
            check.is("count", x.count(what), 0);
        }
        check.is("asked", x.asked(), 0);
        check.is("told", x.told(0, 0), NONE);
        check.is("placed", x.placed(0, 0), NONE);
        check.is("find", x.find(0, 0, 100000), 0);
        check.is("fees", x.fees(0, 0), 0);
        check.is("make", x.make(2, 0, 0), 0);
        for (int field = 0; field < 5; field++) {
            check.is("asks", x.asks(0, field), NONE);
        }
        SpecimenHall y = new SpecimenHall();
        check.is("another object is new", y.count(0), 0);
    }

    private static void promise2() {
        check.part("promise 2");
        SpecimenHall x = new SpecimenHall();
        int[] abstracts = {0, 1, 3, 9, 10, 17, 20};
        for (int kind : abstracts) {
            check.is("abstract", x.make(kind, 1, 1), NONE);
        }
        int[] noKinds = {-1, 24, 39, 40, 48, 49, 100, 104, LOW, HIGH};
        for (int kind : noKinds) {
            check.is("no kind", x.make(kind, 1, 1), NONE);
        }
        int[] concretes = {2, 4, 5, 6, 7, 8, 11, 12, 13, 14, 15, 16, 18, 19, 21, 22, 23};
        int due = 0;
        for (int kind : concretes) {
            check.is("concrete", x.make(kind, 1, 1), due);
            check.is("kind", x.told(due, 0), kind);
            due++;
        }
        check.is("length 0, weight most", x.make(2, 0, 100000), due);
        check.is("length most, weight 0", x.make(2, 100000, 0), due + 1);
        int[] noMeasures = {-1, 100001, LOW, HIGH};
        for (int measure : noMeasures) {
            check.is("length", x.make(2, measure, 1), NONE);
            check.is("weight", x.make(2, 1, measure), NONE);
        }
        for (int number = due + 2; number < 300; number++) {
            check.is("number", x.make(2, 1, 1), number);
        }
        check.is("300 came", x.make(2, 1, 1), NONE);
        check.is("300 stay", x.count(0), 300);
        check.is("the last", x.told(299, 0), 2);
        check.is("none beyond", x.told(300, 0), NONE);
    }

    private static void promise3() {
        check.part("promise 3");
        SpecimenHall x = new SpecimenHall();
        int[] noKinds = {-1, 24, 40, 41, 48, 103, LOW, HIGH};
        for (int kind : noKinds) {
            check.is("no kind", x.caseOf(kind, 5), NONE);
        }
        int[] noSizes = {0, -1, 21, LOW, HIGH};
        for (int n : noSizes) {
            check.is("no n", x.caseOf(0, n), NONE);
        }
        check.is("refused ones don't come", x.count(1), 0);
        for (int kind = 0; kind < 24; kind++) {
            check.is("of any kind", x.caseOf(kind, kind % 20 + 1), kind);
        }
        for (int number = 24; number < 40; number++) {
            check.is("number", x.caseOf(0, 20), number);
        }
        check.is("40 came", x.caseOf(0, 1), NONE);
        x.make(2, 1, 1);
        check.is("the last place", x.putIn(39, 19, 0), 1);
        check.is("behind the last place", x.putIn(39, 20, 0), NONE);
        check.is("one place has it alone", x.putIn(0, 1, 0), NONE);
        check.is("the one place", x.putIn(0, 0, 0), 1);
    }

    private static void promise4() {
        check.part("promise 4");
        SpecimenHall x = new SpecimenHall();
        x.caseOf(3, 2);
        x.caseOf(1, 2);
        x.make(4, 1, 1);
        x.make(7, 1, 1);
        check.is("put", x.putIn(0, 1, 0), 1);
        check.is("its own place is taken", x.putIn(0, 1, 0), NONE);
        check.is("taken asked first", x.putIn(0, 1, 1), NONE);
        check.is("not of the kind", x.putIn(0, 0, 1), -2);
        check.is("it has not moved", x.placed(0, 0), NONE);
        check.is("within a case", x.putIn(0, 0, 0), 1);
        check.is("out of where it was", x.placed(0, 1), NONE);
        check.is("to another case", x.putIn(1, 1, 0), 1);
        check.is("out of the other case", x.placed(0, 0), NONE);
        check.is("one is in a case", x.count(5), 1);
        for (int no : NO_NUMBERS) {
            check.is("no case", x.putIn(no, 0, 1), NONE);
            check.is("no place", x.putIn(1, no, 1), NONE);
            check.is("no specimen", x.putIn(1, 0, no), NONE);
        }
        check.is("no case yet", x.putIn(2, 0, 1), NONE);
        check.is("no place there", x.putIn(1, 2, 1), NONE);
        check.is("no specimen yet", x.putIn(1, 0, 2), NONE);
        x.rule(0, 2, 5);
        x.lend(1, 0, 0);
        check.is("lent asked ahead of the kind", x.putIn(0, 0, 1), NONE);
        check.is("lent", x.putIn(1, 0, 1), NONE);
        x.giveBack(1, 0);
        check.is("given back", x.putIn(1, 0, 1), 1);
        x.lend(0, 0, 0);
        check.is("lent stays in its place", x.putIn(0, 0, 0), NONE);
        check.is("and is there", x.placed(1, 1), 0);
    }

    private static void promise5() {
        check.part("promise 5");
        SpecimenHall x = new SpecimenHall();
        x.caseOf(0, 2);
        x.make(2, 1, 1);
        x.make(2, 1, 1);
        x.putIn(0, 1, 1);
        check.is("empty", x.takeOut(0, 0), NONE);
        check.is("taken out", x.takeOut(0, 1), 1);
        check.is("again", x.takeOut(0, 1), NONE);
        check.is("no case told", x.told(1, 3), NONE);
        check.is("no place told", x.told(1, 4), NONE);
        check.is("none in cases", x.count(5), 0);
        for (int no : NO_NUMBERS) {
            check.is("no case", x.takeOut(no, 0), NONE);
            check.is("no place", x.takeOut(0, no), NONE);
        }
        check.is("behind the last", x.takeOut(0, 2), NONE);
        x.putIn(0, 0, 1);
        x.rule(0, 2, 5);
        x.lend(1, 3, 3);
        check.is("lent", x.takeOut(0, 0), NONE);
        check.is("still there", x.placed(0, 0), 1);
        x.giveBack(1, 3);
        check.is("given back", x.takeOut(0, 0), 1);
    }

    private static void promise6() {
        check.part("promise 6");
        SpecimenHall x = new SpecimenHall();
        x.caseOf(0, 20);
        x.make(2, 1, 1);
        x.make(4, 1, 1);
        x.putIn(0, 19, 1);
        x.putIn(0, 0, 0);
        check.is("last", x.placed(0, 19), 1);
        check.is("first", x.placed(0, 0), 0);
        check.is("empty", x.placed(0, 1), NONE);
        check.is("behind", x.placed(0, 20), NONE);
        check.is("no case", x.placed(1, 0), NONE);
        for (int no : NO_NUMBERS) {
            check.is("no case", x.placed(no, 0), NONE);
            check.is("no place", x.placed(0, no), NONE);
        }
    }

    private static void promise7() {
        check.part("promise 7");
        SpecimenHall x = new SpecimenHall();
        x.caseOf(0, 1);
        x.caseOf(0, 8);
        x.make(2, 1, 1);
        x.make(4, 30, 7);
        for (int what = 3; what <= 9; what++) {
            check.is("without", x.told(1, what), NONE);
        }
        x.putIn(1, 6, 1);
        x.shelf(9, 1, 30);
        x.move(1, 9);
        x.rule(4, 2, 14);
        x.rule(4, 3, 11);
        x.lend(1, 19, 77);
        int[] due = {4, 30, 7, 1, 6, 9, 19, 77, 14, 11};
        for (int what = 0; what < due.length; what++) {
            check.is("what " + what, x.told(1, what), due[what]);
        }
        x.rule(4, 2, 15);
        x.unrule(4, 3);
        check.is("the term of the day", x.told(1, 8), 14);
        check.is("the fee of the day", x.told(1, 9), 11);
        x.giveBack(1, 80);
        for (int what = 6; what <= 9; what++) {
            check.is("given back", x.told(1, what), NONE);
        }
        check.is("the case stays", x.told(1, 3), 1);
        check.is("the shelf stays", x.told(1, 5), 9);
        check.is("no such what", x.told(1, 10), NONE);
        check.is("no such specimen", x.told(2, 0), NONE);
        for (int no : NO_NUMBERS) {
            check.is("no what", x.told(1, no), NONE);
            check.is("no specimen", x.told(no, 0), NONE);
        }
        x.lend(1, 0, 0);
        check.is("borrower 0", x.told(1, 6), 0);
        check.is("day 0", x.told(1, 7), 0);
        check.is("no rule, fee 0", x.told(1, 9), 0);
    }

    private static void promise8() {
        check.part("promise 8");
        SpecimenHall x = new SpecimenHall();
        check.yes("itself", x.below(0, 0));
        check.yes("itself, a trait", x.below(48, 48));
        check.yes("kind under kind", x.below(13, 9));
        check.no("kind above", x.below(9, 13));
        check.no("siblings", x.below(4, 5));
        check.yes("trait under trait", x.below(48, 45));
        check.yes("trait of two", x.below(48, 43));
        check.no("trait above", x.below(45, 48));
        check.no("other trait", x.below(48, 40));
        check.yes("named", x.below(19, 48));
        check.yes("named by one above", x.below(13, 41));
        check.yes("extended by what one above names", x.below(13, 40));
        check.no("named by one below", x.below(12, 44));
        check.no("a trait is under no kind", x.below(48, 19));
        check.no("nor under the first", x.below(41, 0));
        check.no("fish isn't dry", x.below(14, 41));
        check.yes("cases", x.below(113, 109));
        check.yes("case of a trait", x.below(113, 144));
        check.yes("cases of traits", x.below(148, 143));
        check.no("cases the other way", x.below(109, 113));
        check.no("case of a trait is under no case of a kind", x.below(148, 119));
        check.no("case and kind", x.below(113, 9));
        check.no("kind and case", x.below(13, 109));
        int[] none = {-1, 24, 39, 49, 60, 99, 124, 139, 149, 200, LOW, HIGH, LOW + 100};
        for (int code : none) {
            check.no("none below", x.below(code, 0));
            check.no("none above", x.below(4, code));
            check.no("none below a case", x.below(code, 100));
            check.no("none above a case", x.below(104, code));
            check.no("none itself", x.below(code, code));
        }
    }

    private static void promise9() {
        check.part("promise 9");
        SpecimenHall x = new SpecimenHall();
        check.is("itself", x.steps(13, 13), 0);
        check.is("parent", x.steps(13, 12), 1);
        check.is("first", x.steps(13, 0), 4);
        check.is("of the first", x.steps(0, 0), 0);
        check.is("not above", x.steps(12, 13), NONE);
        check.is("named", x.steps(13, 44), 0);
        check.is("named two up", x.steps(13, 41), 2);
        check.is("extended two up", x.steps(13, 40), 2);
        check.is("nearest of two: 3 and 19 would name it", x.steps(19, 43), 0);
        check.is("5 names what brings 45", x.steps(5, 45), 0);
        check.is("5 has frail of 3", x.steps(5, 43), 1);
        check.is("23 has frail of 21", x.steps(23, 43), 1);
        check.is("19 has kept of 17", x.steps(19, 40), 1);
        check.is("no trait above", x.steps(9, 40), NONE);
        check.is("a trait has no steps", x.steps(41, 40), NONE);
        check.is("no cases", x.steps(104, 103), NONE);
        check.is("no case above", x.steps(4, 103), NONE);
        int[] none = {-1, 24, 39, 49, 60, 100, LOW, HIGH};
        for (int code : none) {
            check.is("from none", x.steps(code, 0), NONE);
            check.is("to none", x.steps(4, code), NONE);
            check.is("none to itself", x.steps(code, code), NONE);
        }
    }

    private static void promise10() {
        check.part("promise 10");
        SpecimenHall x = new SpecimenHall();
        check.is("itself", x.common(13, 13), 13);
        check.is("one is above", x.common(13, 12), 12);
        check.is("one is above, other way", x.common(12, 13), 12);
        check.is("siblings", x.common(4, 5), 3);
        check.is("cousins", x.common(13, 11), 10);
        check.is("far", x.common(13, 8), 0);
        check.is("the first", x.common(0, 0), 0);
        int[] none = {-1, 24, 40, 48, 100, 104, LOW, HIGH};
        for (int code : none) {
            check.is("a none", x.common(code, 4), NONE);
            check.is("b none", x.common(4, code), NONE);
            check.is("both none", x.common(code, code), NONE);
        }
    }

    private static void promise11() {
        check.part("promise 11");
        SpecimenHall x = new SpecimenHall();
        check.is("dodo alone: dry", x.commonTrait(19, 19, 0), 41);
        check.is("dodo alone: extinct", x.commonTrait(19, 19, 1), 48);
        check.is("dodo alone: no more", x.commonTrait(19, 19, 2), NONE);
        check.is("kept of dry and wet", x.commonTrait(11, 14, 0), 40);
        check.is("and no more", x.commonTrait(11, 14, 1), NONE);
        check.is("watched of poison and rare", x.commonTrait(23, 22, 1), 45);
        check.is("dry of both", x.commonTrait(23, 22, 0), 41);
        check.is("frail of both by two ways", x.commonTrait(19, 21, 1), 43);
        check.is("none", x.commonTrait(9, 4, 0), NONE);
        int[] none = {-1, 24, 41, 48, 104, LOW, HIGH};
        for (int code : none) {
            check.is("a none", x.commonTrait(code, 4, 0), NONE);
            check.is("b none", x.commonTrait(4, code, 0), NONE);
            check.is("both none", x.commonTrait(code, code, 0), NONE);
        }
        for (int no : NO_NUMBERS) {
            check.is("no k", x.commonTrait(4, 4, no), NONE);
        }
    }

    private static void promise12() {
        check.part("promise 12");
        SpecimenHall x = new SpecimenHall();
        x.make(4, 1, 1);
        int[] most = {9, 99, 365, 1000, 9};
        for (int field = 0; field < 5; field++) {
            check.yes("most", x.rule(4, field, most[field]));
            check.is("said", x.asks(0, field), most[field]);
            check.no("above most", x.rule(4, field, most[field] + 1));
            check.no("below 0", x.rule(4, field, -1));
            check.no("far above", x.rule(4, field, HIGH));
            check.no("far below", x.rule(4, field, LOW));
            check.is("unchanged", x.asks(0, field), most[field]);
            check.yes("in its place", x.rule(4, field, 0));
            check.is("0 is said", x.asks(0, field), 0);
        }
        check.is("one each", x.count(2), 5);
        check.no("field 5", x.rule(4, 5, 0));
        for (int no : NO_NUMBERS) {
            check.no("no field", x.rule(4, no, 0));
            check.no("no code", x.rule(no, 0, 0));
        }
        int[] none = {24, 39, 49, 60, 100, 104, 140};
        for (int code : none) {
            check.no("no code", x.rule(code, 0, 0));
        }
        check.is("none came", x.count(2), 5);
        for (int code = 0; code < 49; code++) {
            if (code < 24 || code >= 40) {
                check.yes("every kind and trait", x.rule(code, 0, 1));
            }
        }
        check.is("33 of a field, and four", x.count(2), 37);
    }

    private static void promise13() {
        check.part("promise 13");
        SpecimenHall x = new SpecimenHall();
        x.make(4, 1, 1);
        check.no("none there", x.unrule(4, 0));
        x.rule(4, 0, 3);
        x.rule(43, 0, 5);
        check.no("of another field", x.unrule(4, 1));
        check.no("of another code", x.unrule(3, 0));
        check.yes("taken away", x.unrule(4, 0));
        check.is("the next is nearest", x.asks(0, 0), 5);
        check.no("twice", x.unrule(4, 0));
        check.yes("a trait's", x.unrule(43, 0));
        check.is("none left", x.count(2), 0);
        check.is("none says", x.asks(0, 0), NONE);
        check.yes("again laid down", x.rule(4, 0, 2));
        check.is("says anew", x.asks(0, 0), 2);
        int[] none = {-1, 24, 39, 49, 64, 68, 104, LOW, HIGH};
        for (int code : none) {
            check.no("no code", x.unrule(code, 0));
        }
        check.no("no field", x.unrule(4, 5));
        for (int no : NO_NUMBERS) {
            check.no("no field", x.unrule(4, no));
        }
        check.is("still there", x.count(2), 1);
    }

    private static void promise14() {
        check.part("promise 14");
        SpecimenHall x = new SpecimenHall();
        x.make(19, 1, 1);
        x.rule(0, 1, 10);
        check.is("of the first kind", x.asks(0, 1), 10);
        x.rule(41, 1, 20);
        check.is("trait one step up", x.asks(0, 1), 20);
        x.rule(43, 1, 30);
        check.is("trait no step up", x.asks(0, 1), 30);
        x.rule(45, 1, 40);
        check.is("two of one step", x.asks(0, 1), -2);
        x.rule(45, 1, 30);
        check.is("two say one thing", x.asks(0, 1), 30);
        x.rule(47, 1, 50);
        check.is("47 hides 45, not 43", x.asks(0, 1), -2);
        x.rule(48, 1, 60);
        check.is("48 hides all", x.asks(0, 1), 60);
        x.rule(19, 1, 0);
        check.is("its kind", x.asks(0, 1), 0);
        check.is("other field", x.asks(0, 0), NONE);
        check.is("no field", x.asks(0, 5), NONE);
        check.is("no specimen", x.asks(1, 1), NONE);
        for (int no : NO_NUMBERS) {
            check.is("no field", x.asks(0, no), NONE);
            check.is("no specimen", x.asks(no, 1), NONE);
        }
        x.rule(44, 2, 5);
        x.rule(18, 2, 5);
        check.is("what it isn't below says nothing", x.asks(0, 2), NONE);
    }

    private static void promise15() {
        check.part("promise 15");
        SpecimenHall x = new SpecimenHall();
        x.make(19, 1, 1);
        x.make(11, 1, 1);
        check.is("none", x.nearest(0, 4, 0), NONE);
        x.rule(48, 4, 1);
        x.rule(47, 4, 1);
        check.is("the lower one", x.nearest(0, 4, 0), 48);
        check.is("alone", x.nearest(0, 4, 1), NONE);
        x.unrule(48, 4);
        x.rule(45, 4, 2);
        x.rule(43, 4, 1);
        check.is("by numbers", x.nearest(0, 4, 0), 43);
        check.is("second", x.nearest(0, 4, 1), 47);
        check.is("no third", x.nearest(0, 4, 2), NONE);
        x.rule(41, 4, 9);
        x.rule(40, 4, 9);
        check.is("dry hides kept", x.nearest(1, 4, 0), 41);
        check.is("frail of the same step", x.nearest(1, 4, 1), 43);
        check.is("no third of the beetle", x.nearest(1, 4, 2), NONE);
        check.is("they tie", x.asks(1, 4), -2);
        x.rule(10, 4, 4);
        check.is("the kind alone", x.nearest(1, 4, 0), 10);
        check.is("no trait with it", x.nearest(1, 4, 1), NONE);
        for (int no : NO_NUMBERS) {
            check.is("no specimen", x.nearest(no, 4, 0), NONE);
            check.is("no field", x.nearest(0, no, 0), NONE);
            check.is("no k", x.nearest(0, 4, no), NONE);
        }
        check.is("no specimen yet", x.nearest(2, 4, 0), NONE);
        check.is("no fifth field", x.nearest(0, 5, 0), NONE);
    }

    private static void promise15OfKindsAndSteps() {
        check.part("promise 15, steps");
        SpecimenHall x = new SpecimenHall();
        x.make(23, 1, 1);
        x.rule(20, 0, 1);
        x.rule(41, 0, 2);
        check.is("kind ahead of trait at two steps", x.nearest(0, 0, 0), 20);
        x.rule(43, 0, 3);
        check.is("trait at one step", x.nearest(0, 0, 0), 43);
        x.rule(21, 0, 4);
        check.is("kind at one step", x.nearest(0, 0, 0), 21);
        x.rule(45, 0, 5);
        check.is("trait at no step", x.nearest(0, 0, 0), 45);
        x.rule(46, 0, 6);
        check.is("lower trait at no step", x.nearest(0, 0, 0), 46);
        x.rule(23, 0, 7);
        check.is("kind at no step", x.nearest(0, 0, 0), 23);
        check.yes("revised", x.convert(0, 21));
        check.is("now from another kind", x.nearest(0, 0, 0), 21);
    }

    private static void promise16() {
        check.part("promise 16");
        SpecimenHall x = new SpecimenHall();
        x.make(19, 1, 1);
        x.make(4, 1, 1);
        check.is("no rule for days", x.lend(0, 0, 0), NONE);
        x.rule(19, 2, 0);
        check.is("0 days", x.lend(0, 0, 0), NONE);
        x.unrule(19, 2);
        x.rule(43, 2, 1);
        x.rule(47, 2, 2);
        check.is("a tie for days", x.lend(0, 0, 0), NONE);
        x.rule(19, 2, 365);
        x.rule(43, 3, 1);
        x.rule(47, 3, 2);
        check.is("a tie for fees", x.lend(0, 0, 0), NONE);
        x.rule(47, 3, 1);
        check.is("borrower 20", x.lend(0, 20, 0), NONE);
        check.is("day too high", x.lend(0, 0, 100001), NONE);
        check.is("no specimen", x.lend(2, 0, 0), NONE);
        check.is("no case", x.lend(1000, 0, 0), NONE);
        for (int no : NO_NUMBERS) {
            check.is("no thing", x.lend(no, 0, 0), NONE);
            check.is("no borrower", x.lend(0, no, 0), NONE);
            check.is("no day", x.lend(0, 0, no), NONE);
        }
        check.is("none came", x.count(4), 0);
        check.is("lent", x.lend(0, 19, 100000), 1);
        check.is("term", x.told(0, 8), 365);
        check.is("fee", x.told(0, 9), 1);
        check.is("lent already", x.lend(0, 18, 100000), NONE);
        check.is("borrower stays", x.told(0, 6), 19);
        check.is("a loan more", x.lend(1, 19, 0), 1);
        check.is("two came", x.count(4), 2);
        check.is("given back on the last day", x.giveBack(0, 100000), 0);
        check.is("lent once more", x.lend(0, 2, 5), 1);
        check.is("three came", x.count(4), 3);
        check.is("two are open", x.count(3), 2);
    }

    private static void promise16OfCases() {
        check.part("promise 16, cases");
        SpecimenHall x = new SpecimenHall();
        x.rule(9, 2, 3);
        x.caseOf(9, 20);
        check.is("an empty case", x.lend(1000, 0, 0), NONE);
        for (int i = 0; i < 13; i++) {
            x.make(11, 1, 1);
            x.putIn(0, i + 4, i);
        }
        check.is("13 at once", x.lend(1000, 0, 0), NONE);
        check.is("none of them is lent", x.count(3), 0);
        x.takeOut(0, 16);
        check.is("12 at once", x.lend(1000, 0, 7), 12);
        check.is("each is a loan", x.count(3), 12);
        check.is("each has its day", x.told(11, 7), 7);
        check.is("the one outside isn't", x.told(12, 6), NONE);
        check.is("no 13th", x.lend(12, 0, 0), NONE);
        check.is("another borrower may", x.lend(12, 1, 0), 1);
        check.is("a case with lent ones", x.lend(1000, 2, 0), NONE);
        for (int i = 0; i < 11; i++) {
            x.giveBack(i, 7);
        }
        check.is("one is still lent", x.lend(1000, 2, 8), NONE);
        check.is("none of it came", x.count(3), 2);
        x.giveBack(11, 7);
        check.is("12 to one who has 1", x.lend(1000, 1, 8), NONE);
        x.takeOut(0, 4);
        check.is("11 to one who has 1", x.lend(1000, 1, 8), 11);
        check.is("case 1 isn't there", x.lend(1001, 3, 8), NONE);
        check.is("no thing of 999", x.lend(999, 3, 8), NONE);
        x.caseOf(0, 2);
        x.make(11, 1, 1);
        x.make(4, 1, 1);
        x.putIn(1, 0, 13);
        x.putIn(1, 1, 14);
        check.is("one has no days", x.lend(1001, 4, 8), NONE);
        check.is("so the other isn't lent", x.told(13, 6), NONE);
        x.rule(4, 2, 9);
        check.is("each by its own rule", x.lend(1001, 4, 8), 2);
        check.is("term of the beetle", x.told(13, 8), 3);
        check.is("term of the rose", x.told(14, 8), 9);
    }

    private static void promise16OfAllBorrowers() {
        check.part("promise 16, all borrowers");
        SpecimenHall x = new SpecimenHall();
        x.rule(0, 2, 1);
        x.rule(0, 3, 1);
        for (int i = 0; i < 241; i++) {
            x.make(11, i, 1);
        }
        for (int i = 239; i >= 0; i--) {
            check.is("lent", x.lend(i, i % 20, 240 - i), 1);
        }
        check.is("all have 12", x.lend(240, 19, 0), NONE);
        check.is("open", x.count(3), 240);
        check.is("late", x.overdue(1000), 240);
        check.is("the latest lent", x.lateOne(1000, 239), 0);
        check.is("no more", x.lateOne(1000, 240), NONE);
        check.is("each has 12 fees to pay", x.fees(19, 1000), 1200);
        check.is("the first lent", x.giveBack(239, 1000), 100);
        check.is("the last in the row", x.giveBack(0, 242), 1);
        check.is("no more late", x.overdue(1000), 238);
        check.is("in its stead", x.lend(240, 19, 0), 1);
        check.is("ahead of all", x.lateOne(1000, 0), 240);
        check.is("and 239 in all", x.lateOne(1000, 238), 1);
    }

    private static void promise17() {
        check.part("promise 17");
        SpecimenHall x = new SpecimenHall();
        x.make(4, 1, 1);
        x.rule(4, 2, 10);
        x.rule(4, 3, 3);
        check.is("not lent", x.giveBack(0, 5), NONE);
        int[] back = {100, 110, 111, 140, 141, 174, 175, 176, 100000};
        int[] due = {0, 0, 3, 90, 96, 294, 300, 300, 300};
        int sum = 0;
        for (int i = 0; i < back.length; i++) {
            x.lend(0, 5, 100);
            check.is("ahead of the day", x.giveBack(0, 99), NONE);
            check.is("no such day", x.giveBack(0, 100001), NONE);
            for (int no : NO_NUMBERS) {
                check.is("no day", x.giveBack(0, no), NONE);
                check.is("no specimen", x.giveBack(no, 200), NONE);
            }
            check.is("day " + back[i], x.giveBack(0, back[i]), due[i]);
            sum += due[i];
            check.is("charged", x.fees(5, 0), sum);
            check.is("twice", x.giveBack(0, back[i]), NONE);
        }
        check.is("nothing for others", x.fees(4, 100000), 0);
        check.is("no specimen yet", x.giveBack(1, 200), NONE);
    }

    private static void promise18() {
        check.part("promise 18");
        SpecimenHall x = new SpecimenHall();
        x.rule(0, 2, 365);
        x.make(4, 1, 1);
        x.make(4, 1, 1);
        check.is("none lent", x.overdue(0), 0);
        x.lend(0, 0, 100);
        x.lend(1, 1, 300);
        check.is("ahead of all", x.overdue(0), 0);
        check.is("the last day", x.overdue(465), 0);
        check.is("the day behind", x.overdue(466), 1);
        check.is("the other's last", x.overdue(665), 1);
        check.is("both", x.overdue(666), 2);
        check.is("the end", x.overdue(100000), 2);
        check.is("beyond", x.overdue(100001), NONE);
        for (int no : NO_NUMBERS) {
            check.is("no day", x.overdue(no), NONE);
        }
        x.giveBack(0, 500);
        check.is("given back", x.overdue(666), 1);
    }

    private static void promise19() {
        check.part("promise 19");
        SpecimenHall x = new SpecimenHall();
        x.rule(4, 2, 10);
        x.rule(5, 2, 20);
        int[] kinds = {4, 5, 4, 5, 4};
        int[] days = {50, 40, 30, 10, 30};
        for (int i = 0; i < kinds.length; i++) {
            x.make(kinds[i], 1, 1);
        }
        int[] lendOrder = {4, 0, 1, 3, 2};
        for (int i : lendOrder) {
            check.is("lent", x.lend(i, i, days[i]), 1);
        }
        // last days: 60, 60, 40, 30, 40
        int[] due = {3, 2, 4, 0, 1};
        for (int i = 0; i < due.length; i++) {
            check.is("all late", x.lateOne(61, i), due[i]);
        }
        check.is("no sixth", x.lateOne(61, 5), NONE);
        check.is("on the last day of 0 and 1", x.lateOne(60, 2), 4);
        check.is("they aren't late then", x.lateOne(60, 3), NONE);
        check.is("none late", x.lateOne(30, 0), NONE);
        check.is("one late", x.lateOne(31, 0), 3);
        for (int no : NO_NUMBERS) {
            check.is("no i", x.lateOne(61, no), NONE);
            check.is("no day", x.lateOne(no, 0), NONE);
        }
        check.is("beyond", x.lateOne(100001, 0), NONE);
        check.is("the end", x.lateOne(100000, 4), 1);
        x.giveBack(2, 61);
        check.is("without 2", x.lateOne(61, 1), 4);
        check.is("without 2, next", x.lateOne(61, 2), 0);
        check.is("four left", x.lateOne(61, 4), NONE);
        x.giveBack(3, 61);
        check.is("without 3", x.lateOne(61, 0), 4);
    }

    private static void promise20() {
        check.part("promise 20");
        SpecimenHall x = new SpecimenHall();
        x.rule(0, 2, 5);
        x.rule(4, 3, 1000);
        x.rule(5, 3, 1);
        x.make(4, 1, 1);
        x.make(5, 1, 1);
        x.make(7, 1, 1);
        x.lend(0, 7, 0);
        x.lend(1, 7, 10);
        x.lend(2, 7, 0);
        check.is("none late", x.fees(7, 5), 0);
        check.is("one late", x.fees(7, 6), 1000);
        check.is("two late", x.fees(7, 16), 11001);
        check.is("most", x.fees(7, 100000), 100100);
        check.is("another's", x.fees(6, 100000), 0);
        x.rule(4, 3, 1);
        check.is("the fee of the day", x.fees(7, 6), 1000);
        x.giveBack(0, 40);
        check.is("charged, whatever the day", x.fees(7, 0), 40000);
        check.is("charged and due", x.fees(7, 17), 40002);
        check.is("no borrower", x.fees(20, 0), NONE);
        check.is("beyond", x.fees(7, 100001), NONE);
        for (int no : NO_NUMBERS) {
            check.is("no borrower", x.fees(no, 0), NONE);
            check.is("no day", x.fees(7, no), NONE);
        }
        check.is("asking charges nothing", x.count(7), 40000);
    }

    private static void promise21() {
        check.part("promise 21");
        SpecimenHall x = new SpecimenHall();
        int[] noCodes = {-1, 24, 39, 49, 59, 62, 100, 104, 200, 240, LOW, HIGH};
        for (int code : noCodes) {
            check.is("asks for none", x.question(0, code, 0, 1, 1), NONE);
        }
        int[] noAnswers = {-2, 24, 39, 49, 60, 61, 104, 199, 200, 240, 241, LOW, HIGH};
        for (int code : noAnswers) {
            check.is("no yes", x.question(0, 4, 0, code, 1), NONE);
            check.is("no no", x.question(0, 4, 0, 1, code), NONE);
        }
        int[] noNumbers = {1, -1, 100000, LOW, HIGH};
        for (int number : noNumbers) {
            check.is("a number with a kind", x.question(0, 4, number, 1, 1), NONE);
            check.is("a number with a trait", x.question(0, 48, number, 1, 1), NONE);
        }
        int[] noLengths = {-1, 100001, LOW, HIGH};
        for (int number : noLengths) {
            check.is("no length", x.question(0, 60, number, 1, 1), NONE);
            check.is("no weight", x.question(0, 61, number, 1, 1), NONE);
        }
        check.is("key 10", x.question(10, 4, 0, 1, 1), NONE);
        for (int no : NO_NUMBERS) {
            check.is("no key", x.question(no, 4, 0, 1, 1), NONE);
        }
        check.is("first, next to ask is 1", x.question(0, 0, 0, 201, 239), 1);
        check.is("itself", x.question(0, 0, 0, 201, 1), NONE);
        check.is("itself for no", x.question(0, 0, 0, 1, 201), NONE);
        check.is("length 0", x.question(0, 60, 0, 202, 23), 2);
        check.is("weight most", x.question(0, 61, 100000, 40, 48), 3);
        check.is("a trait", x.question(0, 48, 0, NONE, NONE), 4);
        for (int i = 5; i <= 40; i++) {
            check.is("up to 40", x.question(0, 40, 0, 0, i < 40 ? 239 : 0), i);
        }
        check.is("it has 40", x.question(0, 40, 0, 0, 0), NONE);
        check.is("another key is its own", x.question(9, 40, 0, 0, 0), 1);
    }

    private static void promise22() {
        check.part("promise 22");
        SpecimenHall x = new SpecimenHall();
        x.make(13, 50, 7);
        x.make(4, 49, 8);
        check.is("no questions", x.name(3, 0), NONE);
        x.question(3, 60, 50, 202, 201);
        x.question(3, 61, 8, 48, 0);
        x.question(3, 44, 0, 13, NONE);
        check.is("long enough, large", x.name(3, 0), 13);
        check.is("short, heavy enough", x.name(3, 1), 48);
        x.question(4, 41, 0, 203, NONE);
        check.is("a question not there yet", x.name(4, 0), NONE);
        x.question(4, 0, 0, 1, 2);
        check.is("still not there", x.name(4, 0), NONE);
        x.question(4, 0, 0, 1, 2);
        x.question(4, 13, 0, 40, 0);
        check.is("there now", x.name(4, 0), 40);
        check.is("the kind 0 is a name", x.name(4, 1), 0);
        x.question(5, 60, 51, 1, NONE);
        check.is("told NONE", x.name(5, 0), NONE);
        check.is("no specimen", x.name(3, 2), NONE);
        check.is("key 10", x.name(10, 0), NONE);
        for (int no : NO_NUMBERS) {
            check.is("no key", x.name(no, 0), NONE);
            check.is("no specimen", x.name(3, no), NONE);
        }
        for (int i = 0; i < 39; i++) {
            x.question(9, 0, 0, 201 + i, NONE);
        }
        check.is("the last is missing", x.name(9, 0), NONE);
        x.question(9, 0, 0, 7, NONE);
        check.is("40 questions", x.name(9, 0), 7);
        check.is("all were asked", x.asked(), 40);
    }

    private static void promise23() {
        check.part("promise 23");
        SpecimenHall x = new SpecimenHall();
        check.is("ahead of any", x.asked(), 0);
        x.make(4, 1, 1);
        x.name(0, 0);
        check.is("a key without questions", x.asked(), 0);
        x.question(0, 0, 0, 201, NONE);
        x.question(0, 60, 1, 205, NONE);
        x.question(1, 4, 0, 4, NONE);
        x.name(0, 0);
        check.is("two, then one that isn't there", x.asked(), 2);
        check.is("asking again", x.asked(), 2);
        x.name(10, 0);
        check.is("a refused one changes nothing", x.asked(), 2);
        x.name(0, 1);
        check.is("nor one without a specimen", x.asked(), 2);
        x.name(1, 0);
        check.is("the latest", x.asked(), 1);
        x.name(2, 0);
        check.is("none asked", x.asked(), 0);
    }

    private static void promise24() {
        check.part("promise 24");
        SpecimenHall x = new SpecimenHall();
        x.make(11, 3, 4);
        check.no("its own kind", x.convert(0, 11));
        int[] abstracts = {0, 1, 3, 9, 10, 17, 20};
        for (int kind : abstracts) {
            check.no("abstract", x.convert(0, kind));
        }
        int[] none = {-1, 24, 41, 48, 112, LOW, HIGH};
        for (int kind : none) {
            check.no("no kind", x.convert(0, kind));
        }
        check.no("no specimen", x.convert(1, 12));
        for (int no : NO_NUMBERS) {
            check.no("no specimen", x.convert(no, 12));
        }
        check.no("kept alone is above both", x.convert(0, 14));
        check.is("its kind stays", x.told(0, 0), 11);
        check.yes("dry is above both", x.convert(0, 2));
        check.is("its kind now", x.told(0, 0), 2);
        check.is("its length stays", x.told(0, 1), 3);
        check.is("its weight stays", x.told(0, 2), 4);
        check.yes("to the hawk moth", x.convert(0, 13));
        check.yes("large is above both", x.convert(0, 15));
        check.no("wet and large share nothing with dry", x.convert(0, 11));
        check.yes("fishes", x.convert(0, 14));
        check.yes("wet", x.convert(0, 16));
        check.yes("watched is above both", x.convert(0, 5));
        x.rule(0, 2, 1);
        x.lend(0, 0, 0);
        check.no("lent", x.convert(0, 4));
        x.giveBack(0, 0);
        check.yes("given back", x.convert(0, 4));
    }

    private static void promise24OfPlaces() {
        check.part("promise 24, places");
        SpecimenHall x = new SpecimenHall();
        x.caseOf(12, 1);
        x.caseOf(9, 1);
        x.shelf(0, 10, 10);
        x.make(13, 6, 1);
        x.make(13, 6, 1);
        x.putIn(0, 0, 0);
        x.putIn(1, 0, 1);
        x.move(0, 0);
        check.yes("to the moth", x.convert(0, 12));
        check.is("it stays in its place", x.placed(0, 0), 0);
        check.is("and on its shelf", x.told(0, 5), 0);
        check.no("no room for two", x.move(1, 0));
        check.yes("to the beetle", x.convert(0, 11));
        check.is("it leaves its place", x.placed(0, 0), NONE);
        check.is("it has no case", x.told(0, 3), NONE);
        check.is("it has no place", x.told(0, 4), NONE);
        check.is("it stays on its shelf", x.told(0, 5), 0);
        check.yes("to the owl", x.convert(0, 18));
        check.is("it leaves its shelf", x.told(0, 5), NONE);
        check.is("none on shelves", x.count(6), 0);
        check.yes("its room is free", x.move(1, 0));
        check.yes("the other, to the owl", x.convert(1, 18));
        check.is("its case takes owls", x.placed(1, 0), 1);
        check.is("its shelf doesn't", x.told(1, 5), NONE);
        check.yes("a shelf on which none stands", x.shelf(0, 17, 6));
    }

    private static void promise25() {
        check.part("promise 25");
        SpecimenHall x = new SpecimenHall();
        int[] kinds = {4, 5, 7, 13, 14, 23};
        int[] lengths = {0, 10, 10, 20, 100000, 30};
        for (int i = 0; i < kinds.length; i++) {
            x.make(kinds[i], lengths[i], 50);
        }
        check.is("all", x.find(0, 0, 100000), 6);
        check.is("all, wide", x.find(0, LOW, HIGH), 6);
        check.is("both ends count", x.find(0, 10, 20), 3);
        check.is("one length", x.find(0, 10, 10), 2);
        check.is("between", x.find(0, 11, 19), 0);
        check.is("turned round", x.find(0, 20, 10), 0);
        check.is("flowers", x.find(3, 0, 10), 2);
        check.is("flowers, shorter", x.find(3, 0, 9), 1);
        check.is("dry", x.find(41, 0, 100000), 5);
        check.is("kept", x.find(40, 0, 100000), 6);
        check.is("poison", x.find(46, 0, 100000), 2);
        check.is("none of a kind", x.find(19, 0, 100000), 0);
        int[] none = {-1, 24, 39, 49, 60, 100, 104, LOW, HIGH};
        for (int code : none) {
            check.is("no code", x.find(code, 0, 100000), NONE);
        }
        x.convert(0, 12);
        check.is("revised", x.find(3, 0, 100000), 1);
    }

    private static void promise26() {
        check.part("promise 26");
        SpecimenHall x = new SpecimenHall();
        int[] kinds = {4, 5, 7, 13, 14, 23, 4};
        int[] lengths = {30, 10, 10, 20, 100000, 0, 10};
        for (int i = 0; i < kinds.length; i++) {
            x.make(kinds[i], lengths[i], 50 - i);
        }
        int[] all = {5, 1, 2, 6, 3, 0, 4};
        for (int k = 0; k < all.length; k++) {
            check.is("of all", x.nth(0, k), all[k]);
        }
        check.is("no more", x.nth(0, 7), NONE);
        check.is("flowers", x.nth(3, 0), 1);
        check.is("flowers, second", x.nth(3, 1), 6);
        check.is("flowers, third", x.nth(3, 2), 0);
        check.is("flowers, no fourth", x.nth(3, 3), NONE);
        check.is("poison", x.nth(46, 0), 5);
        check.is("none of a kind", x.nth(19, 0), NONE);
        int[] none = {-1, 24, 39, 49, 60, 100, 103, LOW, HIGH};
        for (int code : none) {
            check.is("no code", x.nth(code, 0), NONE);
        }
        for (int no : NO_NUMBERS) {
            check.is("no k", x.nth(0, no), NONE);
        }
    }

    private static void promise27() {
        check.part("promise 27");
        SpecimenHall x = new SpecimenHall();
        x.make(4, 0, 0);
        x.make(4, 1, 0);
        check.yes("kind 0 and room 0 at first", x.move(0, 9));
        check.no("room 0 holds no length", x.move(1, 8));
        check.no("one stands there", x.shelf(9, 0, 5));
        check.no("unchanged", x.move(1, 9));
        x.move(0, NONE);
        check.yes("it left", x.shelf(9, 3, 1000000));
        check.yes("as it is", x.shelf(9, 3, 1000000));
        check.no("too much room", x.shelf(0, 0, 1000001));
        check.no("shelf 10", x.shelf(10, 0, 1));
        for (int no : NO_NUMBERS) {
            check.no("no shelf", x.shelf(no, 0, 1));
            check.no("no kind", x.shelf(0, no, 1));
            check.no("no room", x.shelf(0, 0, no));
        }
        int[] none = {24, 40, 41, 48, 103};
        for (int kind : none) {
            check.no("no kind", x.shelf(0, kind, 1));
        }
        for (int kind = 0; kind < 24; kind++) {
            check.yes("any kind", x.shelf(0, kind, 0));
        }
        check.no("another kind now", x.move(0, 0));
        check.yes("its kind", x.move(0, 9));
    }

    private static void promise28() {
        check.part("promise 28");
        SpecimenHall x = new SpecimenHall();
        x.make(4, 6, 1);
        x.make(5, 5, 1);
        x.make(7, 1, 1);
        x.shelf(0, 3, 10);
        x.shelf(1, 0, 6);
        check.no("it stands on none", x.move(0, NONE));
        check.yes("moved", x.move(0, 0));
        check.no("it stands there", x.move(0, 0));
        check.no("5 more are above 10", x.move(1, 0));
        check.no("not of the kind", x.move(2, 0));
        check.yes("just room enough", x.move(0, 1));
        check.is("it stands there now", x.told(0, 5), 1);
        check.is("on one shelf alone", x.count(6), 1);
        check.yes("room was left", x.move(1, 0));
        check.no("none is left", x.move(2, 1));
        check.no("shelf 10", x.move(2, 10));
        check.no("no specimen", x.move(3, 1));
        check.no("no shelf -2", x.move(0, -2));
        check.no("no shelf", x.move(0, LOW));
        check.no("no shelf", x.move(0, HIGH));
        for (int no : NO_NUMBERS) {
            check.no("no specimen", x.move(no, 1));
        }
        x.rule(0, 2, 1);
        x.lend(0, 0, 0);
        check.no("lent", x.move(0, NONE));
        check.no("lent, to another", x.move(0, 0));
        check.is("it keeps its shelf", x.told(0, 5), 1);
        check.no("and its room", x.move(2, 1));
        x.giveBack(0, 0);
        check.yes("to none", x.move(0, NONE));
        check.is("no shelf now", x.told(0, 5), NONE);
        check.yes("its room is free", x.move(2, 1));
        x.caseOf(0, 1);
        x.putIn(0, 0, 2);
        check.is("a case leaves the shelf as it is", x.told(2, 5), 1);
    }

    private static void promise29() {
        check.part("promise 29");
        SpecimenHall x = new SpecimenHall();
        x.make(4, 0, 1);
        x.make(5, 0, 1);
        x.make(7, 0, 1);
        x.caseOf(0, 2);
        x.caseOf(0, 2);
        x.rule(0, 2, 1);
        x.rule(0, 3, 5);
        x.rule(4, 3, 6);
        x.rule(4, 3, 7);
        x.rule(5, 0, 7);
        x.unrule(5, 0);
        x.putIn(0, 0, 0);
        x.putIn(1, 1, 0);
        x.putIn(1, 0, 1);
        x.move(0, 0);
        x.move(1, 1);
        x.move(2, 1);
        x.move(2, NONE);
        x.lend(0, 0, 0);
        x.lend(1, 1, 0);
        x.lend(2, 2, 0);
        x.giveBack(0, 2);
        x.giveBack(1, 3);
        int[] due = {3, 2, 3, 1, 3, 2, 2, 17};
        for (int what = 0; what < due.length; what++) {
            check.is("what " + what, x.count(what), due[what]);
        }
        check.is("no what 8", x.count(8), NONE);
        for (int no : NO_NUMBERS) {
            check.is("no what", x.count(no), NONE);
        }
    }
}
