/** Halls with much in them, made by the same calls each time. */
final class Halls {
    static final int SPECIMENS = 19;
    static final int CASES = 4;

    private static final int NONE = SpecimenHall.NONE;

    private Halls() {
    }

    /**
     * Specimens 0 .. 18, of which 1 is lent to 2, and 7 .. 17 to 3, who may have one more;
     * cases 0 (20 places: 6 at 1, 1 at 7), 1 (0 at 0; 1 is free), 2 (full), 3 (empty);
     * shelves 1 (full) and 4 (a length of 4 is left), 3 and 9 on which none stands;
     * key 0 with four questions, key 8 with all forty.
     */
    static void furnish(SpecimenHall x) {
        x.make(4, 30, 2);
        x.make(19, 50, 9);
        x.make(23, 5, 5);
        x.make(13, 8, 1);
        x.make(15, 500, 90);
        x.make(2, 0, 0);
        x.make(7, 10, 1000);
        for (int number = 7; number <= 17; number++) {
            x.make(11, 1, number);
        }
        x.make(2, 3, 4);
        placeThem(x);
        lendThem(x);
        askThem(x);
    }

    private static void placeThem(SpecimenHall x) {
        x.caseOf(0, 20);
        x.caseOf(3, 2);
        x.caseOf(10, 1);
        x.caseOf(1, 1);
        x.putIn(0, 1, 6);
        x.putIn(0, 7, 1);
        x.putIn(1, 0, 0);
        x.putIn(2, 0, 3);
        x.shelf(1, 0, 500);
        x.shelf(3, 1, 40);
        x.shelf(4, 10, 12);
        x.shelf(9, 0, 1000000);
        x.move(4, 1);
        x.move(3, 4);
    }

    private static void lendThem(SpecimenHall x) {
        x.rule(0, 2, 10);
        x.rule(12, 2, 5);
        x.rule(43, 3, 7);
        x.rule(43, 1, 8);
        x.rule(47, 1, 7);
        x.rule(41, 0, 1);
        x.rule(4, 0, 3);
        x.rule(23, 4, 9);
        x.lend(2, 1, 0);
        x.giveBack(2, 12);
        x.lend(1, 2, 5);
        for (int number = 7; number <= 17; number++) {
            x.lend(number, 3, 6);
        }
    }

    private static void askThem(SpecimenHall x) {
        x.question(0, 9, 0, 201, 20);
        x.question(0, 60, 100, 202, 203);
        x.question(0, 44, 0, 15, 14);
        x.question(0, 10, 0, 204, NONE);
        for (int number = 0; number < 40; number++) {
            x.question(8, 0, 0, number < 39 ? 201 + number : 48, NONE);
        }
        x.name(0, 3);
    }

    /** Furnished, with a specimen at the first place of each case and at the last of case 0. */
    static void fill(SpecimenHall x) {
        furnish(x);
        x.putIn(0, 0, 18);
        x.putIn(0, 19, 2);
        x.putIn(3, 0, 5);
    }

    static void makeMany(SpecimenHall x, int kind, int n) {
        for (int i = 0; i < n; i++) {
            x.make(kind, 1, 1);
        }
    }

    static void caseMany(SpecimenHall x, int n) {
        for (int i = 0; i < n; i++) {
            x.caseOf(0, 1);
        }
    }

    static void askMany(SpecimenHall x, int key, int n) {
        for (int i = 0; i < n; i++) {
            x.question(key, 0, 0, 0, 0);
        }
    }

    /** n specimens of a kind, all in case 0, and a rule for ten days. */
    static void caseWith(SpecimenHall x, int kind, int n) {
        x.rule(0, 2, 10);
        x.caseOf(0, 20);
        makeMany(x, kind, n);
        for (int i = 0; i < n; i++) {
            x.putIn(0, i, i);
        }
    }
}
