/** Promises 1 to 5: a new object, person, note, set, told. */
public final class PeopleNotesTest {
    private static final Due DUE = new Due("PeopleNotesTest");

    public static void main(String[] args) {
        newObject();
        person();
        note();
        kinds();
        set();
        told();
        DUE.end();
    }

    private static void newObject() {
        KitchenTable x = new KitchenTable();
        int[] counts = {0, 0, 0, 1, 0, 0};
        for (int what = 0; what < counts.length; what++) {
            DUE.is("1: count(" + what + ")", x.count(what), counts[what]);
        }
        DUE.is("1: orders", x.orders(), 1);
        DUE.is("1: harm", x.harm(), 0);
        DUE.is("1: lies", x.lies(47), 0);
        DUE.is("1: helps", x.helps(0), KitchenTable.NONE);
        DUE.is("1: back", x.back(), KitchenTable.STATE);
        for (int sheet = 0; sheet < 4; sheet++) {
            DUE.is("1: a sheet is missing", x.cell(sheet, 0, 0), -11);
        }
    }

    private static void person() {
        KitchenTable x = new KitchenTable();
        int[][] bad = {{-1, 1, 0}, {48, 1, 0}, {0, 0, 0}, {0, -1, 0}, {0, 25, 0}, {0, 1, -1}, {0, 1, 130},
            {Integer.MIN_VALUE, 1, 0}, {0, Integer.MAX_VALUE, 0}, {0, 1, Integer.MAX_VALUE}, {0, 1, Integer.MIN_VALUE},
            {0, 1, -9}};
        for (int[] b : bad) {
            DUE.is("2: person " + b[0] + " " + b[1] + " " + b[2], x.person(b[0], b[1], b[2]), KitchenTable.BAD);
        }
        DUE.is("2: nobody came", x.count(0), 0);
        DUE.is("2: person", x.person(0, 1, 0), 0);
        DUE.is("2: person", x.person(47, 24, 129), 1);
        DUE.is("2: person", x.person(13, 7, 58), 2);
        DUE.is("2: person", x.person(1, 2, 9), 3);
        DUE.is("2: person", x.person(1, 2, 120), 4);
        DUE.is("2: FULL", x.person(1, 2, 3), KitchenTable.FULL);
        DUE.is("2: BAD is first", x.person(48, 2, 3), KitchenTable.BAD);
        DUE.is("2: count", x.count(0), 5);
        int[][] due = {{0, 1, 0, 0}, {47, 24, 12, 9}, {13, 7, 5, 8}, {1, 2, 0, 9}, {1, 2, 12, 0}};
        for (int of = 0; of < due.length; of++) {
            for (int what = 0; what < 4; what++) {
                DUE.is("2: set " + what + " of " + of, x.set(what, of, 1), due[of][what]);
            }
        }
    }

    private static void note() {
        KitchenTable x = new KitchenTable();
        int[][] bad = {{-1, 0, 0}, {6, 0, 0}, {0, -1, 0}, {0, 48, 0}, {0, 0, -1}, {0, 0, 40}, {0, 0, -9},
            {Integer.MAX_VALUE, 0, 0}, {0, Integer.MIN_VALUE, 0}, {0, 0, Integer.MAX_VALUE}, {0, 0, Integer.MIN_VALUE}};
        for (int[] b : bad) {
            DUE.is("3: note " + b[0] + " " + b[1] + " " + b[2], x.note(b[0], b[1], b[2]), KitchenTable.BAD);
        }
        DUE.is("3: none came", x.count(1), 0);
        for (int i = 0; i < 10; i++) {
            DUE.is("3: note", x.note(i % 6, 4 * i, 4 * i), i);
        }
        DUE.is("3: FULL", x.note(0, 0, 0), KitchenTable.FULL);
        DUE.is("3: BAD is first", x.note(6, 0, 0), KitchenTable.BAD);
        DUE.is("3: count", x.count(1), 10);
        for (int i = 0; i < 10; i++) {
            DUE.is("3: KIND", x.told(i, 0), i % 6);
            DUE.is("3: HOUR", x.told(i, 1), 4 * i);
            DUE.is("3: THING", x.told(i, 2), 4 * i / 10);
            DUE.is("3: NUMBER", x.told(i, 3), 4 * i % 10);
        }
    }

    /** HIGH, LASTS, ASKS, TELLS, written out for NUMBERS 0, 5, 9 and 8 of each KIND. */
    private static void kinds() {
        int[] numbers = {0, 5, 9, 8};
        int[][] due = {
            {0, 12, 0, 0}, {0, 12, 0, 0}, {0, 12, 0, 0}, {0, 12, 0, 0},
            {0, 12, 0, 1}, {0, 17, 0, 1}, {0, 21, 0, 1}, {0, 20, 0, 1},
            {1, 24, 1, 0}, {1, 24, 1, 0}, {1, 24, 1, 0}, {1, 24, 1, 0},
            {0, 6, 0, 2}, {1, 8, 0, 2}, {3, 10, 0, 2}, {2, 10, 0, 2},
            {4, 24, 2, 0}, {4, 29, 2, 0}, {4, 33, 2, 0}, {4, 32, 2, 0},
            {0, 6, 0, 2}, {0, 8, 0, 2}, {1, 10, 0, 2}, {0, 10, 0, 2}};
        for (int kind = 0; kind < 6; kind++) {
            KitchenTable x = new KitchenTable();
            for (int i = 0; i < numbers.length; i++) {
                x.note(kind, 0, numbers[i]);
                for (int what = 0; what < 4; what++) {
                    DUE.is("5: KIND " + kind + " NUMBER " + numbers[i] + " what " + (4 + what),
                        x.told(i, 4 + what), due[4 * kind + i][what]);
                }
            }
        }
    }

    private static void set() {
        KitchenTable x = new KitchenTable();
        DUE.is("4: nobody", x.set(0, 0, 0), KitchenTable.BAD);
        DUE.is("4: no note", x.set(4, 0, 0), KitchenTable.BAD);
        x.person(3, 4, 56);
        x.note(1, 7, 23);
        int[] was = {3, 4, 5, 6, 7};
        int[] least = {0, 1, 0, 0, 0};
        int[] most = {47, 24, 12, 9, 47};
        for (int what = 0; what < 5; what++) {
            DUE.is("4: below", x.set(what, 0, least[what] - 1), KitchenTable.BAD);
            DUE.is("4: above", x.set(what, 0, most[what] + 1), KitchenTable.BAD);
            DUE.is("4: far", x.set(what, 0, Integer.MIN_VALUE), KitchenTable.BAD);
            DUE.is("4: none such", x.set(what, 1, 1), KitchenTable.BAD);
            DUE.is("4: none such", x.set(what, -1, 1), KitchenTable.BAD);
            DUE.is("4: what it was", x.set(what, 0, most[what]), was[what]);
            DUE.is("4: the most", x.set(what, 0, least[what]), most[what]);
            DUE.is("4: the least", x.set(what, 0, least[what]), least[what]);
        }
        DUE.is("4: what", x.set(5, 0, 1), KitchenTable.BAD);
        DUE.is("4: what", x.set(-1, 0, 1), KitchenTable.BAD);
        DUE.is("4: HOUR", x.told(0, 1), 0);
        x.set(4, 0, 9);
        DUE.is("4: HOUR", x.told(0, 1), 9);
        DUE.is("4: it lies behind it", x.lies(9), 0);
        DUE.is("4: it lies behind it", x.lies(10), 1);
    }

    private static void told() {
        KitchenTable x = new KitchenTable();
        DUE.is("5: no note", x.told(0, 0), KitchenTable.BAD);
        x.note(5, 47, 39);
        int[] due = {5, 47, 3, 9, 1, 10, 0, 2};
        for (int what = 0; what < due.length; what++) {
            DUE.is("5: told " + what, x.told(0, what), due[what]);
        }
        DUE.is("5: what", x.told(0, 8), KitchenTable.BAD);
        DUE.is("5: what", x.told(0, -1), KitchenTable.BAD);
        DUE.is("5: note", x.told(1, 0), KitchenTable.BAD);
        DUE.is("5: note", x.told(-1, 0), KitchenTable.BAD);
    }
}
