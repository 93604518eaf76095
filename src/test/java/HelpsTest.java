/** Promises 17 to 19: helps, once, whose. */
public final class HelpsTest {
    private static final Due DUE = new Due("HelpsTest");

    public static void main(String[] args) {
        helps();
        once();
        onceOfOthers();
        whose();
        DUE.end();
    }

    private static void helps() {
        KitchenTable x = new KitchenTable();
        for (int wrong : new int[] {-1, 2, Integer.MIN_VALUE, Integer.MAX_VALUE}) {
            DUE.is("17: what " + wrong, x.helps(wrong), KitchenTable.BAD);
        }
        x.note(2, 0, 30);
        DUE.is("17: nobody", x.helps(0), KitchenTable.NONE);
        DUE.is("17: nobody", x.helps(1), KitchenTable.NONE);
        x.person(40, 1, 0);
        DUE.is("17: one, whom it does not help", x.helps(0), 0);
        DUE.is("17: one, whom it does not help", x.helps(1), 4);
        x.person(3, 12, 0);
        // Would do it in 3, 15, 27, 39.
        DUE.is("17: the second", x.helps(0), 1);
        DUE.is("17: the second", x.helps(1), 3);
        x.person(3, 24, 0);
        DUE.is("17: the third", x.helps(0), 2);
        DUE.is("17: the third", x.helps(1), 1);
        x.person(4, 24, 0);
        DUE.is("17: of like ones the first", x.helps(0), 2);
        x.set(0, 2, 24);
        DUE.is("17: once is no harm", x.helps(1), 0);
        DUE.is("17: nothing has changed", x.harm(), 4);
        DUE.is("17: nothing has changed", x.set(2, 2, 5), 0);
        DUE.is("17: it is least even where it is more than now", x.harm(), 0);
        x.set(0, 0, 4);
        DUE.is("17: the one that reads already", x.helps(0), 2);
        x.set(0, 2, 2);
        x.set(1, 2, 1);
        DUE.is("17: all harm then", x.helps(1), 45);
        DUE.is("17: the first that adds none", x.helps(0), 2);
    }

    private static void once() {
        KitchenTable x = new KitchenTable();
        DUE.is("18: no note", x.once(0), KitchenTable.BAD);
        x.note(2, 5, 0);
        DUE.is("18: note", x.once(1), KitchenTable.BAD);
        DUE.is("18: note", x.once(-1), KitchenTable.BAD);
        DUE.is("18: by nobody", x.once(0), KitchenTable.NONE);
        x.person(3, 10, 10);
        // Who comes in 3, 13, 23, 33, 43 does it once only when it is put in 33 .. 42.
        DUE.is("18: the latest", x.once(0), 42);
        DUE.is("18: nothing has changed", x.told(0, 1), 5);
        DUE.is("18: nothing has changed", x.done(0, -1), 4);
        x.set(4, 0, 42);
        DUE.is("18: once then", x.done(0, -1), 1);
        x.set(4, 0, 43);
        DUE.is("18: never then", x.done(0, -1), 0);
        x.person(43, 24, 10);
        DUE.is("18: two would do it then", x.once(0), KitchenTable.NONE);
        x.set(0, 0, 47);
        x.set(0, 1, 47);
        x.set(2, 1, 0);
        DUE.is("18: the last HOUR to put it", x.once(0), 46);
        x.set(0, 0, 0);
        x.set(1, 0, 24);
        DUE.is("18: HOUR 0 has nothing yet; 24 has", x.once(0), 23);
        x.set(0, 0, 1);
        x.set(1, 0, 3);
        DUE.rule(x, "do asked and hour < 4; take 0; care 0;");
        DUE.is("18: HOUR 0 alone", x.once(0), 0);
        DUE.rule(x, "do asked and hour < 1; take 0; care 0;");
        DUE.is("18: not even HOUR 0", x.once(0), KitchenTable.NONE);
        DUE.rule(x, "do thing = 0 and hour = 4; take 0; care 0;");
        DUE.is("18: done once wherever it is put", x.once(0), 47);
    }

    /** It is the note's THING that counts, whatever note it is done for. */
    private static void onceOfOthers() {
        KitchenTable x = new KitchenTable();
        x.person(10, 24, 120);
        x.note(2, 0, 0);
        x.note(1, 0, 0);
        x.note(2, 11, 10);
        DUE.is("18: a TELLING", x.done(0, -1), 0);
        // Read in 34 it keeps one from doing it again; put later it is never read.
        DUE.is("18: a TELLING read behind it", x.once(1), 33);
        x.set(4, 0, 20);
        // The asking is read in 34 alone; the telling, where read too, keeps from it.
        DUE.is("18: a TELLING put too late to be read", x.once(1), 47);
        x.set(0, 0, 11);
        x.set(1, 0, 12);
        DUE.is("18: an ASKING under a TELLING that is told", x.once(0), KitchenTable.NONE);
        x.set(4, 1, 30);
        DUE.is("18: the telling is read in 35", x.once(0), 22);
        DUE.is("18: another THING", x.once(2), 46);
    }

    private static void whose() {
        KitchenTable x = new KitchenTable();
        DUE.is("19: nobody", x.whose(0, 0), KitchenTable.BAD);
        x.person(3, 24, 55);
        for (int wrong : new int[] {-1, 10000, Integer.MIN_VALUE, Integer.MAX_VALUE}) {
            DUE.is("19: most " + wrong, x.whose(0, wrong), KitchenTable.BAD);
        }
        DUE.is("19: person", x.whose(1, 0), KitchenTable.BAD);
        DUE.is("19: person", x.whose(-1, 0), KitchenTable.BAD);
        DUE.is("19: no harm", x.whose(0, 0), 0);
        x.note(2, 1, 0);
        x.note(2, 2, 10);
        x.note(2, 0, 20);
        x.note(2, 0, 30);
        x.set(0, 0, 24);
        // Uppermost first: 1, 0, 3, 2, each done once: harm 10, 8, 7, 3, 0.
        int[][] due = {{0, 4}, {1, 4}, {2, 4}, {3, 3}, {6, 3}, {7, 2}, {8, 1}, {9, 1}, {10, 0}, {9999, 0}};
        for (int[] d : due) {
            DUE.is("19: most " + d[0], x.whose(0, d[0]), d[1]);
        }
        DUE.is("19: nothing has changed", x.set(2, 0, 5), 5);
        DUE.is("19: nothing has changed", x.harm(), 0);
        x.set(0, 0, 47);
        DUE.is("19: none", x.whose(0, 9), KitchenTable.NONE);
        DUE.is("19: just", x.whose(0, 10), 0);

        x = new KitchenTable();
        x.person(24, 24, 0);
        x.person(24, 24, 0);
        for (int i = 0; i < 9; i++) {
            x.note(4, 15, 19);
        }
        x.note(2, 0, 0);
        DUE.is("19: nine lie above the asking", x.whose(1, 0), 10);
        DUE.is("19: one of these does", x.whose(1, 2), 1);
        DUE.is("19: none does", x.whose(1, 3), 0);
    }
}
