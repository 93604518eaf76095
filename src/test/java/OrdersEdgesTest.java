/** Promises 20 to 23 at their edges: each sentence that names one has a method of its own. */
public final class OrdersEdgesTest {
    private static final int NONE = KitchenTable.NONE, BAD = KitchenTable.BAD, FULL = KitchenTable.FULL;
    private static final Due DUE = new Due("OrdersEdgesTest");

    public static void main(String[] args) {
        marksAreOfTwoNotes();
        twentyMarksAtMost();
        aMarkMayComeAnew();
        ordersOfNothing();
        ordersOfAllNotes();
        ordersOfOneRow();
        ordersOfARing();
        ordersOfWhatCameLater();
        oddsAreOfTwoNotes();
        oddsInLowestTerms();
        oddsOfSureAndOfNever();
        oddsIfThereAreNone();
        oddsOfTheMost();
        placeIsOfANote();
        placeWithoutMarks();
        placeInARow();
        placeIfThereAreNone();
        placeByAllMarksTogether();
        DUE.end();
    }

    private static KitchenTable with(int notes, int... marks) {
        KitchenTable x = new KitchenTable();
        for (int note = 0; note < notes; note++) {
            x.note(note % 6, 40 - note, note);
        }
        for (int i = 0; i < marks.length; i += 2) {
            x.mark(marks[i], marks[i + 1]);
        }
        return x;
    }

    private static KitchenTable row(int notes) {
        KitchenTable x = with(notes);
        for (int note = 1; note < notes; note++) {
            x.mark(note, note - 1);
        }
        return x;
    }

    private static void marksAreOfTwoNotes() {
        DUE.is("Promise 20: no notes", with(0).mark(0, 1), BAD);
        DUE.is("Promise 20: one note", with(1).mark(0, 0), BAD);
        DUE.is("Promise 20: one note", with(1).mark(0, 1), BAD);
        KitchenTable x = with(10);
        int[][] bad = {{-1, 0}, {0, -1}, {10, 0}, {0, 10}, {0, 0}, {9, 9}, {-1, -1}, {10, 10}};
        for (int[] b : bad) {
            DUE.is("Promise 20: " + b[0] + ", " + b[1], x.mark(b[0], b[1]), BAD);
        }
        DUE.is("Promise 20: none came", x.count(2), 0);
        DUE.is("Promise 20: none holds", x.orders(), 3628800);
        DUE.is("Promise 20: the first, the last", x.mark(0, 9), 1);
        DUE.is("Promise 20: the last, the first", x.mark(9, 0), 2);
        DUE.is("Promise 20: both hold", x.orders(), 0);
    }

    private static void twentyMarksAtMost() {
        KitchenTable x = with(3);
        for (int mark = 1; mark <= 20; mark++) {
            DUE.is("Promise 20: how many", x.mark(0, 1), mark);
        }
        DUE.is("Promise 20: a 21st", x.mark(1, 0), FULL);
        DUE.is("Promise 20: BAD is ahead", x.mark(1, 1), BAD);
        DUE.is("Promise 20: BAD is ahead", x.mark(0, 3), BAD);
        DUE.is("Promise 20: 20", x.count(2), 20);
        DUE.is("Promise 20: the 21st does not hold", x.orders(), 3);
        x = with(3);
        for (int mark = 1; mark <= 19; mark++) {
            x.mark(0, 1);
        }
        DUE.is("Promise 20: the 20th", x.mark(1, 2), 20);
        DUE.is("Promise 20: the 20th holds", x.orders(), 1);
    }

    private static void aMarkMayComeAnew() {
        KitchenTable x = with(2);
        DUE.is("Promise 20: a mark", x.mark(0, 1), 1);
        DUE.is("Promise 20: the same mark", x.mark(0, 1), 2);
        DUE.is("Promise 20: it holds as one does", x.orders(), 1);
        DUE.is("Promise 20: against it", x.mark(1, 0), 3);
        DUE.is("Promise 20: none", x.orders(), 0);
    }

    private static void ordersOfNothing() {
        DUE.is("Promise 21: no notes", with(0).orders(), 1);
        DUE.is("Promise 21: one note", with(1).orders(), 1);
        DUE.is("Promise 21: two notes", with(2).orders(), 2);
    }

    private static void ordersOfAllNotes() {
        DUE.is("Promise 21: ten notes", with(10).orders(), 3628800);
        DUE.is("Promise 21: ten notes, one mark", with(10, 9, 0).orders(), 1814400);
        DUE.is("Promise 21: ten notes in pairs", with(10, 0, 1, 2, 3, 4, 5, 6, 7, 8, 9).orders(), 113400);
        DUE.is("Promise 21: one ahead of nine",
            with(10, 9, 0, 9, 1, 9, 2, 9, 3, 9, 4, 9, 5, 9, 6, 9, 7, 9, 8).orders(), 362880);
    }

    private static void ordersOfOneRow() {
        for (int notes = 2; notes <= 10; notes++) {
            DUE.is("Promise 21: a row of " + notes, row(notes).orders(), 1);
        }
        KitchenTable x = row(9);
        x.note(0, 0, 0);
        DUE.is("Promise 21: a row of 9, and one", x.orders(), 10);
    }

    private static void ordersOfARing() {
        DUE.is("Promise 21: a ring of 2", with(2, 0, 1, 1, 0).orders(), 0);
        DUE.is("Promise 21: a ring of 3", with(3, 0, 1, 1, 2, 2, 0).orders(), 0);
        DUE.is("Promise 21: a ring among others", with(10, 7, 8, 8, 9, 9, 7).orders(), 0);
        KitchenTable x = row(10);
        x.mark(0, 9);
        DUE.is("Promise 21: a ring of 10", x.orders(), 0);
    }

    private static void ordersOfWhatCameLater() {
        KitchenTable x = with(2, 0, 1);
        DUE.is("Promise 21: of two", x.orders(), 1);
        x.note(0, 0, 0);
        DUE.is("Promise 21: of three", x.orders(), 3);
        x.set(4, 0, 47);
        DUE.is("Promise 21: whatever the HOURS are", x.orders(), 3);
        x.image();
        x.mark(1, 2);
        DUE.is("Promise 21: with a mark more", x.orders(), 1);
        x.back();
        DUE.is("Promise 21: without it", x.orders(), 3);
    }

    private static void odds(KitchenTable x, int ahead, int behind, long above, long below) {
        DUE.is("Promise 22: above, " + ahead + " ahead of " + behind, x.odds(ahead, behind, 0), above);
        DUE.is("Promise 22: below, " + ahead + " ahead of " + behind, x.odds(ahead, behind, 1), below);
    }

    private static void oddsAreOfTwoNotes() {
        KitchenTable x = with(10);
        int[][] bad = {{-1, 0, 0}, {0, -1, 0}, {10, 0, 0}, {0, 10, 0}, {0, 0, 0}, {9, 9, 1}, {0, 1, -1}, {0, 1, 2},
            {Integer.MAX_VALUE, 0, 0}, {0, Integer.MIN_VALUE, 0}, {0, 1, Integer.MAX_VALUE}, {0, 1, Integer.MIN_VALUE}};
        for (int[] b : bad) {
            DUE.is("Promise 22: " + b[0] + ", " + b[1] + ", " + b[2], x.odds(b[0], b[1], b[2]), KitchenTable.NO);
        }
        odds(x, 0, 9, 1, 2);
        odds(x, 9, 0, 1, 2);
        DUE.is("Promise 22: no notes", with(0).odds(0, 0, 0), KitchenTable.NO);
        DUE.is("Promise 22: one note", with(1).odds(0, 1, 0), KitchenTable.NO);
        DUE.is("Promise 22: NO, though there are no orders", with(2, 0, 1, 1, 0).odds(0, 0, 0), KitchenTable.NO);
        DUE.is("Promise 22: NO, though there are no orders", with(2, 0, 1, 1, 0).odds(0, 1, 2), KitchenTable.NO);
    }

    private static void oddsInLowestTerms() {
        odds(with(3, 0, 1), 0, 2, 2, 3);
        odds(with(3, 0, 1), 2, 0, 1, 3);
        odds(with(3, 0, 1), 2, 1, 2, 3);
        odds(with(4, 0, 1, 0, 2), 0, 3, 3, 4);
        odds(with(4, 0, 1, 2, 3), 0, 3, 5, 6);
        odds(with(4, 0, 1, 2, 3), 3, 0, 1, 6);
        odds(with(6, 0, 1, 0, 2, 0, 3, 0, 4), 5, 0, 1, 6);
        odds(with(6, 0, 1, 0, 2, 0, 3, 0, 4), 0, 5, 5, 6);
    }

    private static void oddsOfSureAndOfNever() {
        KitchenTable x = row(10);
        odds(x, 9, 0, 1, 1);
        odds(x, 0, 9, 0, 1);
        odds(with(2, 0, 1), 0, 1, 1, 1);
        odds(with(2, 0, 1), 1, 0, 0, 1);
        odds(with(10, 0, 1), 0, 1, 1, 1);
        odds(with(10, 0, 1), 1, 0, 0, 1);
        odds(with(10, 0, 1, 1, 9), 9, 0, 0, 1);
    }

    private static void oddsIfThereAreNone() {
        KitchenTable x = with(10, 3, 4, 4, 3);
        odds(x, 0, 1, 0, 1);
        odds(x, 3, 4, 0, 1);
        odds(x, 4, 3, 0, 1);
        odds(x, 9, 8, 0, 1);
    }

    private static void oddsOfTheMost() {
        KitchenTable x = with(10, 0, 1, 0, 2, 0, 3, 0, 4, 0, 5, 0, 6, 0, 7, 0, 8);
        odds(x, 9, 0, 1, 10);
        odds(x, 0, 9, 9, 10);
        DUE.is("Promise 22: no mark came", x.count(2), 8);
        DUE.is("Promise 22: the orders stay", x.orders(), 403200);
    }

    private static void place(KitchenTable x, int note, int least, int greatest) {
        DUE.is("Promise 23: the least of " + note, x.place(note, 0), least);
        DUE.is("Promise 23: the greatest of " + note, x.place(note, 1), greatest);
    }

    private static void placeIsOfANote() {
        DUE.is("Promise 23: no notes", with(0).place(0, 0), BAD);
        KitchenTable x = with(10);
        int[][] bad = {{-1, 0}, {10, 0}, {0, -1}, {0, 2}, {Integer.MAX_VALUE, 1}, {Integer.MIN_VALUE, 1},
            {9, Integer.MAX_VALUE}, {9, Integer.MIN_VALUE}};
        for (int[] b : bad) {
            DUE.is("Promise 23: " + b[0] + ", " + b[1], x.place(b[0], b[1]), BAD);
        }
    }

    private static void placeWithoutMarks() {
        for (int notes = 1; notes <= 10; notes++) {
            KitchenTable x = with(notes);
            for (int note = 0; note < notes; note++) {
                place(x, note, 0, notes - 1);
            }
        }
    }

    private static void placeInARow() {
        KitchenTable x = row(10);
        for (int note = 0; note < 10; note++) {
            place(x, note, 9 - note, 9 - note);
        }
        x = row(9);
        x.note(0, 0, 0);
        place(x, 9, 0, 9);
        place(x, 8, 0, 1);
        place(x, 0, 8, 9);
    }

    private static void placeIfThereAreNone() {
        KitchenTable x = with(10, 0, 1, 1, 0);
        for (int note = 0; note < 10; note++) {
            place(x, note, NONE, NONE);
        }
        DUE.is("Promise 23: BAD, though there are none", x.place(10, 0), BAD);
        DUE.is("Promise 23: BAD, though there are none", x.place(0, 2), BAD);
        DUE.is("Promise 23: BAD, though there are none", x.place(-1, 1), BAD);
    }

    /** What must come ahead of what must come ahead of one must come ahead of it. */
    private static void placeByAllMarksTogether() {
        KitchenTable x = with(6, 0, 1, 1, 2, 3, 2, 2, 4);
        place(x, 0, 0, 2);
        place(x, 1, 1, 3);
        place(x, 2, 3, 4);
        place(x, 3, 0, 3);
        place(x, 4, 4, 5);
        place(x, 5, 0, 5);
    }
}
