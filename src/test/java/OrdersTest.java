/** Promises 20 to 23: mark, orders, odds, place. */
public final class OrdersTest {
    private static final Due DUE = new Due("OrdersTest");

    public static void main(String[] args) {
        mark();
        orders();
        odds();
        place();
        DUE.end();
    }

    private static KitchenTable with(int notes) {
        KitchenTable x = new KitchenTable();
        for (int i = 0; i < notes; i++) {
            x.note(0, 0, 0);
        }
        return x;
    }

    private static void mark() {
        KitchenTable x = with(3);
        int[][] bad = {{0, 0}, {0, 3}, {3, 0}, {-1, 0}, {0, -1}, {Integer.MAX_VALUE, 0}, {0, Integer.MIN_VALUE}};
        for (int[] b : bad) {
            DUE.is("20: " + b[0] + ", " + b[1], x.mark(b[0], b[1]), KitchenTable.BAD);
        }
        DUE.is("20: none came", x.count(2), 0);
        for (int i = 1; i <= 20; i++) {
            DUE.is("20: also anew", x.mark(0, 1 + i % 2), i);
        }
        DUE.is("20: FULL", x.mark(1, 2), KitchenTable.FULL);
        DUE.is("20: BAD is first", x.mark(1, 1), KitchenTable.BAD);
        DUE.is("20: count", x.count(2), 20);
        DUE.is("20: the full one is none", x.orders(), 2);
    }

    private static void orders() {
        long due = 1;
        for (int n = 0; n <= 10; n++) {
            due *= n == 0 ? 1 : n;
            DUE.is("21: of " + n, with(n).orders(), due);
        }
        KitchenTable x = with(10);
        for (int i = 0; i < 9; i++) {
            x.mark(i + 1, i);
        }
        DUE.is("21: a row", x.orders(), 1);
        x.mark(0, 9);
        DUE.is("21: a ring", x.orders(), 0);
        x = with(4);
        x.mark(0, 2);
        x.mark(0, 2);
        x.mark(1, 3);
        DUE.is("21: two pairs", x.orders(), 6);
        x.note(0, 0, 0);
        DUE.is("21: a note more", x.orders(), 30);
        x.mark(2, 0);
        DUE.is("21: both", x.orders(), 0);
    }

    private static void odds(KitchenTable x, int ahead, int behind, long above, long below) {
        DUE.is("22: above " + ahead + ", " + behind, x.odds(ahead, behind, 0), above);
        DUE.is("22: below " + ahead + ", " + behind, x.odds(ahead, behind, 1), below);
    }

    private static void odds() {
        KitchenTable x = with(4);
        int[][] bad = {{0, 0, 0}, {0, 4, 0}, {4, 0, 0}, {-1, 0, 0}, {0, -1, 0}, {0, 1, 2}, {0, 1, -1},
            {Integer.MAX_VALUE, 0, 0}, {0, Integer.MIN_VALUE, 0}, {0, 1, Integer.MAX_VALUE}};
        for (int[] b : bad) {
            DUE.is("22: " + b[0] + ", " + b[1] + ", " + b[2], x.odds(b[0], b[1], b[2]), KitchenTable.NO);
        }
        odds(x, 0, 1, 1, 2);
        odds(x, 3, 2, 1, 2);
        x.mark(0, 1);
        odds(x, 0, 1, 1, 1);
        odds(x, 1, 0, 0, 1);
        odds(x, 0, 2, 2, 3);
        odds(x, 2, 0, 1, 3);
        odds(x, 1, 2, 1, 3);
        odds(x, 2, 3, 1, 2);
        x.mark(2, 3);
        // Six orders: 0 ahead of 3 in five of these.
        odds(x, 0, 3, 5, 6);
        odds(x, 3, 0, 1, 6);
        x.mark(1, 0);
        odds(x, 0, 3, 0, 1);
        odds(x, 0, 1, 0, 1);
        DUE.is("22: BAD though there are none", x.odds(0, 0, 0), KitchenTable.NO);
        DUE.is("22: no mark came", x.count(2), 3);
        x = with(2);
        x.mark(1, 0);
        odds(x, 1, 0, 1, 1);
        odds(x, 0, 1, 0, 1);
        DUE.is("22: of none", new KitchenTable().odds(0, 1, 0), KitchenTable.NO);
    }

    private static void place(KitchenTable x, int note, int least, int greatest) {
        DUE.is("23: least of " + note, x.place(note, 0), least);
        DUE.is("23: greatest of " + note, x.place(note, 1), greatest);
    }

    private static void place() {
        KitchenTable x = with(6);
        int[][] bad = {{6, 0}, {-1, 0}, {0, 2}, {0, -1}, {Integer.MAX_VALUE, 0}, {0, Integer.MIN_VALUE}};
        for (int[] b : bad) {
            DUE.is("23: " + b[0] + ", " + b[1], x.place(b[0], b[1]), KitchenTable.BAD);
        }
        place(x, 0, 0, 5);
        place(x, 5, 0, 5);
        x.mark(0, 1);
        x.mark(1, 2);
        x.mark(3, 2);
        x.mark(3, 4);
        place(x, 0, 0, 3);
        place(x, 1, 1, 4);
        place(x, 2, 3, 5);
        place(x, 3, 0, 3);
        place(x, 4, 1, 5);
        place(x, 5, 0, 5);
        x.mark(2, 4);
        place(x, 2, 3, 4);
        place(x, 4, 4, 5);
        x.mark(2, 0);
        for (int note = 0; note < 6; note++) {
            place(x, note, KitchenTable.NONE, KitchenTable.NONE);
        }
        DUE.is("23: BAD though there are none", x.place(6, 0), KitchenTable.BAD);
        x = with(1);
        place(x, 0, 0, 0);
    }
}
