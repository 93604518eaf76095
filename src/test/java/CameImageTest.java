/** Promises 24 to 27: came, image, back, count. */
public final class CameImageTest {
    private static final Due DUE = new Due("CameImageTest");

    public static void main(String[] args) {
        came();
        image();
        count();
        DUE.end();
    }

    private static void came() {
        KitchenTable x = new KitchenTable();
        for (int wrong : new int[] {-1, 4, Integer.MIN_VALUE, Integer.MAX_VALUE}) {
            DUE.is("24: sheet " + wrong, x.came(wrong), KitchenTable.BAD);
        }
        DUE.is("24: missing", x.came(0), -11);
        x.sheet(0, 0, 0);
        DUE.is("24: of none", x.came(0), KitchenTable.BAD);
        for (int sort = 0; sort < 3; sort++) {
            x.sheet(3, sort, 40);
            DUE.is("24: nobody in 40 HOURS", x.came(3), KitchenTable.NONE);
        }
        x.cell(3, 39, 1);
        DUE.is("24: the last of them", x.came(3), 39);
        x.person(39, 1, 0);
        DUE.is("24: one came then", x.came(3), KitchenTable.NONE);
        x.person(1, 3, 129);
        DUE.is("24: one came whom it does not tell", x.came(3), 1);
        Due.sheet(x, 0, 0, 0, 2, 0, 0, 2);
        DUE.is("24: a part of the HOURS", x.came(0), KitchenTable.NONE);
        x.sheet(0, 0, 1);
        DUE.is("24: one HOUR", x.came(0), KitchenTable.NONE);
        x.cell(0, 0, 1);
        DUE.is("24: one HOUR", x.came(0), 0);
        x.person(4, 24, 0);
        x.person(0, 4, 0);
        x.person(0, 2, 0);
        x.cell(0, 0, 0);
        DUE.is("24: two come in 0", x.came(0), 0);
        Due.sheet(x, 1, 2, 24, 2, 16, 0, 30);
        DUE.is("24: bits", x.came(1), KitchenTable.NONE);
        x.cell(1, 4, 30 + 32);
        DUE.is("24: one who isn't there", x.came(1), 4);
        x.cell(1, 2, 16 + (1 << 16));
        DUE.is("24: an int is no short", x.came(1), 2);
        Due.sheet(x, 2, 1, 24 + (1 << 16), 2 - (1 << 20), 16, 0, 30, 1 << 15);
        DUE.is("24: a short's lowest bits", x.came(2), 5);
        Due.sheet(x, 2, 0, 24 + 256, 2 - 512, 16, 0, 30, 128);
        DUE.is("24: a byte's lowest bits", x.came(2), 5);
    }

    private static KitchenTable furnished() {
        KitchenTable x = new KitchenTable();
        x.person(1, 2, 34);
        x.note(2, 5, 16);
        x.note(1, 6, 27);
        x.mark(0, 1);
        Due.text(x, "do 1; take 0; care 0;");
        Due.text(x, "do 0; take 0; care 5;");
        x.force(1);
        return x;
    }

    private static void image() {
        KitchenTable x = new KitchenTable();
        DUE.is("26: there is none", x.back(), KitchenTable.STATE);
        DUE.is("25: of nothing", x.image(), 0);
        DUE.is("26: of nothing", x.back(), 0);

        x = furnished();
        DUE.is("26: there is none", x.back(), KitchenTable.STATE);
        DUE.is("25: marks", x.image(), 1);
        int[] changed = {11, 12, 7, 8};
        for (int what = 0; what < 4; what++) {
            x.set(what, 0, changed[what]);
        }
        x.set(4, 0, 30);
        x.person(40, 5, 11);
        x.note(0, 41, 2);
        x.mark(1, 0);
        x.mark(2, 0);
        x.force(2);
        x.feed('d');
        x.sheet(0, 0, 3);
        DUE.is("26: how many marks", x.back(), 1);
        int[] due = {2, 3, 1, 3, 1, 1};
        for (int what = 0; what < due.length; what++) {
            DUE.is("26: count(" + what + ")", x.count(what), due[what]);
        }
        DUE.is("26: a sheet stays", x.cell(0, 2, 0), 1);
        DUE.is("26: marks that came since go", x.orders(), 3);
        DUE.is("26: HOUR", x.told(0, 1), 5);
        DUE.is("26: a note that came since stays", x.told(2, 1), 41);
        int[] traits = {1, 2, 3, 4};
        int[] stayed = {40, 5, 1, 1};
        for (int what = 0; what < 4; what++) {
            DUE.is("26: one that came since stays", x.set(what, 1, 1), stayed[what]);
            DUE.is("26: set(" + what + ")", x.set(what, 0, 9), traits[what]);
        }
        x.mark(2, 1);
        DUE.is("26: the mark behind", x.orders(), 2);
        DUE.is("26: again", x.back(), 1);
        DUE.is("26: again", x.set(0, 0, 3), 1);
        DUE.is("26: again", x.orders(), 3);
        DUE.is("25: a new one", x.image(), 1);
        x.set(0, 0, 4);
        x.set(1, 1, 20);
        x.set(4, 2, 2);
        x.back();
        DUE.is("26: the last one", x.set(0, 0, 4), 3);
        DUE.is("26: with all that there were", x.set(1, 1, 1), 1);
        DUE.is("26: with all that there were", x.told(2, 1), 41);
    }

    private static void count() {
        KitchenTable x = furnished();
        x.feed('x');
        x.feed('y');
        int[] due = {1, 2, 1, 3, 2, 1};
        for (int what = 0; what < due.length; what++) {
            DUE.is("27: count(" + what + ")", x.count(what), due[what]);
        }
        for (int wrong : new int[] {-1, 6, Integer.MIN_VALUE, Integer.MAX_VALUE}) {
            DUE.is("27: what " + wrong, x.count(wrong), KitchenTable.BAD);
        }
    }
}
