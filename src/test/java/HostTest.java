/** Promises 28 to 32: sheet, cell, copy, notes, taken. */
public final class HostTest {
    private static final Due DUE = new Due("HostTest");
    private static final int LEAST = Integer.MIN_VALUE, GREATEST = Integer.MAX_VALUE;

    public static void main(String[] args) {
        sheet();
        cell();
        copy();
        copied();
        notes();
        taken();
        DUE.end();
    }

    private static void sheet() {
        KitchenTable x = new KitchenTable();
        int[][] bad = {{-1, 0, 1}, {4, 0, 1}, {LEAST, 0, 1}, {GREATEST, 0, 1}, {0, -2, 1}, {0, 3, 1}, {0, GREATEST, 1},
            {0, LEAST, 1}, {0, 0, 41}, {0, 2, GREATEST}, {4, 0, -1}, {0, 3, -1}, {-1, -1, 0}};
        for (int[] b : bad) {
            DUE.is("28: " + b[0] + ", " + b[1] + ", " + b[2], x.sheet(b[0], b[1], b[2]), KitchenTable.BAD);
        }
        DUE.is("28: below 0", x.sheet(0, 0, -1), -14);
        DUE.is("28: below 0", x.sheet(0, 2, LEAST), -14);
        DUE.is("28: still missing", x.cell(0, 0, 0), -11);
        for (int sort = 0; sort < 3; sort++) {
            DUE.is("28: of none", x.sheet(sort, sort, 0), 1);
            DUE.is("28: of none", x.cell(sort, 0, 0), -12);
            DUE.is("28: of 40", x.sheet(sort, sort, 40), 1);
            DUE.is("28: of 40", x.cell(sort, 39, 5), 1);
            DUE.is("28: of 40", x.cell(sort, 40, 5), -12);
        }
        x.sheet(0, 0, 40);
        DUE.is("28: all 0 again", x.came(0), KitchenTable.NONE);
        x.cell(0, 3, 9);
        DUE.is("28: refused, it stays", x.sheet(0, 0, 41), KitchenTable.BAD);
        DUE.is("28: refused, it stays", x.sheet(0, 0, -1), -14);
        DUE.is("28: refused, it stays", x.came(0), 3);
        int[] any = {0, 5, 41, -1, LEAST, GREATEST};
        for (int n : any) {
            DUE.is("28: missing, whatever " + n + " is", x.sheet(0, -1, n), 1);
            DUE.is("28: missing", x.came(0), -11);
            x.sheet(0, 1, 2);
        }
    }

    private static void cell() {
        KitchenTable x = new KitchenTable();
        for (int wrong : new int[] {-1, 4, LEAST, GREATEST}) {
            DUE.is("29: sheet " + wrong, x.cell(wrong, 0, 0), KitchenTable.BAD);
        }
        DUE.is("29: missing", x.cell(0, -1, 0), -11);
        x.sheet(0, 2, 3);
        for (int wrong : new int[] {-1, 3, 40, LEAST, GREATEST}) {
            DUE.is("29: item " + wrong, x.cell(0, wrong, 0), -12);
        }
        DUE.is("29: an int", x.cell(0, 0, 256), 1);
        DUE.is("29: all of it", x.came(0), 0);
        x.cell(0, 0, 65536);
        DUE.is("29: all of it", x.came(0), 0);
        x.sheet(0, 1, 3);
        x.cell(0, 0, 65536 * 3);
        DUE.is("29: 16 bits", x.came(0), KitchenTable.NONE);
        x.cell(0, 0, 256);
        DUE.is("29: 16 bits", x.came(0), 0);
        x.sheet(0, 0, 3);
        x.cell(0, 0, -256);
        DUE.is("29: 8 bits", x.came(0), KitchenTable.NONE);
        x.cell(0, 0, -255);
        DUE.is("29: 8 bits", x.came(0), 0);
        x.cell(0, 0, 0);
        x.cell(0, 2, 1);
        DUE.is("29: the last", x.came(0), 2);
    }

    private static void copy() {
        KitchenTable x = new KitchenTable();
        for (int wrong : new int[] {-1, 4, LEAST, GREATEST}) {
            DUE.is("30: sheet " + wrong, x.copy(wrong, 0, 0, 0, 0), KitchenTable.BAD);
            DUE.is("30: other " + wrong, x.copy(0, 0, wrong, 0, 0), KitchenTable.BAD);
        }
        DUE.is("30: both missing", x.copy(0, 0, 1, 0, -1), -11);
        x.sheet(0, 0, 5);
        DUE.is("30: other missing", x.copy(0, 9, 1, 0, 1), -11);
        DUE.is("30: one missing", x.copy(1, 0, 0, 9, 1), -11);
        x.sheet(1, 1, 5);
        DUE.is("30: unlike sorts", x.copy(0, 0, 1, 0, 1), -13);
        DUE.is("30: unlike sorts ahead of places", x.copy(0, -1, 1, 9, -1), -13);
        x.sheet(1, 0, 3);
        int[][] outside = {{0, 0, -1}, {-1, 0, 1}, {0, -1, 1}, {0, 0, 4}, {3, 0, 3}, {0, 1, 3}, {6, 0, 0}, {0, 4, 0},
            {-1, 0, 0}, {0, -1, 0}, {GREATEST, 0, 1}, {0, GREATEST, 1}, {1, 1, GREATEST}, {GREATEST, GREATEST, GREATEST},
            {0, 0, LEAST}, {LEAST, 0, 1}, {0, LEAST, LEAST}};
        for (int[] o : outside) {
            DUE.is("30: " + o[0] + ", " + o[1] + ", " + o[2], x.copy(0, o[0], 1, o[1], o[2]), -12);
        }
        DUE.is("30: none", x.copy(0, 5, 1, 3, 0), 0);
        DUE.is("30: all", x.copy(0, 2, 1, 0, 3), 3);
    }

    /** Whoever comes in hour h is told by bit h / 8; a sheet that was copied is read by came(). */
    private static void copied() {
        KitchenTable x = new KitchenTable();
        Due.sheet(x, 0, 2, 0, 1, 0, 1 << 20, 0);
        Due.sheet(x, 1, 2, 0, 0, 0, 0, 0, 0);
        x.copy(0, 1, 1, 3, 3);
        DUE.is("30: a copy's first", x.came(1), 3);
        x.cell(1, 3, 0);
        DUE.is("30: a copy's third", x.came(1), 5);
        x.cell(1, 5, 0);
        DUE.is("30: no more", x.came(1), KitchenTable.NONE);
        DUE.is("30: the sheet itself stays", x.came(0), 1);
        // Onto itself, as they were: 0 1 0 7 0 from 0 to 1 makes 0 0 1 0 7.
        x.cell(0, 3, 7);
        DUE.is("30: onto itself", x.copy(0, 0, 0, 1, 4), 4);
        for (int place : new int[] {2, 4}) {
            DUE.is("30: as they were", x.came(0), place);
            x.cell(0, place, 0);
        }
        DUE.is("30: as they were", x.came(0), KitchenTable.NONE);
        Due.sheet(x, 2, 0, 0, 0, 1, 0, 2);
        DUE.is("30: onto itself, down", x.copy(2, 1, 2, 0, 4), 4);
        for (int place : new int[] {1, 3, 4}) {
            DUE.is("30: down, as they were", x.came(2), place);
            x.cell(2, place, 0);
        }
        DUE.is("30: down, as they were", x.came(2), KitchenTable.NONE);
    }

    private static void notes() {
        KitchenTable x = new KitchenTable();
        int[][] bad = {{-1, 0, 0, 1}, {4, 0, 0, 1}, {0, -1, 0, 1}, {0, 3, 0, 1}, {0, 0, 0, -1}, {0, 0, 0, 11},
            {GREATEST, 0, 0, 1}, {0, LEAST, 0, 1}, {0, 0, 0, GREATEST}, {0, 0, 0, LEAST}};
        for (int[] b : bad) {
            DUE.is("31: " + b[0] + ", " + b[1] + ", " + b[2] + ", " + b[3], x.notes(b[0], b[1], b[2], b[3]),
                KitchenTable.BAD);
        }
        DUE.is("31: missing, taken for any sort", x.notes(0, 2, 0, 1), -11);
        Due.sheet(x, 0, 1, 9, 4, 7, 35, 2, 48, 0, 1, 0, 11);
        DUE.is("31: of another sort", x.notes(0, 2, -1, 1), -13);
        DUE.is("31: of another sort, none asked", x.notes(0, 0, 0, 0), -13);
        DUE.is("31: none asked", x.notes(0, 1, 0, 0), 0);
        DUE.is("31: one comes, one is left out", x.notes(0, 1, 1, 3), 2);
        int[] due = {4, 7, 3, 5};
        for (int what = 0; what < due.length; what++) {
            DUE.is("31: as of note()", x.told(0, what), due[what]);
        }
        DUE.is("31: the third", x.told(1, 2), 1);
        DUE.is("31: behind the end, the rest came", x.notes(0, 1, 7, 2), -12);
        DUE.is("31: behind the end, the rest came", x.count(1), 3);
        int[] outside = {-1, -3, 8, 9, 10, 40, LEAST, GREATEST, GREATEST - 1, GREATEST - 2};
        for (int from : outside) {
            DUE.is("31: from " + from, x.notes(0, 1, from, 2), -12);
            DUE.is("31: none came", x.count(1), 3);
        }
        Due.sheet(x, 3, 0, 5, 40, 255, 0, 0, 300);
        DUE.is("31: bytes: -1 is none such, 44 neither", x.notes(3, 0, 0, 2), 0);
        Due.sheet(x, 3, 2, new int[30]);
        DUE.is("31: till there is no room", x.notes(3, 2, 0, 10), 7);
        DUE.is("31: no room", x.notes(3, 2, 27, 1), 0);
        DUE.is("31: no room, yet outside", x.notes(3, 2, 3, 10), -12);
        DUE.is("31: ten", x.count(1), 10);
    }

    private static void taken() {
        KitchenTable x = new KitchenTable();
        DUE.is("32: no note", x.taken(0, 0), -11);
        DUE.is("32: k is first", x.taken(0, 6), KitchenTable.BAD);
        for (int kind = 0; kind < 6; kind++) {
            x.note(kind, 0, 10 + kind);
        }
        // Bits of the KINDS that each KIND is or lies under.
        int[] under = {1, 1 + 2, 1 + 4, 1 + 2 + 8, 1 + 4 + 16, 1 + 2 + 8 + 32};
        for (int note = 0; note < 6; note++) {
            for (int k = 0; k < 6; k++) {
                DUE.is("32: " + note + " for " + k, x.taken(note, k), (under[note] >> k & 1) != 0 ? note : -13);
            }
        }
        for (int wrong : new int[] {-1, 6, LEAST, GREATEST}) {
            DUE.is("32: k " + wrong, x.taken(0, wrong), KitchenTable.BAD);
            DUE.is("32: k " + wrong + " of no note", x.taken(6, wrong), KitchenTable.BAD);
        }
        for (int wrong : new int[] {-1, 6, LEAST, GREATEST}) {
            DUE.is("32: note " + wrong, x.taken(wrong, 0), -11);
        }
    }
}
