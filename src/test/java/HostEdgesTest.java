/** Promises 28 to 32 at their edges: each sentence that names one has a method of its own. */
public final class HostEdgesTest {
    private static final int NONE = KitchenTable.NONE, BAD = KitchenTable.BAD;
    private static final int MISSING = -11, OUTSIDE = -12, OTHER = -13, BELOW_0 = -14;
    private static final int LEAST = Integer.MIN_VALUE, GREATEST = Integer.MAX_VALUE;
    private static final Due DUE = new Due("HostEdgesTest");

    public static void main(String[] args) {
        aSheetIsOneOfFour();
        aSortIsOneOfThree();
        aSizeIs0To40();
        aSheetIsAll0();
        missingWhateverNIs();
        aSheetStaysApart();
        aCellIsInside();
        aByteHas8Bits();
        aShortHas16Bits();
        anIntHas32Bits();
        copyOfNone();
        copyOfAll();
        copyUpToTheEnds();
        copyAsTheyWere();
        copyOfEachSort();
        notesOfNone();
        notesOfTen();
        notesUpToTheEnd();
        notesThatAreNoneAreLeftOut();
        notesBehindFullAreLeftOut();
        notesThatStoodAheadCame();
        notesThatCameAreThere();
        notesByEachSort();
        notesAreOfWhatASheetHolds();
        takenByEachKind();
        takenIsOfANoteThatThereIs();
        DUE.end();
    }

    private static void aSheetIsOneOfFour() {
        KitchenTable x = new KitchenTable();
        DUE.is("Promise 28: sheet -1", x.sheet(-1, 0, 1), BAD);
        DUE.is("Promise 28: sheet 4", x.sheet(4, 0, 1), BAD);
        DUE.is("Promise 28: sheet -1 missing", x.sheet(-1, -1, 1), BAD);
        DUE.is("Promise 28: sheet 4 missing", x.sheet(4, -1, 1), BAD);
        for (int sheet = 0; sheet < 4; sheet++) {
            DUE.is("Promise 28: sheet " + sheet, x.sheet(sheet, 0, 1), 1);
            DUE.is("Promise 29: sheet " + sheet, x.cell(sheet, 0, 0), 1);
        }
    }

    private static void aSortIsOneOfThree() {
        KitchenTable x = new KitchenTable();
        DUE.is("Promise 28: sort -2", x.sheet(0, -2, 1), BAD);
        DUE.is("Promise 28: sort 3", x.sheet(0, 3, 1), BAD);
        DUE.is("Promise 28: still missing", x.cell(0, 0, 0), MISSING);
        for (int sort = 0; sort < 3; sort++) {
            DUE.is("Promise 28: sort " + sort, x.sheet(0, sort, 3), 1);
            for (int other = 0; other < 3; other++) {
                DUE.is("Promise 31: it is of sort " + sort, x.notes(0, other, 0, 0), other == sort ? 0 : OTHER);
            }
        }
    }

    private static void aSizeIs0To40() {
        KitchenTable x = new KitchenTable();
        for (int sort = 0; sort < 3; sort++) {
            DUE.is("Promise 28: size -1", x.sheet(sort, sort, -1), BELOW_0);
            DUE.is("Promise 28: size 41", x.sheet(sort, sort, 41), BAD);
            DUE.is("Promise 28: still missing", x.cell(sort, 0, 0), MISSING);
            DUE.is("Promise 28: size 0", x.sheet(sort, sort, 0), 1);
            DUE.is("Promise 28: nothing is inside", x.cell(sort, 0, 0), OUTSIDE);
            DUE.is("Promise 28: size 1", x.sheet(sort, sort, 1), 1);
            DUE.is("Promise 28: the only one", x.cell(sort, 0, 0), 1);
            DUE.is("Promise 28: behind it", x.cell(sort, 1, 0), OUTSIDE);
            DUE.is("Promise 28: size 40", x.sheet(sort, sort, 40), 1);
            DUE.is("Promise 28: the last of 40", x.cell(sort, 39, 7), 1);
            DUE.is("Promise 28: behind them", x.cell(sort, 40, 0), OUTSIDE);
            DUE.is("Promise 28: size 41", x.sheet(sort, sort, 41), BAD);
            DUE.is("Promise 28: size -1", x.sheet(sort, sort, -1), BELOW_0);
            DUE.is("Promise 28: refused, it stays", x.came(sort), 39);
        }
    }

    private static void aSheetIsAll0() {
        KitchenTable x = new KitchenTable();
        for (int sort = 0; sort < 3; sort++) {
            x.sheet(0, sort, 40);
            DUE.is("Promise 28: all 0", x.came(0), NONE);
            x.cell(0, 0, 1);
            x.cell(0, 20, 1);
            x.cell(0, 39, 1);
            DUE.is("Promise 29: not 0", x.came(0), 0);
            x.sheet(0, sort, 40);
            DUE.is("Promise 28: all 0 anew", x.came(0), NONE);
            x.cell(0, 39, 1);
            x.sheet(0, -1, 0);
            x.sheet(0, sort, 40);
            DUE.is("Promise 28: all 0 behind missing", x.came(0), NONE);
            x.cell(0, 39, 1);
            x.sheet(0, sort, 1);
            x.sheet(0, sort, 40);
            DUE.is("Promise 28: all 0 behind a short one", x.came(0), NONE);
            x.cell(0, 39, 1);
        }
    }

    private static void missingWhateverNIs() {
        KitchenTable x = new KitchenTable();
        for (int n : new int[] {0, 1, 40, 41, -1, LEAST, GREATEST}) {
            x.sheet(2, 1, 3);
            DUE.is("Promise 28: missing, n " + n, x.sheet(2, -1, n), 1);
            DUE.is("Promise 28: missing, n " + n, x.cell(2, 0, 0), MISSING);
            DUE.is("Promise 28: missing anew, n " + n, x.sheet(2, -1, n), 1);
        }
    }

    private static void aSheetStaysApart() {
        KitchenTable x = new KitchenTable();
        for (int sheet = 0; sheet < 4; sheet++) {
            x.sheet(sheet, 2, 4);
            x.cell(sheet, sheet, 9);
        }
        for (int sheet = 0; sheet < 4; sheet++) {
            DUE.is("Promise 28: each has its own", x.came(sheet), sheet);
        }
        x.sheet(1, -1, 0);
        DUE.is("Promise 28: one is missing", x.came(1), MISSING);
        DUE.is("Promise 28: another is not", x.came(2), 2);
    }

    private static void aCellIsInside() {
        KitchenTable x = new KitchenTable();
        DUE.is("Promise 29: sheet -1", x.cell(-1, 0, 0), BAD);
        DUE.is("Promise 29: sheet 4", x.cell(4, 0, 0), BAD);
        DUE.is("Promise 29: missing is ahead of outside", x.cell(0, -1, 0), MISSING);
        for (int sort = 0; sort < 3; sort++) {
            x.sheet(0, sort, 40);
            DUE.is("Promise 29: item -1", x.cell(0, -1, 1), OUTSIDE);
            DUE.is("Promise 29: item 40", x.cell(0, 40, 1), OUTSIDE);
            DUE.is("Promise 29: item MIN", x.cell(0, LEAST, 1), OUTSIDE);
            DUE.is("Promise 29: item MAX", x.cell(0, GREATEST, 1), OUTSIDE);
            DUE.is("Promise 29: none was changed", x.came(0), NONE);
            DUE.is("Promise 29: item 39", x.cell(0, 39, 1), 1);
            DUE.is("Promise 29: item 39 alone", x.came(0), 39);
            DUE.is("Promise 29: item 0", x.cell(0, 0, 1), 1);
            DUE.is("Promise 29: item 0", x.came(0), 0);
        }
    }

    /** Whether a cell that became v is as 21 people's bits would be: 16, 4 and 1, of the five that come in HOUR 0. */
    private static void cut(int sort, int v, boolean is21) {
        KitchenTable x = new KitchenTable();
        int[] first = {0, 1, 0, 1, 0};
        for (int f : first) {
            x.person(f, 24, 0);
        }
        x.sheet(0, sort, 1);
        DUE.is("Promise 29: cell " + v, x.cell(0, 0, v), 1);
        DUE.is("Promise 29: of sort " + sort + " became " + v, x.came(0), is21 ? NONE : 0);
    }

    private static void aByteHas8Bits() {
        int[] alike = {21, 256 + 21, -256 + 21, 65536 + 21, -65536 + 21, LEAST + 21, GREATEST - 255 + 21, 0x12345615};
        for (int v : alike) {
            cut(0, v, true);
        }
        for (int bit = 0; bit < 32; bit++) {
            cut(0, 21 ^ 1 << bit, bit >= 8);
        }
    }

    private static void aShortHas16Bits() {
        int[] alike = {21, 65536 + 21, -65536 + 21, LEAST + 21, GREATEST - 65535 + 21, 0x12340015};
        for (int v : alike) {
            cut(1, v, true);
        }
        for (int bit = 0; bit < 32; bit++) {
            cut(1, 21 ^ 1 << bit, bit >= 16);
        }
    }

    private static void anIntHas32Bits() {
        cut(2, 21, true);
        cut(2, LEAST + 21, false);
        cut(2, GREATEST, false);
        for (int bit = 0; bit < 32; bit++) {
            cut(2, 21 ^ 1 << bit, false);
        }
    }

    private static void copyOfNone() {
        KitchenTable x = new KitchenTable();
        x.sheet(0, 0, 5);
        Due.sheet(x, 1, 0, 1, 2, 3);
        DUE.is("Promise 30: none", x.copy(0, 0, 1, 0, 0), 0);
        DUE.is("Promise 30: none, from the ends on", x.copy(0, 5, 1, 3, 0), 0);
        DUE.is("Promise 30: none, from behind an end on", x.copy(0, 6, 1, 3, 0), OUTSIDE);
        DUE.is("Promise 30: none, from behind an end on", x.copy(0, 5, 1, 4, 0), OUTSIDE);
        DUE.is("Promise 30: none, from ahead of 0 on", x.copy(0, -1, 1, 0, 0), OUTSIDE);
        DUE.is("Promise 30: none, from ahead of 0 on", x.copy(0, 0, 1, -1, 0), OUTSIDE);
        DUE.is("Promise 30: n -1", x.copy(0, 1, 1, 1, -1), OUTSIDE);
        DUE.is("Promise 30: none came", x.came(1), 0);
        x.sheet(2, 0, 0);
        DUE.is("Promise 30: none of none", x.copy(2, 0, 2, 0, 0), 0);
        DUE.is("Promise 30: one of none", x.copy(2, 0, 2, 0, 1), OUTSIDE);
    }

    private static void copyOfAll() {
        for (int sort = 0; sort < 3; sort++) {
            KitchenTable x = new KitchenTable();
            x.sheet(0, sort, 40);
            x.sheet(3, sort, 40);
            for (int i = 0; i < 40; i++) {
                x.cell(0, i, i % 2);
                x.cell(3, i, 1 - i % 2);
            }
            DUE.is("Promise 30: 40", x.copy(0, 0, 3, 0, 40), 40);
            DUE.is("Promise 30: 41", x.copy(0, 0, 3, 0, 41), OUTSIDE);
            for (int i = 1; i < 40; i += 2) {
                DUE.is("Promise 30: all came", x.came(3), i);
                x.cell(3, i, 0);
            }
            DUE.is("Promise 30: all came", x.came(3), NONE);
            DUE.is("Promise 30: what they came from stays", x.came(0), 1);
        }
    }

    private static void copyUpToTheEnds() {
        KitchenTable x = new KitchenTable();
        Due.sheet(x, 0, 1, 5, 6, 7, 8);
        x.sheet(1, 1, 6);
        DUE.is("Promise 30: from the last on", x.copy(0, 3, 1, 5, 1), 1);
        DUE.is("Promise 30: to the last", x.came(1), 5);
        DUE.is("Promise 30: two from the last on", x.copy(0, 3, 1, 0, 2), OUTSIDE);
        DUE.is("Promise 30: two to the last", x.copy(0, 0, 1, 5, 2), OUTSIDE);
        DUE.is("Promise 30: nothing of what is partly outside came", x.came(1), 5);
        x.cell(1, 5, 0);
        DUE.is("Promise 30: nothing of what is partly outside came", x.came(1), NONE);
        DUE.is("Promise 30: all, to the end", x.copy(0, 0, 1, 2, 4), 4);
        DUE.is("Promise 30: all, to the end", x.came(1), 2);
        DUE.is("Promise 30: all, and one behind", x.copy(0, 0, 1, 3, 4), OUTSIDE);
        DUE.is("Promise 30: places that would wrap", x.copy(0, 1, 1, 1, GREATEST), OUTSIDE);
        DUE.is("Promise 30: places that would wrap", x.copy(0, GREATEST, 1, 0, 1), OUTSIDE);
        DUE.is("Promise 30: places that would wrap", x.copy(0, 0, 1, GREATEST, 1), OUTSIDE);
        DUE.is("Promise 30: places that would wrap", x.copy(0, 0, 1, 0, LEAST), OUTSIDE);
    }

    /** What a sheet of three holds, as the note that it makes tells. */
    private static void holds(String why, KitchenTable x, int sheet, int sort, int... due) {
        int note = x.count(1);
        DUE.is(why, x.notes(sheet, sort, 0, 1), 1);
        DUE.is(why + ": first", x.told(note, 0), due[0]);
        DUE.is(why + ": second", x.told(note, 1), due[1]);
        DUE.is(why + ": third", 10 * x.told(note, 2) + x.told(note, 3), due[2]);
    }

    private static void copyAsTheyWere() {
        for (int sort = 0; sort < 3; sort++) {
            KitchenTable x = new KitchenTable();
            Due.sheet(x, 0, sort, 1, 2, 3);
            DUE.is("Promise 30: up", x.copy(0, 0, 0, 1, 2), 2);
            holds("Promise 30: up, as they were", x, 0, sort, 1, 1, 2);
            Due.sheet(x, 0, sort, 1, 2, 3);
            DUE.is("Promise 30: down", x.copy(0, 1, 0, 0, 2), 2);
            holds("Promise 30: down, as they were", x, 0, sort, 2, 3, 3);
            DUE.is("Promise 30: onto itself", x.copy(0, 0, 0, 0, 3), 3);
            holds("Promise 30: onto itself", x, 0, sort, 2, 3, 3);
        }
    }

    private static void copyOfEachSort() {
        KitchenTable x = new KitchenTable();
        for (int sort = 0; sort < 3; sort++) {
            Due.sheet(x, 0, sort, 3, 30, 33);
            for (int other = 0; other < 3; other++) {
                x.sheet(1, other, 3);
                DUE.is("Promise 30: sort " + sort + " to " + other, x.copy(0, 0, 1, 0, 3), sort == other ? 3 : OTHER);
                DUE.is("Promise 30: ahead of outside", x.copy(0, -1, 1, 0, 3), sort == other ? OUTSIDE : OTHER);
                DUE.is("Promise 30: none", x.copy(0, 0, 1, 0, 0), sort == other ? 0 : OTHER);
                DUE.is("Promise 30: what came", x.came(1), sort == other ? 0 : NONE);
            }
        }
        x.sheet(1, -1, 0);
        DUE.is("Promise 30: missing is ahead of all but no such sheet", x.copy(0, -1, 1, 9, -1), MISSING);
        DUE.is("Promise 30: missing is ahead of all but no such sheet", x.copy(1, -1, 0, 9, -1), MISSING);
        DUE.is("Promise 30: no such sheet", x.copy(1, -1, 4, 9, -1), BAD);
        DUE.is("Promise 30: no such sheet", x.copy(-1, -1, 1, 9, -1), BAD);
    }

    private static void notesOfNone() {
        KitchenTable x = new KitchenTable();
        DUE.is("Promise 31: none of what is missing", x.notes(0, 0, 0, 0), MISSING);
        x.sheet(0, 0, 3);
        DUE.is("Promise 31: n -1", x.notes(0, 0, 0, -1), BAD);
        DUE.is("Promise 31: n 0", x.notes(0, 0, 0, 0), 0);
        DUE.is("Promise 31: n 0 of another sort", x.notes(0, 1, 0, 0), OTHER);
        DUE.is("Promise 31: none came", x.count(1), 0);
    }

    private static void notesOfTen() {
        KitchenTable x = new KitchenTable();
        x.sheet(0, 0, 30);
        for (int i = 0; i < 10; i++) {
            x.cell(0, 3 * i, i % 6);
            x.cell(0, 3 * i + 1, 47 - i);
            x.cell(0, 3 * i + 2, 30 + i);
        }
        DUE.is("Promise 31: n 11", x.notes(0, 0, 0, 11), BAD);
        DUE.is("Promise 31: none came", x.count(1), 0);
        DUE.is("Promise 31: n 10", x.notes(0, 0, 0, 10), 10);
        for (int i = 0; i < 10; i++) {
            int[] due = {i % 6, 47 - i, 3, i};
            for (int what = 0; what < 4; what++) {
                DUE.is("Promise 31: as of note()", x.told(i, what), due[what]);
            }
        }
    }

    private static void notesUpToTheEnd() {
        KitchenTable x = new KitchenTable();
        Due.sheet(x, 0, 0, 5, 5, 5, 4, 34, 14, 3, 33, 3);
        DUE.is("Promise 31: the last three", x.notes(0, 0, 6, 1), 1);
        DUE.is("Promise 31: the last three", x.told(0, 1), 33);
        DUE.is("Promise 31: two of the last three", x.notes(0, 0, 7, 1), OUTSIDE);
        DUE.is("Promise 31: one of the last three", x.notes(0, 0, 8, 1), OUTSIDE);
        DUE.is("Promise 31: none of the last three", x.notes(0, 0, 9, 1), OUTSIDE);
        DUE.is("Promise 31: ahead of the first", x.notes(0, 0, -1, 1), OUTSIDE);
        DUE.is("Promise 31: none of these came", x.count(1), 1);
        DUE.is("Promise 31: not from a third on", x.notes(0, 0, 2, 1), 1);
        DUE.is("Promise 31: not from a third on", x.told(1, 0), 5);
        DUE.is("Promise 31: not from a third on", x.told(1, 1), 4);
        DUE.is("Promise 31: places that would wrap", x.notes(0, 0, GREATEST, 10), OUTSIDE);
        DUE.is("Promise 31: places that would wrap", x.notes(0, 0, GREATEST - 1, 10), OUTSIDE);
        DUE.is("Promise 31: places that would wrap", x.notes(0, 0, GREATEST - 2, 10), OUTSIDE);
        DUE.is("Promise 31: places far ahead", x.notes(0, 0, LEAST, 10), OUTSIDE);
        DUE.is("Promise 31: none of these came", x.count(1), 2);
    }

    private static void notesThatAreNoneAreLeftOut() {
        KitchenTable x = new KitchenTable();
        Due.sheet(x, 0, 2, 6, 0, 0, 0, 48, 0, 0, 0, 40, -1, 0, 0, 0, -1, 0, 0, 0, -1, 5, 47, 39, 0, 0, 0);
        DUE.is("Promise 31: two of eight are notes", x.notes(0, 2, 0, 8), 2);
        DUE.is("Promise 31: the one", x.told(0, 1), 47);
        DUE.is("Promise 31: the other", x.told(1, 1), 0);
        DUE.is("Promise 31: none of six is a note", x.notes(0, 2, 0, 6), 0);
        DUE.is("Promise 31: outside behind six that are none", x.notes(0, 2, 18, 3), OUTSIDE);
        DUE.is("Promise 31: two stood ahead of it", x.count(1), 4);
    }

    private static void notesBehindFullAreLeftOut() {
        KitchenTable x = new KitchenTable();
        for (int note = 0; note < 8; note++) {
            x.note(0, 0, 0);
        }
        x.sheet(0, 0, 12);
        x.cell(0, 4, 9);
        DUE.is("Promise 31: two of four have room", x.notes(0, 0, 0, 4), 2);
        DUE.is("Promise 31: ten", x.count(1), 10);
        DUE.is("Promise 31: the second", x.told(9, 1), 9);
        DUE.is("Promise 31: none has room", x.notes(0, 0, 0, 4), 0);
        DUE.is("Promise 31: outside, though none has room", x.notes(0, 0, 0, 5), OUTSIDE);
        DUE.is("Promise 31: ten", x.count(1), 10);
    }

    private static void notesThatStoodAheadCame() {
        for (int size = 0; size < 9; size++) {
            KitchenTable x = new KitchenTable();
            x.sheet(0, 1, size);
            DUE.is("Promise 31: three of " + size + " numbers", x.notes(0, 1, 0, 3), OUTSIDE);
            DUE.is("Promise 31: what stood ahead came, of " + size, x.count(1), size / 3);
        }
        KitchenTable x = new KitchenTable();
        x.sheet(0, 1, 40);
        DUE.is("Promise 31: from 13 on", x.notes(0, 1, 13, 10), OUTSIDE);
        DUE.is("Promise 31: nine stood ahead", x.count(1), 9);
        DUE.is("Promise 31: the next number", x.note(0, 0, 0), 9);
    }

    /** Whatever was asked ahead of their coming. */
    private static void notesThatCameAreThere() {
        KitchenTable x = new KitchenTable();
        x.person(20, 24, 120);
        Due.sheet(x, 0, 0, 2, 0, 0, 4, 0, 10, 2);
        DUE.is("Promise 9: nothing yet", x.lies(20), 0);
        DUE.is("Promise 31: one came", x.notes(0, 0, 0, 1), 1);
        DUE.is("Promise 9: it lies there", x.lies(20), 1);
        DUE.is("Promise 11: it is read", x.read(0, 0), 20);
        DUE.is("Promise 31: one stood ahead of what is outside", x.notes(0, 0, 3, 2), OUTSIDE);
        DUE.is("Promise 9: it lies there, too", x.lies(20), 3);
        DUE.is("Promise 10: it is uppermost", x.top(20), 1);
        DUE.is("Promise 31: none came", x.notes(0, 0, 6, 1), OUTSIDE);
        DUE.is("Promise 9: no other", x.lies(20), 3);
    }

    private static void notesByEachSort() {
        for (int sort = 0; sort < 3; sort++) {
            KitchenTable x = new KitchenTable();
            Due.sheet(x, 3, sort, 4, 45, 36);
            DUE.is("Promise 31: sort -1", x.notes(3, -1, 0, 1), BAD);
            DUE.is("Promise 31: sort 3", x.notes(3, 3, 0, 1), BAD);
            DUE.is("Promise 31: sheet -1", x.notes(-1, sort, 0, 1), BAD);
            DUE.is("Promise 31: sheet 4", x.notes(4, sort, 0, 1), BAD);
            for (int other = 0; other < 3; other++) {
                DUE.is("Promise 31: what is missing is of any sort", x.notes(0, other, 0, 1), MISSING);
                DUE.is("Promise 31: sort " + sort + " for " + other, x.notes(3, other, 0, 1), sort == other ? 1 : OTHER);
                DUE.is("Promise 31: ahead of outside", x.notes(3, other, 9, 1), sort == other ? OUTSIDE : OTHER);
            }
            DUE.is("Promise 31: one came", x.count(1), 1);
            holds("Promise 31: it stays on the sheet", x, 3, sort, 4, 45, 36);
        }
    }

    private static void notesAreOfWhatASheetHolds() {
        KitchenTable x = new KitchenTable();
        Due.sheet(x, 0, 0, 256 + 3, 512 + 44, -256 + 17);
        holds("Promise 31: bytes, cut", x, 0, 0, 3, 44, 17);
        Due.sheet(x, 0, 1, 65536 + 3, -65536 + 44, LEAST + 17);
        holds("Promise 31: shorts, cut", x, 0, 1, 3, 44, 17);
        Due.sheet(x, 0, 1, 256 + 3, 44, 17);
        DUE.is("Promise 31: a short is not cut to 8 bits", x.notes(0, 1, 0, 1), 0);
        Due.sheet(x, 0, 2, 65536 + 3, 44, 17);
        DUE.is("Promise 31: an int is not cut", x.notes(0, 2, 0, 1), 0);
        Due.sheet(x, 0, 0, 3, 255, 17);
        DUE.is("Promise 31: a byte 255 is no HOUR", x.notes(0, 0, 0, 1), 0);
        DUE.is("Promise 31: so many came", x.count(1), 2);
    }

    private static void takenByEachKind() {
        int[][] are = {{0}, {0, 1}, {0, 2}, {0, 1, 3}, {0, 2, 4}, {0, 1, 3, 5}};
        for (int kind = 0; kind < 6; kind++) {
            KitchenTable x = new KitchenTable();
            x.note(kind, 7, 30);
            x.note(kind, 7, 39);
            int left = 63;
            for (int k : are[kind]) {
                DUE.is("Promise 32: KIND " + kind + " for " + k, x.taken(0, k), 0);
                DUE.is("Promise 32: KIND " + kind + " for " + k, x.taken(1, k), 9);
                left &= ~(1 << k);
            }
            for (int k = 0; k < 6; k++) {
                if ((left >> k & 1) != 0) {
                    DUE.is("Promise 32: KIND " + kind + " for " + k, x.taken(1, k), OTHER);
                }
            }
        }
    }

    private static void takenIsOfANoteThatThereIs() {
        KitchenTable x = new KitchenTable();
        for (int note = 0; note <= 10; note++) {
            DUE.is("Promise 32: not yet", x.taken(note, 0), MISSING);
            DUE.is("Promise 32: k is ahead", x.taken(note, 6), BAD);
            DUE.is("Promise 32: k is ahead", x.taken(note, -1), BAD);
            x.note(0, 0, note);
            DUE.is("Promise 32: the last", x.taken(note, 0), note < 10 ? note : MISSING);
        }
        DUE.is("Promise 32: note -1", x.taken(-1, 0), MISSING);
        DUE.is("Promise 32: note 10", x.taken(10, 0), MISSING);
        DUE.is("Promise 32: note 10, k 5", x.taken(10, 5), MISSING);
    }
}
