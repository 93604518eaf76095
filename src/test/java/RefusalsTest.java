/**
 * Every refusal of promises 2 to 32: the first value outside on both sides and the farthest ones, which of two wrongs is
 * named first, and that a refused call has changed nothing. The values inside are in the tests of the edges.
 */
public final class RefusalsTest {
    private static final int NONE = KitchenTable.NONE, BAD = KitchenTable.BAD, FULL = KitchenTable.FULL;
    private static final int MISSING = -11, OUTSIDE = -12, OTHER = -13, BELOW_0 = -14;
    private static final int LEAST = Integer.MIN_VALUE, GREATEST = Integer.MAX_VALUE;
    /** What all furnished objects have: people, notes, texts are numbered till these. */
    private static final int LAST_ONE = 2, LAST_NOTE = 3, LAST_TEXT = 1;
    private static final Due DUE = new Due("RefusalsTest");

    public static void main(String[] args) {
        person();
        note();
        set();
        told();
        feed();
        text();
        force();
        hours();
        readAndKnew();
        doneWhenThings();
        helpsOnceWhose();
        mark();
        oddsAndPlace();
        came();
        back();
        count();
        sheet();
        cell();
        copy();
        copyOutside();
        notes();
        notesOutside();
        taken();
        questions();
        DUE.end();
    }

    private static void person() {
        Refusal p2 = new Refusal(DUE, 2);
        p2.around(BAD, 0, 47, "person", 0, 0, 1, 0);
        p2.around(BAD, 1, 24, "person", 1, 0, 1, 0);
        p2.around(BAD, 0, 129, "person", 2, 0, 1, 0);
        Refusal full = new Refusal(DUE, 2, RefusalsTest::fillPeople);
        full.is(FULL, "person", 0, 1, 0);
        full.is(FULL, "person", 47, 24, 129);
        full.is(BAD, "person", 48, 1, 0);
        full.is(BAD, "person", 0, 0, 0);
        full.is(BAD, "person", 0, 1, 130);
    }

    private static void fillPeople(KitchenTable x) {
        x.person(3, 9, 40);
        x.person(4, 8, 50);
    }

    private static void note() {
        Refusal p3 = new Refusal(DUE, 3);
        p3.around(BAD, 0, 5, "note", 0, 0, 0, 0);
        p3.around(BAD, 0, 47, "note", 1, 0, 0, 0);
        p3.around(BAD, 0, 39, "note", 2, 0, 0, 0);
        Refusal full = new Refusal(DUE, 3, RefusalsTest::fillNotes);
        full.is(FULL, "note", 0, 0, 0);
        full.is(FULL, "note", 5, 47, 39);
        full.is(BAD, "note", 6, 0, 0);
        full.is(BAD, "note", 0, 48, 0);
        full.is(BAD, "note", 0, 0, 40);
    }

    private static void fillNotes(KitchenTable x) {
        for (int i = 0; i < 6; i++) {
            x.note(i, 5 * i, 6 * i);
        }
    }

    private static void set() {
        Refusal p4 = new Refusal(DUE, 4);
        p4.around(BAD, 0, 4, "set", 0, 0, 0, 1);
        for (int what = 0; what < 4; what++) {
            p4.around(BAD, 0, LAST_ONE, "set", 1, what, 0, 1);
        }
        p4.around(BAD, 0, LAST_NOTE, "set", 1, 4, 0, 1);
        p4.around(BAD, 0, 47, "set", 2, 0, LAST_ONE, 0);
        p4.around(BAD, 1, 24, "set", 2, 1, LAST_ONE, 0);
        p4.around(BAD, 0, 12, "set", 2, 2, LAST_ONE, 0);
        p4.around(BAD, 0, 9, "set", 2, 3, LAST_ONE, 0);
        p4.around(BAD, 0, 47, "set", 2, 4, LAST_NOTE, 0);
    }

    private static void told() {
        Refusal p5 = new Refusal(DUE, 5);
        p5.around(BAD, 0, LAST_NOTE, "told", 0, 0, 0);
        p5.around(BAD, 0, 7, "told", 1, LAST_NOTE, 0);
    }

    private static void feed() {
        new Refusal(DUE, 6).around(BAD, 0, 255, "feed", 0, 0);
        Refusal full = new Refusal(DUE, 6, RefusalsTest::fillTape);
        full.is(FULL, "feed", 32);
        full.is(FULL, "feed", 0);
        full.is(FULL, "feed", 255);
        full.around(BAD, 0, 255, "feed", 0, 0);
    }

    /** Blanks behind the text that stands on it. */
    private static void fillTape(KitchenTable x) {
        for (int size = x.count(4); size < 160; size++) {
            x.feed(32);
        }
    }

    /** FULL is ahead of all: it answers so whether the tape is a text, none, or empty; and the tape stays. */
    private static void text() {
        new Refusal(DUE, 7, x -> fillTexts(x, "do 1;take 1;care 1;")).is(FULL, "text");
        new Refusal(DUE, 7, x -> fillTexts(x, "do @")).is(FULL, "text");
        new Refusal(DUE, 7, x -> fillTexts(x, "")).is(FULL, "text");
    }

    private static void fillTexts(KitchenTable x, String tape) {
        for (int i = 0; i < 4; i++) {
            x.text();
            for (char letter : (i < 3 ? "do 0;take 0;care 9;" : tape).toCharArray()) {
                x.feed(letter);
            }
        }
    }

    private static void force() {
        new Refusal(DUE, 8).around(BAD, 0, LAST_TEXT, "force", 0, 0);
        new Refusal(DUE, 8, x -> fillTexts(x, "")).around(BAD, 0, 5, "force", 0, 0);
        new Refusal(DUE, 8, x -> Due.text(x, "do 1")).is(BAD, "force", LAST_TEXT + 1);
    }

    private static void hours() {
        new Refusal(DUE, 9).around(BAD, 0, 47, "lies", 0, 0);
        new Refusal(DUE, 10).around(BAD, 0, 47, "top", 0, 0);
    }

    private static void readAndKnew() {
        Refusal p11 = new Refusal(DUE, 11);
        p11.around(BAD, 0, LAST_ONE, "read", 0, 0, 0);
        p11.around(BAD, 0, LAST_NOTE, "read", 1, 0, 0);
        Refusal p12 = new Refusal(DUE, 12);
        p12.around(BAD, 0, LAST_ONE, "knew", 0, 0, 0);
        p12.around(BAD, 0, 47, "knew", 1, 0, 0);
    }

    private static void doneWhenThings() {
        Refusal p13 = new Refusal(DUE, 13);
        p13.around(BAD, 0, 3, "done", 0, 0, 0);
        p13.around(BAD, 0, 3, "done", 0, 0, NONE);
        p13.around(BAD, NONE, LAST_ONE, "done", 1, 0, 0);
        Refusal p14 = new Refusal(DUE, 14);
        p14.around(BAD, 0, 3, "when", 0, 0, 0);
        p14.around(BAD, 0, 1, "when", 1, 0, 0);
        new Refusal(DUE, 15).around(BAD, 0, 1, "things", 0, 0);
    }

    private static void helpsOnceWhose() {
        new Refusal(DUE, 17).around(BAD, 0, 1, "helps", 0, 0);
        new Refusal(DUE, 18).around(BAD, 0, LAST_NOTE, "once", 0, 0);
        Refusal p19 = new Refusal(DUE, 19);
        p19.around(BAD, 0, LAST_ONE, "whose", 0, 0, 0);
        p19.around(BAD, 0, 9999, "whose", 1, 0, 0);
    }

    private static void mark() {
        Refusal p20 = new Refusal(DUE, 20);
        p20.around(BAD, 0, LAST_NOTE, "mark", 0, 0, 1);
        p20.around(BAD, 0, LAST_NOTE, "mark", 1, 0, 0);
        p20.is(BAD, "mark", 0, 0);
        p20.is(BAD, "mark", LAST_NOTE, LAST_NOTE);
        Refusal full = new Refusal(DUE, 20, RefusalsTest::fillMarks);
        full.is(FULL, "mark", 0, 3);
        full.is(FULL, "mark", 3, 0);
        full.is(BAD, "mark", 0, 0);
        full.is(BAD, "mark", 0, LAST_NOTE + 1);
    }

    private static void fillMarks(KitchenTable x) {
        for (int marks = x.count(2); marks < 20; marks++) {
            x.mark(0, 3);
        }
    }

    private static void oddsAndPlace() {
        Refusal p22 = new Refusal(DUE, 22);
        p22.around(KitchenTable.NO, 0, LAST_NOTE, "odds", 0, 0, 1, 0);
        p22.around(KitchenTable.NO, 0, LAST_NOTE, "odds", 1, 0, 0, 0);
        p22.around(KitchenTable.NO, 0, 1, "odds", 2, 0, 1, 0);
        p22.is(KitchenTable.NO, "odds", 0, 0, 0);
        p22.is(KitchenTable.NO, "odds", LAST_NOTE, LAST_NOTE, 1);
        Refusal p23 = new Refusal(DUE, 23);
        p23.around(BAD, 0, LAST_NOTE, "place", 0, 0, 0);
        p23.around(BAD, 0, 1, "place", 1, 0, 0);
        Refusal ring = new Refusal(DUE, 23, x -> x.mark(1, 0));
        ring.is(NONE, "place", 3, 0);
        ring.is(BAD, "place", 4, 0);
        ring.is(BAD, "place", 3, 2);
    }

    private static void came() {
        Refusal p24 = new Refusal(DUE, 24);
        p24.around(BAD, 0, 3, "came", 0, 0);
        p24.is(MISSING, "came", 3);
        new Refusal(DUE, 24, x -> x.sheet(3, 2, 0)).is(BAD, "came", 3);
    }

    private static void back() {
        KitchenTable called = withoutImage();
        DUE.is("Promise 26: back() without an image", called.back(), KitchenTable.STATE);
        Refusal.alike(DUE, "Promise 26: back() without an image", called, withoutImage());
    }

    private static KitchenTable withoutImage() {
        KitchenTable x = new KitchenTable();
        x.person(2, 3, 45);
        x.note(2, 1, 11);
        x.note(4, 6, 22);
        x.mark(1, 0);
        Due.text(x, "do asked;take 0;care 7;");
        x.force(1);
        x.feed('d');
        Due.sheet(x, 0, 0, 0, 0, 1);
        return x;
    }

    private static void count() {
        new Refusal(DUE, 27).around(BAD, 0, 5, "count", 0, 0);
    }

    private static void sheet() {
        Refusal p28 = new Refusal(DUE, 28);
        p28.around(BAD, 0, 3, "sheet", 0, 0, 0, 1);
        p28.around(BAD, -1, 2, "sheet", 1, 0, 0, 1);
        for (int sort = 0; sort < 3; sort++) {
            p28.is(BAD, "sheet", sort, sort, 41);
            p28.is(BAD, "sheet", sort, sort, GREATEST);
            p28.is(BELOW_0, "sheet", sort, sort, -1);
            p28.is(BELOW_0, "sheet", sort, sort, LEAST);
        }
        p28.is(BELOW_0, "sheet", 3, 0, -1);
        p28.is(BAD, "sheet", 4, 0, -1);
        p28.is(BAD, "sheet", 0, 3, -1);
        p28.is(BAD, "sheet", 0, -2, -1);
        p28.is(BAD, "sheet", 4, -1, 0);
        p28.is(BAD, "sheet", -1, -1, 0);
    }

    private static void cell() {
        Refusal p29 = new Refusal(DUE, 29);
        p29.around(BAD, 0, 3, "cell", 0, 0, 0, 5);
        p29.around(BAD, 0, 3, "cell", 0, 0, -1, 5);
        p29.is(MISSING, "cell", 3, 0, 5);
        p29.is(MISSING, "cell", 3, -1, 5);
        p29.is(MISSING, "cell", 3, 40, 5);
        for (int sheet = 0; sheet < 3; sheet++) {
            p29.around(OUTSIDE, 0, 5, "cell", 1, sheet, 0, 5);
        }
        new Refusal(DUE, 29, x -> x.sheet(3, 1, 0)).is(OUTSIDE, "cell", 3, 0, 5);
        new Refusal(DUE, 29, x -> x.sheet(3, 1, 40)).is(OUTSIDE, "cell", 3, 40, 5);
    }

    private static void copy() {
        Refusal p30 = new Refusal(DUE, 30);
        p30.around(BAD, 0, 3, "copy", 0, 0, 0, 0, 1, 1);
        p30.around(BAD, 0, 3, "copy", 2, 0, 0, 0, 1, 1);
        p30.is(BAD, "copy", 3, 0, 4, 0, 1);
        p30.is(BAD, "copy", 4, 0, 3, 0, 1);
        p30.is(BAD, "copy", 0, -1, 4, 0, -1);
        p30.is(MISSING, "copy", 3, 0, 0, 0, 1);
        p30.is(MISSING, "copy", 0, 0, 3, 0, 1);
        p30.is(MISSING, "copy", 3, 0, 3, 0, 0);
        p30.is(MISSING, "copy", 0, 0, 3, 0, -1);
        p30.is(MISSING, "copy", 3, 7, 0, 0, 1);
        int[][] unlike = {{0, 1}, {0, 2}, {1, 0}, {1, 2}, {2, 0}, {2, 1}};
        for (int[] u : unlike) {
            p30.is(OTHER, "copy", u[0], 0, u[1], 0, 1);
            p30.is(OTHER, "copy", u[0], -1, u[1], 7, -1);
        }
        p30.is(OTHER, "copy", 0, 0, 1, 0, 0);
    }

    /** One that lies partly outside brings nothing. */
    private static void copyOutside() {
        Refusal p30 = new Refusal(DUE, 30, x -> Due.sheet(x, 3, 0, 9, 8, 7));
        int[][] outside = {{0, 0, 4}, {1, 0, 3}, {2, 0, 2}, {3, 0, 1}, {0, 4, 3}, {0, 5, 2}, {0, 6, 1}, {-1, 0, 1},
            {-1, 0, 3}, {0, -1, 1}, {0, -1, 3}, {0, 0, -1}, {1, 1, -1}, {3, 6, -1}, {0, 0, LEAST}, {0, 0, GREATEST},
            {GREATEST, 0, 1}, {0, GREATEST, 1}, {LEAST, 0, 1}, {0, LEAST, 1}, {1, 0, GREATEST}, {3, 6, GREATEST},
            {GREATEST, GREATEST, GREATEST}, {LEAST, LEAST, LEAST}};
        for (int[] o : outside) {
            p30.is(OUTSIDE, "copy", 3, o[0], 0, o[1], o[2]);
            p30.is(OUTSIDE, "copy", 0, o[1], 3, o[0], o[2]);
        }
        p30.is(OUTSIDE, "copy", 3, 4, 0, 0, 0);
        p30.is(OUTSIDE, "copy", 3, 0, 0, 7, 0);
        p30.is(OUTSIDE, "copy", 3, -1, 0, 0, 0);
        p30.is(OUTSIDE, "copy", 3, 0, 0, -1, 0);
        p30.is(OUTSIDE, "copy", 0, 0, 0, 1, 6);
    }

    private static void notes() {
        Refusal p31 = new Refusal(DUE, 31);
        p31.around(BAD, 0, 3, "notes", 0, 0, 0, 0, 1);
        p31.around(BAD, 0, 2, "notes", 1, 0, 0, 0, 1);
        p31.around(BAD, 0, 10, "notes", 3, 0, 0, 0, 1);
        p31.is(BAD, "notes", 4, 0, -1, 11);
        p31.is(BAD, "notes", 3, 3, 0, 1);
        p31.is(BAD, "notes", 3, 0, 0, 11);
        p31.is(BAD, "notes", 0, 1, 0, -1);
        for (int sort = 0; sort < 3; sort++) {
            p31.is(MISSING, "notes", 3, sort, 0, 1);
            p31.is(MISSING, "notes", 3, sort, -1, 10);
            p31.is(OTHER, "notes", (sort + 1) % 3, sort, 0, 1);
            p31.is(OTHER, "notes", (sort + 2) % 3, sort, 0, 1);
            p31.is(OTHER, "notes", (sort + 1) % 3, sort, -1, 10);
        }
    }

    /** Where the first that is asked for does not lie wholly inside, nothing stood ahead. */
    private static void notesOutside() {
        Refusal p31 = new Refusal(DUE, 31);
        for (int sheet = 0; sheet < 3; sheet++) {
            for (int from : new int[] {-1, -2, -3, 4, 5, 6, 7, 39, 40, LEAST, GREATEST, GREATEST - 1, GREATEST - 2}) {
                p31.is(OUTSIDE, "notes", sheet, sheet, from, 1);
            }
            p31.is(OUTSIDE, "notes", sheet, sheet, -3, 10);
            p31.is(OUTSIDE, "notes", sheet, sheet, GREATEST, 10);
        }
        new Refusal(DUE, 31, x -> x.sheet(3, 0, 2)).is(OUTSIDE, "notes", 3, 0, 0, 1);
        new Refusal(DUE, 31, x -> x.sheet(3, 0, 0)).is(OUTSIDE, "notes", 3, 0, 0, 1);
        new Refusal(DUE, 31, RefusalsTest::fillNotes).is(0, "notes", 0, 0, 0, 2);
        new Refusal(DUE, 31, RefusalsTest::fillNotes).is(OUTSIDE, "notes", 0, 0, 0, 3);
    }

    private static void taken() {
        Refusal p32 = new Refusal(DUE, 32);
        p32.around(BAD, 0, 5, "taken", 1, 0, 0);
        p32.around(BAD, 0, 5, "taken", 1, 4, 0);
        p32.around(MISSING, 0, LAST_NOTE, "taken", 0, 0, 0);
        p32.is(OTHER, "taken", 0, 1);
        p32.is(OTHER, "taken", 2, 3);
    }

    /** What only asks changes nothing: also what tries other READS or other HOURS. */
    private static void questions() {
        for (int what = 0; what < 2; what++) {
            new Refusal(DUE, 17).asks("helps", what);
            new Refusal(DUE, 22).asks("odds", 0, 3, what);
            new Refusal(DUE, 23).asks("place", 0, what);
        }
        for (int note = 0; note <= LAST_NOTE; note++) {
            new Refusal(DUE, 18).asks("once", note);
            new Refusal(DUE, 32).asks("taken", note, 0);
        }
        for (int person = 0; person <= LAST_ONE; person++) {
            new Refusal(DUE, 19).asks("whose", person, 0);
            new Refusal(DUE, 19).asks("whose", person, 9999);
        }
        new Refusal(DUE, 21).asks("orders");
        new Refusal(DUE, 24).asks("came", 0);
        new Refusal(DUE, 31).asks("notes", 0, 0, 0, 0);
    }
}
