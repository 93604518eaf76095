/** Promises 9 to 16: lies, top, read, knew, done, when, things, harm. */
public final class HoursTest {
    private static final Due DUE = new Due("HoursTest");
    private static final int[] WRONG_HOURS = {-1, 48, Integer.MIN_VALUE, Integer.MAX_VALUE};

    public static void main(String[] args) {
        refusals();
        lies();
        taken();
        top();
        readsTheUppermost();
        readAndKnew();
        done();
        whenAndThings();
        harm();
        changesShow();
        DUE.end();
    }

    private static void refusals() {
        KitchenTable x = new KitchenTable();
        DUE.is("11: nobody", x.read(0, 0), KitchenTable.BAD);
        x.person(0, 1, 10);
        DUE.is("11: no note", x.read(0, 0), KitchenTable.BAD);
        x.note(0, 0, 0);
        for (int hour : WRONG_HOURS) {
            DUE.is("9: hour " + hour, x.lies(hour), KitchenTable.BAD);
            DUE.is("10: hour " + hour, x.top(hour), KitchenTable.BAD);
            DUE.is("12: hour " + hour, x.knew(0, hour), KitchenTable.BAD);
        }
        for (int wrong : new int[] {-2, 1, 5, Integer.MIN_VALUE, Integer.MAX_VALUE}) {
            DUE.is("11: person " + wrong, x.read(wrong, 0), KitchenTable.BAD);
            DUE.is("11: note " + wrong, x.read(0, wrong), KitchenTable.BAD);
            DUE.is("12: person " + wrong, x.knew(wrong, 0), KitchenTable.BAD);
            DUE.is("13: person " + wrong, x.done(0, wrong), KitchenTable.BAD);
        }
        DUE.is("11: person -1", x.read(-1, 0), KitchenTable.BAD);
        DUE.is("12: person -1", x.knew(-1, 0), KitchenTable.BAD);
        for (int wrong : new int[] {-1, 4, Integer.MIN_VALUE, Integer.MAX_VALUE}) {
            DUE.is("13: thing " + wrong, x.done(wrong, 0), KitchenTable.BAD);
            DUE.is("13: thing " + wrong, x.done(wrong, -1), KitchenTable.BAD);
            DUE.is("14: thing " + wrong, x.when(wrong, 0), KitchenTable.BAD);
        }
        for (int wrong : new int[] {-1, 2, Integer.MIN_VALUE, Integer.MAX_VALUE}) {
            DUE.is("14: what " + wrong, x.when(0, wrong), KitchenTable.BAD);
            DUE.is("15: what " + wrong, x.things(wrong), KitchenTable.BAD);
        }
    }

    private static void lies() {
        KitchenTable x = new KitchenTable();
        x.note(0, 3, 0);
        x.note(3, 40, 7);
        x.note(2, 47, 0);
        int[][] due = {{0, 0}, {3, 0}, {4, 1}, {15, 1}, {16, 0}, {40, 0}, {41, 2}, {47, 2}};
        for (int[] d : due) {
            DUE.is("9: lies(" + d[0] + ")", x.lies(d[0]), d[1]);
        }
        x.set(4, 1, 10);
        DUE.is("9: LASTS 9", x.lies(19), 2);
        DUE.is("9: LASTS 9", x.lies(20), 0);
    }

    /** One who reads takes a note away only behind its reading; the next in the hour does not find it. */
    private static void taken() {
        KitchenTable x = new KitchenTable();
        x.person(5, 24, 10);
        x.person(5, 24, 20);
        x.note(2, 0, 0);
        x.note(4, 0, 11);
        x.note(1, 0, 20);
        DUE.rule(x, "do asked; take asked = 1 or told; care 9;");
        DUE.is("9: all lie", x.lies(4), 7);
        DUE.is("11: the uppermost", x.read(0, 1), 5);
        DUE.is("11: not the second", x.read(0, 0), KitchenTable.NONE);
        DUE.is("11: the other reads both", x.read(1, 0), 5);
        DUE.is("9: one is taken", x.lies(5), 6);
        DUE.is("9: one is taken for good", x.lies(20), 2);
        DUE.is("13: a taken one was done", x.done(0, 1), 2);
        DUE.is("11: the last reader comes again", x.read(1, 2), KitchenTable.NONE);
        x.set(1, 1, 1);
        DUE.is("11: what was below comes up", x.read(1, 2), 6);
        DUE.is("9: and goes", x.lies(6), 2);
        DUE.is("13: in each HOUR anew", x.done(0, 1), 43);
        x.set(2, 0, 3);
        DUE.is("11: the first takes all but one", x.read(1, 0), KitchenTable.NONE);
        DUE.is("11: the first takes all but one", x.read(1, 2), KitchenTable.NONE);
        DUE.is("11: the first takes all but one", x.read(1, 1), 5);
        DUE.is("9: the first takes all but one", x.lies(5), 2);
    }

    private static void top() {
        KitchenTable x = new KitchenTable();
        DUE.is("10: nothing", x.top(0), KitchenTable.NONE);
        x.note(0, 0, 0);
        DUE.is("10: not yet", x.top(0), KitchenTable.NONE);
        DUE.is("10: one", x.top(1), 0);
        x.note(1, 0, 0);
        DUE.is("10: the greater number", x.top(1), 1);
        x.set(4, 0, 2);
        DUE.is("10: lies alone", x.top(2), 1);
        DUE.is("10: the later HOUR", x.top(3), 0);
        x.note(3, 0, 5);
        DUE.is("10: the greatest HIGH", x.top(3), 2);
        x.note(2, 1, 0);
        DUE.is("10: of like HIGH the later", x.top(3), 3);
        x.note(4, 9, 0);
        DUE.is("10: URGENT is not put yet", x.top(9), 3);
        DUE.is("10: URGENT", x.top(10), 4);
        DUE.is("10: URGENT till its end", x.top(33), 4);
        DUE.is("10: nothing any more", x.top(34), KitchenTable.NONE);
        x.person(10, 24, 10);
        DUE.rule(x, "do 0; take asked = 2; care 0;");
        DUE.is("10: URGENT is taken", x.top(10), 3);
    }

    private static void readsTheUppermost() {
        KitchenTable x = new KitchenTable();
        x.person(5, 24, 0);
        // HIGH, by number: 0, 4, 1, 3, 1, 0, 2, 0; HOURS 1, 0, 2, 0, 1, 4, 0, 4.
        x.note(0, 1, 0);
        x.note(4, 0, 0);
        x.note(2, 2, 0);
        x.note(3, 0, 9);
        x.note(2, 1, 0);
        x.note(1, 4, 0);
        x.note(3, 0, 6);
        x.note(0, 4, 0);
        int[] order = {1, 3, 6, 2, 4, 7, 5, 0};
        int bits = 0;
        for (int reads = 0; reads <= 12; reads++) {
            x.set(2, 0, reads);
            DUE.is("12: the uppermost " + reads, x.knew(0, 5), bits);
            DUE.is("12: not yet", x.knew(0, 4), 0);
            DUE.is("12: still", x.knew(0, 47), reads < 8 ? x.knew(0, 29) : 255);
            if (reads < order.length) {
                bits |= 1 << order[reads];
            }
        }
    }

    private static void readAndKnew() {
        KitchenTable x = new KitchenTable();
        x.person(4, 10, 20);
        x.person(47, 1, 120);
        x.note(0, 0, 0);
        x.note(0, 10, 0);
        x.note(2, 13, 0);
        x.note(0, 47, 0);
        DUE.is("11: in its first HOUR", x.read(0, 0), 4);
        DUE.is("11: in another", x.read(0, 1), 14);
        DUE.is("11: with it", x.read(0, 2), 14);
        DUE.is("11: never", x.read(0, 3), KitchenTable.NONE);
        DUE.is("11: too late", x.read(1, 0), KitchenTable.NONE);
        DUE.is("12: ahead", x.knew(0, 3), 0);
        DUE.is("12: then", x.knew(0, 4), 1);
        DUE.is("12: long", x.knew(0, 13), 1);
        DUE.is("12: all", x.knew(0, 14), 7);
        DUE.is("12: for good", x.knew(0, 47), 7);
        DUE.is("12: none", x.knew(1, 47), 0);
        x.set(4, 0, 46);
        DUE.is("11: in the last HOUR", x.read(1, 0), 47);
        DUE.is("12: in the last HOUR", x.knew(1, 47), 1);
    }

    private static void done() {
        KitchenTable x = new KitchenTable();
        DUE.is("13: by nobody", x.done(3, -1), 0);
        x.person(1, 4, 20);
        x.person(9, 24, 20);
        x.note(2, 0, 10);
        x.note(1, 6, 15);
        x.note(2, 20, 0);
        x.note(2, 44, 30);
        // The first does THING 1 in 1, 5, till the telling that is read in 9; THING 0 in 21, 25, .. 45; THING 3 in 45.
        DUE.is("13: THING 1 by 0", x.done(1, 0), 2);
        DUE.is("13: THING 1 by 1", x.done(1, 1), 0);
        DUE.is("13: THING 1", x.done(1, -1), 2);
        DUE.is("13: THING 0 by 0", x.done(0, 0), 7);
        DUE.is("13: THING 0 by 1", x.done(0, 1), 1);
        DUE.is("13: THING 0", x.done(0, -1), 8);
        DUE.is("13: THING 2", x.done(2, -1), 0);
        DUE.is("13: THING 3", x.done(3, -1), 1);
        x.set(4, 1, 11);
        DUE.is("13: told later", x.done(1, 0), 3);
        DUE.is("13: the second was not told", x.done(1, 1), 2);
        DUE.is("13: together", x.done(1, -1), 5);
        // 1, 5, 9 by the first; 9 and 33 by the second, whose READS are the 2 uppermost.
        DUE.is("13: what one read of it", x.knew(1, 47), 1 + 4);
    }

    private static void whenAndThings() {
        KitchenTable x = new KitchenTable();
        DUE.is("14: never", x.when(0, 0), KitchenTable.NONE);
        DUE.is("14: by nobody", x.when(0, 1), KitchenTable.NONE);
        x.person(8, 24, 10);
        x.person(7, 1, 10);
        x.note(2, 6, 10);
        x.note(2, 47, 30);
        DUE.is("14: the HOUR", x.when(1, 0), 7);
        DUE.is("14: by whom", x.when(1, 1), 1);
        DUE.is("15: asked, never done, though it never lay", x.things(0), 8);
        DUE.is("15: more than once", x.things(1), 2);
        x.set(0, 0, 7);
        DUE.is("14: in one HOUR the lesser number", x.when(1, 1), 0);
        x.set(1, 1, 24);
        x.set(2, 0, 0);
        DUE.is("14: one who does not read", x.when(1, 1), 1);
        x.set(0, 1, 30);
        DUE.is("15: once", x.things(1), 0);
        DUE.is("15: once", x.things(0), 8);
        DUE.is("14: the last HOUR that it lies in", x.when(1, 0), 30);
        x.set(0, 1, 31);
        DUE.is("15: nobody", x.things(0), 10);
        DUE.is("14: nobody", x.when(1, 0), KitchenTable.NONE);
        DUE.rule(x, "do thing = 0 or thing = 3 and hour = 31; take 0; care 0;");
        DUE.is("15: done unasked, by both in 31", x.things(1), 1 + 8);
        DUE.is("15: not done", x.things(0), 2);
        DUE.is("14: done unasked", x.when(0, 0), 7);
    }

    private static void harm() {
        KitchenTable x = new KitchenTable();
        x.note(1, 0, 0);
        x.note(5, 0, 10);
        DUE.is("16: nothing is asked", x.harm(), 0);
        x.note(2, 0, 0);
        x.note(2, 47, 0);
        x.note(4, 0, 30);
        DUE.is("16: care 1 and 4", x.harm(), 5);
        x.person(46, 1, 120);
        DUE.is("16: too late for those", x.harm(), 5);
        x.set(0, 0, 24);
        // URGENT of THING 3: in 24, .. 47, which is 24 times; THING 0 has asked 1, told 1 in 24 (the telling is gone): 24.
        DUE.is("13: THING 3", x.done(3, -1), 24);
        DUE.is("13: THING 0", x.done(0, -1), 24);
        DUE.is("16: 23 and 23", x.harm(), 46);
        DUE.rule(x, "do 0; take 0; care 100;");
        DUE.is("16: 99 each", x.harm(), 198);
        DUE.rule(x, "do 0; take 0; care -1;");
        DUE.is("16: 0 each", x.harm(), 0);
        DUE.rule(x, "do thing = 2; take 0; care 30;");
        DUE.is("16: done unasked does harm", x.harm(), 60 + 23);
    }

    /** Each change of what there is shows in the next answer. */
    private static void changesShow() {
        KitchenTable x = new KitchenTable();
        DUE.is("16: nothing", x.harm(), 0);
        x.note(2, 0, 30);
        DUE.is("16: behind note", x.harm(), 4);
        x.person(1, 24, 10);
        DUE.is("16: behind person", x.harm(), 1);
        x.set(1, 0, 12);
        DUE.is("16: behind set", x.harm(), 3);
        x.image();
        x.set(4, 0, 40);
        DUE.is("16: behind set of a note", x.harm(), 4);
        x.back();
        DUE.is("16: behind back", x.harm(), 3);
        Due.sheet(x, 0, 0, 2, 0, 0);
        x.notes(0, 0, 0, 1);
        // The asking of THING 0 hides the other: 4 for THING 3, which is never done, and 3 for THING 0.
        DUE.is("16: behind notes", x.harm(), 7);
        Due.text(x, "do 0; take 0; care 7;");
        x.force(1);
        DUE.is("16: behind force", x.harm(), 14);
    }
}
