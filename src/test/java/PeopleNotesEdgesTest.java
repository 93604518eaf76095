/** Promises 1 to 5 at their edges: each sentence that names one has a method of its own. */
public final class PeopleNotesEdgesTest {
    private static final int NONE = KitchenTable.NONE, BAD = KitchenTable.BAD, FULL = KitchenTable.FULL;
    private static final Due DUE = new Due("PeopleNotesEdgesTest");

    public static void main(String[] args) {
        aNewObjectHasNobody();
        aNewObjectHasNoNotes();
        aNewObjectHasTheFirstText();
        aNewObjectHasNoSheets();
        twoObjectsAreApart();
        firstIsAnHour();
        everyIs1To24();
        readsIs0To12();
        temperIs0To9();
        fivePeopleAtMost();
        kindIs0To5();
        theHourOfANoteIs0To47();
        thingIs0To3AndNumber0To9();
        tenNotesAtMost();
        setAnswersWhatItWas();
        setOfPeopleAndOfNotes();
        setHolds();
        highIsCutAndNotBelow0();
        lastsIsCut();
        asksAndTells();
        DUE.end();
    }

    private static void aNewObjectHasNobody() {
        KitchenTable x = new KitchenTable();
        DUE.is("Promise 1: people", x.count(0), 0);
        DUE.is("Promise 1: nobody to be set", x.set(0, 0, 0), BAD);
        DUE.is("Promise 1: nobody who knew", x.knew(0, 47), BAD);
        DUE.is("Promise 1: nobody who did", x.done(0, 0), BAD);
        DUE.is("Promise 1: nobody whom it helps", x.helps(0), NONE);
        DUE.is("Promise 1: nobody whom it helps", x.helps(1), NONE);
        DUE.is("Promise 1: nobody whose", x.whose(0, 9999), BAD);
        for (int thing = 0; thing < 4; thing++) {
            DUE.is("Promise 1: done by nobody", x.done(thing, NONE), 0);
            DUE.is("Promise 1: never done", x.when(thing, 0), NONE);
            DUE.is("Promise 1: never done", x.when(thing, 1), NONE);
        }
        x.sheet(0, 0, 40);
        DUE.is("Promise 1: nobody comes", x.came(0), NONE);
    }

    private static void aNewObjectHasNoNotes() {
        KitchenTable x = new KitchenTable();
        DUE.is("Promise 1: notes", x.count(1), 0);
        DUE.is("Promise 1: no note", x.told(0, 0), BAD);
        DUE.is("Promise 1: no note", x.set(4, 0, 0), BAD);
        DUE.is("Promise 1: no note", x.once(0), BAD);
        DUE.is("Promise 1: no note", x.place(0, 0), BAD);
        DUE.is("Promise 1: no note", x.taken(0, 0), -11);
        DUE.is("Promise 1: no marks", x.count(2), 0);
        DUE.is("Promise 1: one order of nothing", x.orders(), 1);
        for (int hour = 0; hour < 48; hour++) {
            DUE.is("Promise 1: nothing lies there in " + hour, x.lies(hour), 0);
            DUE.is("Promise 1: nothing is uppermost in " + hour, x.top(hour), NONE);
        }
        DUE.is("Promise 1: nothing was asked", x.things(0), 0);
        DUE.is("Promise 1: nothing was done", x.things(1), 0);
        DUE.is("Promise 1: no harm", x.harm(), 0);
    }

    private static void aNewObjectHasTheFirstText() {
        KitchenTable x = new KitchenTable();
        DUE.is("Promise 1: one text", x.count(3), 1);
        DUE.is("Promise 1: THE TAPE is empty", x.count(4), 0);
        DUE.is("Promise 1: TEXT 0 is THE RULE", x.count(5), 0);
        DUE.is("Promise 1: THE TAPE is empty", x.text(), -100);
        DUE.is("Promise 1: no image", x.back(), KitchenTable.STATE);
    }

    private static void aNewObjectHasNoSheets() {
        KitchenTable x = new KitchenTable();
        for (int sheet = 0; sheet < 4; sheet++) {
            DUE.is("Promise 1: missing", x.cell(sheet, 0, 0), -11);
            DUE.is("Promise 1: missing", x.came(sheet), -11);
            DUE.is("Promise 1: missing", x.copy(sheet, 0, sheet, 0, 0), -11);
            DUE.is("Promise 1: missing", x.notes(sheet, 0, 0, 1), -11);
        }
    }

    private static void twoObjectsAreApart() {
        KitchenTable x = new KitchenTable();
        KitchenTable y = new KitchenTable();
        x.person(0, 1, 129);
        x.note(2, 0, 0);
        x.note(2, 0, 0);
        x.mark(0, 1);
        x.image();
        x.sheet(0, 0, 3);
        Due.text(x, "do 1;take 1;care 1;");
        x.force(1);
        x.feed('d');
        for (int what = 0; what < 6; what++) {
            DUE.is("Promise 1: another's count(" + what + ")", y.count(what), what == 3 ? 1 : 0);
        }
        DUE.is("Promise 1: another's image", y.back(), KitchenTable.STATE);
        DUE.is("Promise 1: another's sheet", y.came(0), -11);
        DUE.is("Promise 1: another's harm", y.harm(), 0);
    }

    /** In how many HOURS one comes: each does THING 0 then. */
    private static void comes(int first, int every, int times) {
        KitchenTable x = new KitchenTable();
        DUE.rule(x, "do thing = 0; take 0; care 0;");
        String call = "Promise 2: FIRST " + first + ", EVERY " + every;
        DUE.is(call, x.person(first, every, 0), 0);
        DUE.is(call + " comes so often", x.done(0, 0), times);
        DUE.is(call + " comes first", x.when(0, 0), first);
    }

    private static void firstIsAnHour() {
        comes(0, 1, 48);
        comes(47, 1, 1);
        KitchenTable x = new KitchenTable();
        DUE.is("Promise 2: FIRST -1", x.person(-1, 1, 0), BAD);
        DUE.is("Promise 2: FIRST 48", x.person(48, 1, 0), BAD);
        DUE.is("Promise 2: nobody came", x.count(0), 0);
        DUE.is("Promise 2: FIRST 0", x.person(0, 1, 0), 0);
        DUE.is("Promise 2: FIRST 47", x.person(47, 1, 0), 1);
    }

    private static void everyIs1To24() {
        comes(0, 24, 2);
        comes(23, 24, 2);
        comes(24, 24, 1);
        comes(0, 23, 3);
        comes(1, 23, 3);
        comes(2, 23, 2);
        comes(46, 1, 2);
        comes(46, 2, 1);
        comes(45, 2, 2);
        KitchenTable x = new KitchenTable();
        DUE.is("Promise 2: EVERY 0", x.person(0, 0, 0), BAD);
        DUE.is("Promise 2: EVERY 25", x.person(0, 25, 0), BAD);
        DUE.is("Promise 2: nobody came", x.count(0), 0);
    }

    private static void readsIs0To12() {
        KitchenTable x = new KitchenTable();
        for (int i = 0; i < 10; i++) {
            x.note(0, 0, 0);
        }
        DUE.is("Promise 2: reads -1", x.person(1, 24, -1), BAD);
        DUE.is("Promise 2: reads 130", x.person(1, 24, 130), BAD);
        DUE.is("Promise 2: nobody came", x.count(0), 0);
        DUE.is("Promise 2: reads 9", x.person(1, 24, 9), 0);
        DUE.is("Promise 2: reads 10", x.person(1, 24, 10), 1);
        DUE.is("Promise 2: reads 129", x.person(1, 24, 129), 2);
        DUE.is("Promise 2: READS 0 reads nothing", x.knew(0, 47), 0);
        DUE.is("Promise 2: READS 1", x.knew(1, 47), 512);
        DUE.is("Promise 2: READS 12 reads all", x.knew(2, 47), 1023);
        int[][] due = {{0, 0, 9}, {1, 1, 0}, {2, 12, 9}};
        for (int[] d : due) {
            DUE.is("Promise 2: READS of " + d[0], x.set(2, d[0], 0), d[1]);
            DUE.is("Promise 2: TEMPER of " + d[0], x.set(3, d[0], 0), d[2]);
        }
    }

    private static void temperIs0To9() {
        for (int temper = 0; temper < 10; temper++) {
            KitchenTable x = new KitchenTable();
            x.person(0, 24, 120 + temper);
            DUE.rule(x, "do temper = " + temper + "; take 0; care 0;");
            DUE.is("Promise 2: TEMPER " + temper, x.done(0, 0), 2);
        }
    }

    private static void fivePeopleAtMost() {
        KitchenTable x = new KitchenTable();
        for (int person = 0; person < 5; person++) {
            DUE.is("Promise 2: its number", x.person(person, 1, 0), person);
            DUE.is("Promise 2: how many", x.count(0), person + 1);
        }
        DUE.is("Promise 2: a sixth", x.person(5, 1, 0), FULL);
        DUE.is("Promise 2: five", x.count(0), 5);
        DUE.is("Promise 2: the fifth stays", x.set(0, 4, 0), 4);
        DUE.is("Promise 2: there is no sixth", x.set(0, 5, 0), BAD);
    }

    private static void kindIs0To5() {
        KitchenTable x = new KitchenTable();
        DUE.is("Promise 3: KIND -1", x.note(-1, 0, 0), BAD);
        DUE.is("Promise 3: KIND 6", x.note(6, 0, 0), BAD);
        DUE.is("Promise 3: none came", x.count(1), 0);
        for (int kind = 0; kind < 6; kind++) {
            DUE.is("Promise 3: KIND " + kind, x.note(kind, 0, 0), kind);
            DUE.is("Promise 5: KIND " + kind, x.told(kind, 0), kind);
        }
    }

    private static void theHourOfANoteIs0To47() {
        KitchenTable x = new KitchenTable();
        DUE.is("Promise 3: HOUR -1", x.note(0, -1, 0), BAD);
        DUE.is("Promise 3: HOUR 48", x.note(0, 48, 0), BAD);
        DUE.is("Promise 3: none came", x.count(1), 0);
        DUE.is("Promise 3: HOUR 0", x.note(0, 0, 0), 0);
        DUE.is("Promise 3: HOUR 47", x.note(0, 47, 0), 1);
        DUE.is("Promise 5: HOUR 0", x.told(0, 1), 0);
        DUE.is("Promise 5: HOUR 47", x.told(1, 1), 47);
    }

    private static void thingIs0To3AndNumber0To9() {
        KitchenTable x = new KitchenTable();
        DUE.is("Promise 3: what -1", x.note(0, 0, -1), BAD);
        DUE.is("Promise 3: what 40", x.note(0, 0, 40), BAD);
        DUE.is("Promise 3: none came", x.count(1), 0);
        int[] whats = {0, 9, 10, 19, 20, 29, 30, 39};
        for (int note = 0; note < whats.length; note++) {
            DUE.is("Promise 3: what " + whats[note], x.note(0, 0, whats[note]), note);
            DUE.is("Promise 5: THING of " + whats[note], x.told(note, 2), note / 2);
            DUE.is("Promise 5: NUMBER of " + whats[note], x.told(note, 3), note % 2 == 0 ? 0 : 9);
        }
    }

    private static void tenNotesAtMost() {
        KitchenTable x = new KitchenTable();
        for (int note = 0; note < 10; note++) {
            DUE.is("Promise 3: its number", x.note(1, note, note), note);
            DUE.is("Promise 3: how many", x.count(1), note + 1);
        }
        DUE.is("Promise 3: an eleventh", x.note(2, 30, 30), FULL);
        DUE.is("Promise 3: ten", x.count(1), 10);
        DUE.is("Promise 3: the tenth stays", x.told(9, 1), 9);
        DUE.is("Promise 3: there is no eleventh", x.told(10, 1), BAD);
    }

    private static void setAnswersWhatItWas() {
        int[] least = {0, 1, 0, 0, 0};
        int[] most = {47, 24, 12, 9, 47};
        KitchenTable x = new KitchenTable();
        x.person(5, 5, 55);
        x.note(0, 5, 0);
        for (int what = 0; what < 5; what++) {
            DUE.is("Promise 4: below " + what, x.set(what, 0, least[what] - 1), BAD);
            DUE.is("Promise 4: above " + what, x.set(what, 0, most[what] + 1), BAD);
            DUE.is("Promise 4: refused, it stays", x.set(what, 0, least[what]), 5);
            DUE.is("Promise 4: the least", x.set(what, 0, most[what]), least[what]);
            DUE.is("Promise 4: the most", x.set(what, 0, most[what]), most[what]);
            DUE.is("Promise 4: the most again", x.set(what, 0, 5), most[what]);
        }
        for (int what = 0; what < 5; what++) {
            DUE.is("Promise 4: no other is changed by " + what, x.set(what, 0, 5), 5);
        }
        DUE.is("Promise 4: what -1", x.set(-1, 0, 5), BAD);
        DUE.is("Promise 4: what 5", x.set(5, 0, 5), BAD);
    }

    /** What 0 to 3 are of people though there is no such note; 4 is of a note though there is no such one. */
    private static void setOfPeopleAndOfNotes() {
        KitchenTable x = new KitchenTable();
        x.person(3, 4, 56);
        DUE.is("Promise 4: a person, no note", x.set(0, 0, 9), 3);
        DUE.is("Promise 4: a person, no note", x.set(4, 0, 9), BAD);
        x = new KitchenTable();
        x.note(0, 7, 0);
        DUE.is("Promise 4: a note, nobody", x.set(4, 0, 9), 7);
        for (int what = 0; what < 4; what++) {
            DUE.is("Promise 4: a note, nobody", x.set(what, 0, 1), BAD);
        }
        for (int person = 0; person < 5; person++) {
            x.person(10 + person, 1, 0);
        }
        for (int note = 1; note < 10; note++) {
            x.note(0, 20 + note, 0);
        }
        DUE.is("Promise 4: the last of the people", x.set(0, 4, 1), 14);
        DUE.is("Promise 4: behind the last", x.set(0, 5, 1), BAD);
        DUE.is("Promise 4: the last of the notes", x.set(4, 9, 1), 29);
        DUE.is("Promise 4: behind the last", x.set(4, 10, 1), BAD);
    }

    /** What is set rules what comes to pass. */
    private static void setHolds() {
        KitchenTable x = new KitchenTable();
        DUE.rule(x, "do thing = 0 and temper = 9; take 0; care 0;");
        x.person(0, 1, 0);
        x.note(2, 0, 0);
        DUE.is("Promise 4: TEMPER 0", x.done(0, 0), 0);
        x.set(3, 0, 9);
        DUE.is("Promise 4: TEMPER 9", x.done(0, 0), 48);
        x.set(1, 0, 24);
        DUE.is("Promise 4: EVERY 24", x.done(0, 0), 2);
        x.set(0, 0, 47);
        DUE.is("Promise 4: FIRST 47", x.done(0, 0), 1);
        x.set(0, 0, 0);
        DUE.is("Promise 4: FIRST 0", x.done(0, 0), 2);
        DUE.is("Promise 4: READS 0", x.read(0, 0), NONE);
        x.set(2, 0, 12);
        DUE.is("Promise 4: READS 12", x.read(0, 0), 24);
        x.set(4, 0, 24);
        DUE.is("Promise 4: HOUR 24", x.read(0, 0), NONE);
        DUE.is("Promise 4: HOUR 24", x.lies(24), 0);
        DUE.is("Promise 4: HOUR 24", x.lies(25), 1);
    }

    /** One of told()'s numbers for NUMBER 0 to 9 of each KIND. */
    private static void toldOf(String name, int what, int[][] due) {
        for (int kind = 0; kind < due.length; kind++) {
            KitchenTable x = new KitchenTable();
            for (int number = 0; number < 10; number++) {
                x.note(kind, 3, 20 + number);
                DUE.is("Promise 5: " + name + " of KIND " + kind + ", NUMBER " + number, x.told(number, what),
                    due[kind][number]);
            }
        }
    }

    private static void highIsCutAndNotBelow0() {
        toldOf("HIGH", 4, new int[][] {
            {0, 0, 0, 0, 0, 0, 0, 0, 0, 0},
            {0, 0, 0, 0, 0, 0, 0, 0, 0, 0},
            {1, 1, 1, 1, 1, 1, 1, 1, 1, 1},
            {0, 0, 0, 1, 1, 1, 2, 2, 2, 3},
            {4, 4, 4, 4, 4, 4, 4, 4, 4, 4},
            {0, 0, 0, 0, 0, 0, 0, 0, 0, 1}});
    }

    private static void lastsIsCut() {
        toldOf("LASTS", 5, new int[][] {
            {12, 12, 12, 12, 12, 12, 12, 12, 12, 12},
            {12, 13, 14, 15, 16, 17, 18, 19, 20, 21},
            {24, 24, 24, 24, 24, 24, 24, 24, 24, 24},
            {6, 6, 7, 7, 8, 8, 9, 9, 10, 10},
            {24, 25, 26, 27, 28, 29, 30, 31, 32, 33},
            {6, 6, 7, 7, 8, 8, 9, 9, 10, 10}});
    }

    private static void asksAndTells() {
        int[] asks = {0, 0, 1, 0, 2, 0};
        int[] tells = {0, 1, 0, 2, 0, 2};
        for (int kind = 0; kind < 6; kind++) {
            KitchenTable x = new KitchenTable();
            for (int number = 0; number < 10; number++) {
                x.note(kind, 47, number);
                DUE.is("Promise 5: ASKS of KIND " + kind, x.told(number, 6), asks[kind]);
                DUE.is("Promise 5: TELLS of KIND " + kind, x.told(number, 7), tells[kind]);
            }
            DUE.is("Promise 5: what -1", x.told(0, -1), BAD);
            DUE.is("Promise 5: what 8", x.told(0, 8), BAD);
            DUE.is("Promise 5: note -1", x.told(-1, 0), BAD);
            DUE.is("Promise 5: note 10", x.told(10, 0), BAD);
        }
    }
}
