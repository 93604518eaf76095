/** Promises 9 to 16 at their edges: each sentence that names one has a method of its own. */
public final class HoursEdgesTest {
    private static final int NONE = KitchenTable.NONE, BAD = KitchenTable.BAD;
    private static final Due DUE = new Due("HoursEdgesTest");

    public static void main(String[] args) {
        liesBehindTheHourInWhichItIsPut();
        liesAsLongAsItLasts();
        liesIsOfAllNotes();
        liesTillItIsTaken();
        takenInItsLastHour();
        theGreatestHighIsUppermost();
        ofLikeOnesTheLater();
        ofTheseTheGreaterNumber();
        topIsNoneOfNothing();
        topIsOfWhatLiesAsTheHourEnds();
        oneReadsWhatIsUppermost();
        oneReadsAllIfTheyAreFewer();
        oneReadsInTheFirstAndTheLastHour();
        readIsTheFirstHour();
        knewIsAsTheHourEnds();
        knewIsForGood();
        peopleComeByNumbers();
        eachThingOnceInThatHour();
        thingsAheadOfTaking();
        takesWhatItHasReadJustThen();
        doneByOneAndByAll();
        whenIsTheFirstTime();
        whenIsNoneOfNever();
        thingsAskedAndNeverDone();
        thingsDoneMoreThanOnce();
        askedMeansMoreThan0();
        harmOfNothing();
        harmOfTimesButTheFirst();
        harmOfCare();
        DUE.end();
    }

    private static KitchenTable with(int... kinds) {
        KitchenTable x = new KitchenTable();
        for (int kind : kinds) {
            x.note(kind, 0, 0);
        }
        return x;
    }

    private static void liesBehindTheHourInWhichItIsPut() {
        KitchenTable x = with(0);
        for (int hour = 0; hour < 48; hour++) {
            x.set(4, 0, hour);
            DUE.is("Promise 9: not in the HOUR " + hour + " in which it is put", x.lies(hour), 0);
            if (hour < 47) {
                DUE.is("Promise 9: in the HOUR behind " + hour, x.lies(hour + 1), 1);
            }
            int last = hour + 12;
            if (last < 48) {
                DUE.is("Promise 9: in the last of 12 behind " + hour, x.lies(last), 1);
            }
            if (last < 47) {
                DUE.is("Promise 9: not in the 13th behind " + hour, x.lies(last + 1), 0);
            }
        }
        DUE.is("Promise 9: put in 47 it never lies", x.lies(0) + x.lies(46) + x.lies(47), 0);
        DUE.is("Promise 9: HOUR -1", x.lies(-1), BAD);
        DUE.is("Promise 9: HOUR 48", x.lies(48), BAD);
    }

    private static void liesAsLongAsItLasts() {
        int[][] lasts = {{0, 0, 12}, {0, 9, 12}, {1, 0, 12}, {1, 9, 21}, {2, 0, 24}, {2, 9, 24}, {3, 0, 6}, {3, 1, 6},
            {3, 9, 10}, {4, 0, 24}, {4, 9, 33}, {5, 0, 6}, {5, 9, 10}};
        for (int[] l : lasts) {
            KitchenTable x = new KitchenTable();
            x.note(l[0], 0, l[1]);
            String of = "Promise 9: KIND " + l[0] + ", NUMBER " + l[1];
            DUE.is(of + " in 0", x.lies(0), 0);
            DUE.is(of + " in 1", x.lies(1), 1);
            DUE.is(of + " in its last HOUR", x.lies(l[2]), 1);
            DUE.is(of + " no longer", x.lies(l[2] + 1), 0);
            x.set(4, 0, 47 - l[2]);
            DUE.is(of + " till HOUR 47", x.lies(47), 1);
            x.set(4, 0, 46 - l[2]);
            DUE.is(of + " till HOUR 46", x.lies(46), 1);
            DUE.is(of + " till HOUR 46", x.lies(47), 0);
            x.set(4, 0, 46);
            DUE.is(of + " put in 46", x.lies(47), 1);
        }
    }

    private static void liesIsOfAllNotes() {
        KitchenTable x = new KitchenTable();
        int bits = 0;
        for (int note = 0; note < 10; note++) {
            x.note(0, note, 0);
            bits |= 1 << note;
            DUE.is("Promise 9: so many notes", x.lies(note + 1), bits);
        }
        DUE.is("Promise 9: all ten", x.lies(12), 1023);
        DUE.is("Promise 9: nine", x.lies(13), 1022);
        DUE.is("Promise 9: the tenth", x.lies(21), 512);
        DUE.is("Promise 9: none", x.lies(22), 0);
    }

    private static void liesTillItIsTaken() {
        KitchenTable x = with(2, 2);
        x.person(7, 24, 10);
        DUE.rule(x, "do 0;take 1;care 0;");
        DUE.is("Promise 9: both in the HOUR ahead", x.lies(6), 3);
        DUE.is("Promise 9: one is taken as that HOUR ends", x.lies(7), 1);
        DUE.is("Promise 9: for good", x.lies(24), 1);
        DUE.is("Promise 10: that which is not taken", x.top(7), 0);
        x.set(2, 0, 2);
        DUE.is("Promise 9: both are taken", x.lies(7), 0);
        x.set(2, 0, 0);
        DUE.is("Promise 9: none is taken unread", x.lies(7), 3);
        x.set(2, 0, 12);
        x.set(0, 0, 0);
        DUE.is("Promise 9: not taken ahead of its lying there", x.lies(23), 3);
        DUE.is("Promise 9: taken in 24", x.lies(24), 0);
    }

    private static void takenInItsLastHour() {
        KitchenTable x = with(0);
        x.person(12, 24, 10);
        DUE.rule(x, "do 0;take 1;care 0;");
        DUE.is("Promise 9: ahead of its last HOUR", x.lies(11), 1);
        DUE.is("Promise 9: taken in its last HOUR", x.lies(12), 0);
        x.set(0, 0, 13);
        DUE.is("Promise 9: one comes too late to take it", x.lies(12), 1);
        DUE.is("Promise 11: one comes too late to read it", x.read(0, 0), NONE);
        x.set(4, 0, 46);
        x.set(0, 0, 47);
        DUE.is("Promise 11: read in HOUR 47", x.read(0, 0), 47);
        DUE.is("Promise 9: taken in HOUR 47", x.lies(47), 0);
    }

    private static void theGreatestHighIsUppermost() {
        KitchenTable x = new KitchenTable();
        x.note(4, 0, 0);
        x.note(3, 1, 9);
        x.note(3, 2, 6);
        x.note(2, 3, 0);
        x.note(0, 4, 0);
        int[] due = {0, 1, 2, 3, 4};
        DUE.rule(x, "do 0;take 1;care 0;");
        for (int taken = 0; taken < due.length; taken++) {
            DUE.is("Promise 10: behind " + taken + " that were taken", x.top(5), due[taken]);
            x.person(5, 24, 10);
        }
        DUE.is("Promise 10: all were taken", x.top(5), NONE);
    }

    private static void ofLikeOnesTheLater() {
        KitchenTable x = with(2, 2);
        x.set(4, 0, 1);
        DUE.is("Promise 10: of like HIGH the later HOUR", x.top(2), 0);
        DUE.is("Promise 10: not yet put", x.top(1), 1);
        x.set(4, 1, 2);
        DUE.is("Promise 10: of like HIGH the later HOUR", x.top(3), 1);
        // CROSSED is not below 0: it is as high as a NOTE.
        x = with(0, 5);
        x.set(4, 1, 1);
        DUE.is("Promise 10: a CROSSED one later than a NOTE", x.top(2), 1);
        x = with(5, 0);
        x.set(4, 0, 1);
        DUE.is("Promise 10: a CROSSED one later than a NOTE", x.top(2), 0);
        x = with(1, 0, 3, 5);
        DUE.is("Promise 10: four of HIGH 0", x.top(1), 3);
        x.set(4, 0, 1);
        DUE.is("Promise 10: four of HIGH 0, the first is later", x.top(2), 0);
    }

    /** The greater number of the note, whatever its NUMBER or its THING. */
    private static void ofTheseTheGreaterNumber() {
        KitchenTable x = new KitchenTable();
        x.note(2, 0, 39);
        DUE.is("Promise 10: alone", x.top(1), 0);
        for (int note = 1; note < 10; note++) {
            x.note(2, 0, 9 - note);
            DUE.is("Promise 10: the greater number", x.top(1), note);
        }
        x.person(1, 24, 10);
        for (int reads = 1; reads <= 10; reads++) {
            x.set(2, 0, reads);
            DUE.is("Promise 12: the greatest numbers", x.knew(0, 1), 1024 - (1 << (10 - reads)));
        }
    }

    private static void topIsNoneOfNothing() {
        KitchenTable x = new KitchenTable();
        DUE.is("Promise 10: no notes", x.top(0), NONE);
        DUE.is("Promise 10: no notes", x.top(47), NONE);
        x.note(0, 20, 0);
        DUE.is("Promise 10: in the HOUR in which it is put", x.top(20), NONE);
        DUE.is("Promise 10: in the first", x.top(21), 0);
        DUE.is("Promise 10: in the last", x.top(32), 0);
        DUE.is("Promise 10: behind the last", x.top(33), NONE);
        x.set(4, 0, 47);
        DUE.is("Promise 10: put in 47", x.top(47), NONE);
        x.set(4, 0, 46);
        DUE.is("Promise 10: put in 46", x.top(47), 0);
        DUE.is("Promise 10: HOUR -1", x.top(-1), BAD);
        DUE.is("Promise 10: HOUR 48", x.top(48), BAD);
    }

    private static void topIsOfWhatLiesAsTheHourEnds() {
        KitchenTable x = with(0, 4);
        x.person(3, 24, 10);
        DUE.rule(x, "do 0;take 1;care 0;");
        DUE.is("Promise 10: ahead of it", x.top(2), 1);
        DUE.is("Promise 10: what was taken is not there", x.top(3), 0);
        x.set(2, 0, 2);
        DUE.is("Promise 10: nothing is there", x.top(3), NONE);
    }

    private static void oneReadsWhatIsUppermost() {
        KitchenTable x = with(0, 4, 2);
        x.person(1, 24, 0);
        int[] due = {0, 2, 2 + 4, 7, 7};
        for (int reads = 0; reads < due.length; reads++) {
            x.set(2, 0, reads);
            DUE.is("Promise 12: READS " + reads, x.knew(0, 1), due[reads]);
        }
    }

    private static void oneReadsAllIfTheyAreFewer() {
        KitchenTable x = new KitchenTable();
        x.person(10, 24, 120);
        DUE.is("Promise 12: of nothing", x.knew(0, 47), 0);
        for (int note = 0; note < 10; note++) {
            x.note(note % 6, 9, 0);
            DUE.is("Promise 12: READS 12 of " + (note + 1), x.knew(0, 10), (1 << note + 1) - 1);
        }
        x.set(2, 0, 10);
        DUE.is("Promise 12: READS 10 of 10", x.knew(0, 10), 1023);
        x.set(2, 0, 9);
        DUE.is("Promise 12: READS 9 of 10", Integer.bitCount(x.knew(0, 10)), 9);
    }

    private static void oneReadsInTheFirstAndTheLastHour() {
        KitchenTable x = with(0);
        x.person(0, 1, 10);
        DUE.is("Promise 11: in the HOUR behind", x.read(0, 0), 1);
        x.set(1, 0, 12);
        DUE.is("Promise 11: in its last HOUR", x.read(0, 0), 12);
        x.set(1, 0, 13);
        DUE.is("Promise 11: it is gone", x.read(0, 0), NONE);
        x.set(4, 0, 46);
        x.set(1, 0, 1);
        DUE.is("Promise 11: in HOUR 47", x.read(0, 0), 47);
        x.set(4, 0, 47);
        DUE.is("Promise 11: put in HOUR 47", x.read(0, 0), NONE);
        x.set(4, 0, 0);
        x.set(2, 0, 0);
        DUE.is("Promise 11: READS 0", x.read(0, 0), NONE);
    }

    private static void readIsTheFirstHour() {
        KitchenTable x = with(2);
        x.person(3, 5, 10);
        x.person(4, 1, 10);
        DUE.is("Promise 11: the first of 3, 8, 13, ..", x.read(0, 0), 3);
        DUE.is("Promise 11: of another", x.read(1, 0), 4);
        x.note(4, 10, 0);
        DUE.is("Promise 11: the first stays, whatever comes to lie above", x.read(0, 0), 3);
        DUE.is("Promise 11: what is put later", x.read(0, 1), 13);
        DUE.is("Promise 11: what is put later", x.read(1, 1), 11);
        DUE.is("Promise 11: person -1", x.read(-1, 0), BAD);
        DUE.is("Promise 11: person 2", x.read(2, 0), BAD);
        DUE.is("Promise 11: note -1", x.read(0, -1), BAD);
        DUE.is("Promise 11: note 2", x.read(0, 2), BAD);
    }

    private static void knewIsAsTheHourEnds() {
        KitchenTable x = with(2);
        x.person(0, 1, 10);
        x.person(47, 1, 10);
        DUE.is("Promise 12: HOUR 0", x.knew(0, 0), 0);
        DUE.is("Promise 12: in the HOUR in which it was read", x.knew(0, 1), 1);
        x.set(0, 0, 20);
        DUE.is("Promise 12: the HOUR ahead", x.knew(0, 19), 0);
        DUE.is("Promise 12: that HOUR", x.knew(0, 20), 1);
        x.set(4, 0, 30);
        DUE.is("Promise 12: another one, in 46", x.knew(1, 46), 0);
        DUE.is("Promise 12: another one, in 47", x.knew(1, 47), 1);
        DUE.is("Promise 12: HOUR -1", x.knew(0, -1), BAD);
        DUE.is("Promise 12: HOUR 48", x.knew(0, 48), BAD);
        DUE.is("Promise 12: person -1", x.knew(-1, 0), BAD);
        DUE.is("Promise 12: person 2", x.knew(2, 0), BAD);
    }

    private static void knewIsForGood() {
        KitchenTable x = with(0, 0);
        x.person(2, 24, 10);
        DUE.is("Promise 12: in an HOUR in which it does not come", x.knew(0, 3), 2);
        DUE.is("Promise 12: when the note is gone", x.knew(0, 13), 2);
        DUE.is("Promise 12: to the end", x.knew(0, 47), 2);
        DUE.rule(x, "do 0;take 1;care 0;");
        DUE.is("Promise 12: when the note was taken", x.knew(0, 2), 2);
        DUE.is("Promise 12: when the note was taken", x.knew(0, 47), 2);
        x.set(1, 0, 1);
        DUE.is("Promise 12: with what was read behind it", x.knew(0, 3), 3);
    }

    /** In one HOUR the lesser number is first, though it were put, or came to be, later. */
    private static void peopleComeByNumbers() {
        KitchenTable x = with(2);
        x.person(6, 24, 10);
        x.person(6, 24, 10);
        DUE.rule(x, "do asked;take 1;care 0;");
        DUE.is("Promise 11: the first reads it", x.read(0, 0), 6);
        DUE.is("Promise 11: the second does not find it", x.read(1, 0), NONE);
        DUE.is("Promise 14: the first does it", x.when(0, 1), 0);
        DUE.is("Promise 13: the second does not", x.done(0, 1), 0);
        DUE.rule(x, "do asked;take who = 1;care 0;");
        DUE.is("Promise 11: the first has read it ahead of the second", x.read(0, 0), 6);
        DUE.is("Promise 11: the second takes it", x.read(1, 0), 6);
        DUE.is("Promise 9: the second takes it", x.lies(6), 0);
        DUE.rule(x, "do asked;take 1;care 0;");
        x.set(0, 1, 5);
        DUE.is("Promise 11: an HOUR earlier the second reads it", x.read(1, 0), 5);
        DUE.is("Promise 11: and the first does not find it", x.read(0, 0), NONE);
        DUE.is("Promise 14: the second does it first", x.when(0, 1), 1);
    }

    private static void eachThingOnceInThatHour() {
        KitchenTable x = with(4, 4, 4);
        x.person(1, 24, 120);
        DUE.is("Promise 13: once in HOUR 1, however much it is asked; anew in 25", x.done(0, 0), 2);
        x.set(1, 0, 10);
        DUE.is("Promise 13: in 1, 11, 21, 31, 41 anew", x.done(0, 0), 5);
        DUE.is("Promise 13: what is not asked", x.done(1, 0), 0);
        DUE.rule(x, "do 1;take 0;care 0;");
        for (int thing = 0; thing < 4; thing++) {
            DUE.is("Promise 13: each THING", x.done(thing, 0), 5);
            DUE.is("Promise 14: each THING in one HOUR", x.when(thing, 0), 1);
        }
    }

    private static void thingsAheadOfTaking() {
        KitchenTable x = with(2);
        x.person(1, 24, 10);
        DUE.rule(x, "do asked;take 1;care 0;");
        DUE.is("Promise 13: done though it is taken in that HOUR", x.when(0, 0), 1);
        DUE.is("Promise 9: taken", x.lies(1), 0);
        DUE.is("Promise 13: done anew, as it was read", x.done(0, 0), 2);
    }

    private static void takesWhatItHasReadJustThen() {
        KitchenTable x = new KitchenTable();
        x.note(2, 0, 0);
        x.note(4, 3, 0);
        x.person(2, 2, 10);
        DUE.rule(x, "do 0;take hour = 4;care 0;");
        DUE.is("Promise 11: read ahead", x.read(0, 0), 2);
        DUE.is("Promise 11: read just then", x.read(0, 1), 4);
        DUE.is("Promise 9: that alone is taken", x.lies(4), 1);
        DUE.is("Promise 9: that alone is taken", x.lies(24), 1);
        x.set(4, 1, 4);
        DUE.is("Promise 9: what is read once more is taken, too", x.lies(4), 0);
        DUE.is("Promise 9: till then it lies there", x.lies(3), 1);
        x.set(4, 1, 3);
        x.set(2, 0, 2);
        DUE.is("Promise 9: both, read anew and read first", x.lies(4), 0);
    }

    private static void doneByOneAndByAll() {
        KitchenTable x = new KitchenTable();
        DUE.is("Promise 13: there is nobody", x.done(0, 0), BAD);
        DUE.is("Promise 13: by all of nobody", x.done(0, NONE), 0);
        for (int person = 0; person < 5; person++) {
            x.person(0, 1 + person % 2, 0);
        }
        DUE.rule(x, "do 1;take 0;care 0;");
        for (int thing = 0; thing < 4; thing++) {
            DUE.is("Promise 13: by all", x.done(thing, NONE), 48 * 3 + 24 * 2);
            for (int person = 0; person < 5; person++) {
                DUE.is("Promise 13: by " + person, x.done(thing, person), person % 2 == 0 ? 48 : 24);
            }
        }
        DUE.is("Promise 13: person -2", x.done(0, -2), BAD);
        DUE.is("Promise 13: person 5", x.done(0, 5), BAD);
        DUE.is("Promise 13: thing -1", x.done(-1, NONE), BAD);
        DUE.is("Promise 13: thing 4", x.done(4, NONE), BAD);
    }

    private static void whenIsTheFirstTime() {
        KitchenTable x = new KitchenTable();
        for (int person = 0; person < 5; person++) {
            x.person(47 - person, 24, 0);
        }
        DUE.rule(x, "do 1;take 0;care 0;");
        DUE.is("Promise 14: the first HOUR", x.when(3, 0), 43);
        DUE.is("Promise 14: the last of the people", x.when(3, 1), 4);
        DUE.rule(x, "do who = 0;take 0;care 0;");
        DUE.is("Promise 14: HOUR 47", x.when(0, 0), 47);
        DUE.is("Promise 14: the first of the people", x.when(0, 1), 0);
        x.set(0, 2, 0);
        x.set(0, 3, 0);
        DUE.rule(x, "do 1;take 0;care 0;");
        DUE.is("Promise 14: HOUR 0", x.when(1, 0), 0);
        DUE.is("Promise 14: in one HOUR the lesser number", x.when(1, 1), 2);
    }

    private static void whenIsNoneOfNever() {
        KitchenTable x = with(2);
        x.person(0, 1, 0);
        for (int thing = 0; thing < 4; thing++) {
            DUE.is("Promise 14: never", x.when(thing, 0), NONE);
            DUE.is("Promise 14: by nobody", x.when(thing, 1), NONE);
        }
        DUE.is("Promise 14: thing -1", x.when(-1, 0), BAD);
        DUE.is("Promise 14: thing 4", x.when(4, 0), BAD);
        DUE.is("Promise 14: what -1", x.when(0, -1), BAD);
        DUE.is("Promise 14: what 2", x.when(0, 2), BAD);
        x.set(2, 0, 1);
        DUE.is("Promise 14: of that THING alone", x.when(0, 0), 1);
        DUE.is("Promise 14: of that THING alone", x.when(1, 0), NONE);
    }

    private static void thingsAskedAndNeverDone() {
        KitchenTable x = new KitchenTable();
        DUE.is("Promise 15: none", x.things(0), 0);
        for (int thing = 0; thing < 4; thing++) {
            x.note(2, 0, 10 * thing);
            DUE.is("Promise 15: till " + thing, x.things(0), (2 << thing) - 1);
        }
        x.person(1, 24, 10);
        DUE.is("Promise 15: all but one that is done", x.things(0), 7);
        x.set(2, 0, 3);
        DUE.is("Promise 15: all but three", x.things(0), 1);
        x.set(2, 0, 4);
        DUE.is("Promise 15: all were done", x.things(0), 0);
        DUE.is("Promise 15: what -1", x.things(-1), BAD);
        DUE.is("Promise 15: what 2", x.things(2), BAD);
    }

    private static void thingsDoneMoreThanOnce() {
        KitchenTable x = new KitchenTable();
        x.person(24, 24, 0);
        DUE.rule(x, "do 1;take 0;care 0;");
        DUE.is("Promise 15: once is not more than once", x.things(1), 0);
        x.set(0, 0, 23);
        DUE.is("Promise 15: twice by one", x.things(1), 15);
        x.set(0, 0, 24);
        x.person(24, 24, 0);
        DUE.is("Promise 15: once by each of two", x.things(1), 15);
        DUE.rule(x, "do who < thing;take 0;care 0;");
        DUE.is("Promise 15: THINGS 2, 3 by both, 1 by the first", x.things(1), 12);
        DUE.is("Promise 15: none was asked", x.things(0), 0);
    }

    /** What ASKS 0 asks nothing; one that never lies there asks. */
    private static void askedMeansMoreThan0() {
        KitchenTable x = with(0, 1, 3, 5);
        DUE.is("Promise 15: nothing is asked", x.things(0), 0);
        DUE.is("Promise 16: nothing is asked", x.harm(), 0);
        x.note(2, 47, 20);
        DUE.is("Promise 15: it never lies there", x.things(0), 4);
        DUE.is("Promise 16: care 1 + thing", x.harm(), 3);
        x.note(4, 47, 30);
        DUE.is("Promise 15: URGENT", x.things(0), 12);
    }

    private static void harmOfNothing() {
        KitchenTable x = new KitchenTable();
        DUE.is("Promise 16: nothing", x.harm(), 0);
        x.person(0, 1, 129);
        DUE.is("Promise 16: nothing is asked", x.harm(), 0);
        x.note(2, 23, 0);
        x.set(1, 0, 24);
        DUE.is("Promise 16: done just once", x.done(0, NONE), 1);
        DUE.is("Promise 16: done just once is no harm", x.harm(), 0);
    }

    private static void harmOfTimesButTheFirst() {
        KitchenTable x = new KitchenTable();
        x.person(47, 1, 0);
        DUE.rule(x, "do 1;take 0;care 99;");
        DUE.is("Promise 16: each once, unasked", x.harm(), 0);
        x.set(0, 0, 46);
        DUE.is("Promise 16: each twice, unasked", x.harm(), 4);
        x.set(0, 0, 0);
        for (int person = 1; person < 5; person++) {
            DUE.is("Promise 16: so many", x.harm(), 4 * (48 * person - 1));
            x.person(0, 1, 0);
        }
        DUE.is("Promise 16: all that there can be", x.harm(), 956);
        x.note(4, 0, 0);
        DUE.is("Promise 16: asked or not", x.harm(), 956);
    }

    private static void harmOfCare() {
        KitchenTable x = with(2, 2);
        DUE.is("Promise 16: once for a THING, however many ask it", x.harm(), 1);
        x.note(2, 0, 10);
        x.note(2, 0, 20);
        x.note(2, 0, 30);
        DUE.is("Promise 16: care of all THINGS", x.harm(), 1 + 2 + 3 + 4);
        DUE.rule(x, "do 0;take 0;care 99;");
        DUE.is("Promise 16: the bound of each", x.harm(), 4 * 99);
        DUE.rule(x, "do 0;take 0;care 100 - 101 * (thing = 3);");
        DUE.is("Promise 16: each is bound by itself", x.harm(), 3 * 99);
        x.person(47, 1, 0);
        DUE.rule(x, "do thing = 1;take 0;care 50;");
        DUE.is("Promise 16: none for what was done once", x.harm(), 150);
        x.set(0, 0, 45);
        DUE.is("Promise 16: and 2 for what was done 3 times", x.harm(), 152);
    }
}
