/** Promises 17 to 19 at their edges: each sentence that names one has a method of its own. */
public final class HelpsEdgesTest {
    private static final int NONE = KitchenTable.NONE, BAD = KitchenTable.BAD;
    private static final Due DUE = new Due("HelpsEdgesTest");

    public static void main(String[] args) {
        helpsNobody();
        helpsOfLikeOnesTheFirst();
        helpsTheLast();
        helpsIsWith12Reads();
        helpsEvenIfThereIsMoreHarm();
        helpsOneAtATime();
        onceIsOfANoteThatThereIs();
        onceIsTheLatest();
        onceInTheFirstAndTheLastHour();
        onceIsNone();
        onceIsNotTwice();
        onceLeavesOthersAsTheyAre();
        onceIsOfItsThingInAll();
        whoseIsTheLeast();
        whoseIsNoMoreThan();
        whoseIs0AndTen();
        whoseIsNone();
        whoseIsNotMonotonous();
        whoseSkipsWhatIsMore();
        questionsKeepTheReads();
        DUE.end();
    }

    private static void helps(KitchenTable x, String when, int whom, int harm) {
        DUE.is("Promise 17: whom, " + when, x.helps(0), whom);
        DUE.is("Promise 17: HARM then, " + when, x.helps(1), harm);
    }

    private static void helpsNobody() {
        KitchenTable x = new KitchenTable();
        helps(x, "nobody, no notes", NONE, NONE);
        x.note(2, 0, 30);
        helps(x, "nobody", NONE, NONE);
        DUE.is("Promise 17: what -1 of nobody", x.helps(-1), BAD);
        DUE.is("Promise 17: what 2 of nobody", x.helps(2), BAD);
        x.person(47, 1, 0);
        helps(x, "one", 0, 4);
        DUE.is("Promise 17: what -1", x.helps(-1), BAD);
        DUE.is("Promise 17: what 2", x.helps(2), BAD);
    }

    private static void helpsOfLikeOnesTheFirst() {
        KitchenTable x = new KitchenTable();
        x.note(2, 46, 30);
        for (int person = 0; person < 5; person++) {
            x.person(47, 1, 0);
        }
        helps(x, "five alike", 0, 0);
        x.set(0, 0, 46);
        x.set(1, 0, 24);
        helps(x, "four alike", 1, 0);
        for (int person = 1; person < 5; person++) {
            x.set(0, person, 45);
            x.set(1, person, 24);
        }
        helps(x, "no one is any help", 0, 4);
    }

    private static void helpsTheLast() {
        KitchenTable x = new KitchenTable();
        x.note(2, 0, 30);
        for (int person = 0; person < 5; person++) {
            x.person(10 - person, 5, 0);
        }
        x.set(1, 4, 24);
        helps(x, "the fifth, who does it twice", 4, 1);
    }

    private static void helpsIsWith12Reads() {
        KitchenTable x = new KitchenTable();
        x.note(2, 0, 0);
        for (int note = 1; note < 10; note++) {
            x.note(4, 0, 10);
        }
        x.person(24, 24, 0);
        helps(x, "all ten are read", 0, 0);
        x.set(2, 0, 9);
        DUE.is("Promise 17: nine are not enough", x.harm(), 1);
        helps(x, "all ten are read", 0, 0);
        x.set(2, 0, 12);
        helps(x, "12 as they are", 0, 0);
    }

    private static void helpsEvenIfThereIsMoreHarm() {
        KitchenTable x = new KitchenTable();
        x.note(2, 0, 0);
        x.person(1, 1, 0);
        x.person(1, 2, 0);
        DUE.is("Promise 17: harm now", x.harm(), 1);
        helps(x, "the less of two that are more than now", 1, 23);
        DUE.is("Promise 17: harm now, still", x.harm(), 1);
    }

    private static void helpsOneAtATime() {
        KitchenTable x = new KitchenTable();
        x.note(2, 0, 0);
        x.note(2, 0, 10);
        x.person(24, 24, 0);
        x.person(24, 24, 0);
        helps(x, "each alone does both", 0, 0);
        x.set(2, 0, 12);
        helps(x, "both do both", 0, 0);
        DUE.is("Promise 17: the first alone", x.harm(), 0);
        x.set(2, 1, 12);
        helps(x, "both do both", 0, 2);
    }

    private static void onceIsOfANoteThatThereIs() {
        KitchenTable x = new KitchenTable();
        DUE.is("Promise 18: there is none", x.once(0), BAD);
        for (int note = 0; note < 10; note++) {
            x.note(2, 0, 0);
        }
        DUE.is("Promise 18: note -1", x.once(-1), BAD);
        DUE.is("Promise 18: note 10", x.once(10), BAD);
        DUE.is("Promise 18: note 9, done by nobody", x.once(9), NONE);
    }

    private static void onceIsTheLatest() {
        KitchenTable x = new KitchenTable();
        x.person(10, 10, 10);
        x.note(2, 0, 0);
        DUE.is("Promise 18: read in 40 alone", x.once(0), 39);
        DUE.is("Promise 18: its HOUR stays", x.told(0, 1), 0);
        DUE.is("Promise 18: what is done stays", x.done(0, NONE), 4);
        x.set(4, 0, 39);
        DUE.is("Promise 18: so it is", x.done(0, NONE), 1);
        x.set(4, 0, 40);
        DUE.is("Promise 18: not an HOUR later", x.done(0, NONE), 0);
        DUE.is("Promise 18: wherever it is now", x.once(0), 39);
        x.set(4, 0, 47);
        DUE.is("Promise 18: wherever it is now", x.once(0), 39);
    }

    private static void onceInTheFirstAndTheLastHour() {
        KitchenTable x = new KitchenTable();
        x.person(0, 1, 10);
        x.note(2, 0, 0);
        DUE.rule(x, "do asked and hour = 1;take 0;care 0;");
        DUE.is("Promise 18: HOUR 0", x.once(0), 0);
        DUE.rule(x, "do asked and hour = 47;take 0;care 0;");
        DUE.is("Promise 18: HOUR 46, to be read in 47", x.once(0), 46);
        DUE.rule(x, "do hour = 20;take 0;care 0;");
        DUE.is("Promise 18: HOUR 47, done without it", x.once(0), 47);
    }

    private static void onceIsNone() {
        KitchenTable x = new KitchenTable();
        x.note(2, 0, 0);
        DUE.is("Promise 18: nobody comes", x.once(0), NONE);
        x.person(0, 1, 0);
        DUE.is("Promise 18: nobody reads", x.once(0), NONE);
        x.set(2, 0, 1);
        DUE.rule(x, "do asked and hour = 0;take 0;care 0;");
        DUE.is("Promise 18: nothing lies in HOUR 0", x.once(0), NONE);
        DUE.is("Promise 18: its HOUR stays", x.told(0, 1), 0);
    }

    private static void onceIsNotTwice() {
        KitchenTable x = new KitchenTable();
        x.person(0, 1, 10);
        x.note(2, 0, 0);
        DUE.rule(x, "do asked and 45 < hour;take 0;care 0;");
        DUE.is("Promise 18: put in 46 it is done in 47 alone", x.once(0), 46);
        x.person(0, 1, 10);
        DUE.is("Promise 18: by two it is done twice", x.once(0), NONE);
    }

    private static void onceLeavesOthersAsTheyAre() {
        KitchenTable x = new KitchenTable();
        x.person(10, 10, 120);
        x.note(2, 0, 0);
        x.note(2, 35, 0);
        DUE.is("Promise 18: the other is read in 40", x.once(0), 47);
        DUE.is("Promise 18: the other is read in 10", x.once(1), NONE);
        DUE.is("Promise 18: both stay", x.told(0, 1), 0);
        DUE.is("Promise 18: both stay", x.told(1, 1), 35);
    }

    private static void onceIsOfItsThingInAll() {
        KitchenTable x = new KitchenTable();
        x.person(30, 24, 10);
        x.person(40, 24, 10);
        x.note(2, 0, 10);
        DUE.is("Promise 18: by one, though not by the other", x.once(0), 39);
        x.note(2, 45, 0);
        DUE.is("Promise 18: THING 0 is never done as it is", x.done(0, NONE), 0);
        DUE.is("Promise 18: THING 0", x.once(1), 39);
        DUE.is("Promise 18: THING 1, still", x.once(0), 39);
    }

    /** One who comes once; notes one above another, each of another THING: harm 10, 6, 3, 1, 0 by READS 0 to 4. */
    private static KitchenTable stack() {
        KitchenTable x = new KitchenTable();
        x.person(24, 24, 0);
        for (int thing = 0; thing < 4; thing++) {
            x.note(2, 20, 10 * thing);
        }
        return x;
    }

    private static void whoseIsTheLeast() {
        KitchenTable x = stack();
        int[] due = {4, 3, 3, 2, 2, 2, 1, 1, 1, 1, 0, 0};
        for (int most = 0; most < due.length; most++) {
            DUE.is("Promise 19: most " + most, x.whose(0, most), due[most]);
            DUE.is("Promise 19: its READS stay", x.set(2, 0, most), Math.max(0, most - 1));
        }
    }

    private static void whoseIsNoMoreThan() {
        KitchenTable x = stack();
        DUE.is("Promise 19: most -1", x.whose(0, -1), BAD);
        DUE.is("Promise 19: most 0", x.whose(0, 0), 4);
        DUE.is("Promise 19: most 9999", x.whose(0, 9999), 0);
        DUE.is("Promise 19: most 10000", x.whose(0, 10000), BAD);
        DUE.is("Promise 19: person -1", x.whose(-1, 0), BAD);
        DUE.is("Promise 19: person 1", x.whose(1, 0), BAD);
        DUE.is("Promise 19: nobody", new KitchenTable().whose(0, 0), BAD);
    }

    private static void whoseIs0AndTen() {
        KitchenTable x = new KitchenTable();
        x.person(24, 24, 129);
        DUE.is("Promise 19: 0, no harm at all", x.whose(0, 0), 0);
        x.note(2, 20, 0);
        for (int note = 1; note < 10; note++) {
            x.note(4, 20, 10);
        }
        DUE.is("Promise 19: the undermost of ten", x.whose(0, 0), 10);
        DUE.is("Promise 19: one", x.whose(0, 1), 1);
        DUE.is("Promise 19: 1 + 2", x.whose(0, 3), 0);
        for (int person = 1; person < 5; person++) {
            x.person(47, 1, 0);
        }
        DUE.is("Promise 19: the fifth can't help", x.whose(4, 0), 0);
        x.set(2, 0, 0);
        DUE.is("Promise 19: the fifth can't help", x.whose(4, 2), NONE);
    }

    private static void whoseIsNone() {
        KitchenTable x = stack();
        x.set(0, 0, 0);
        x.set(1, 0, 24);
        DUE.is("Promise 19: in 24", x.whose(0, 0), 4);
        x.set(0, 0, 46);
        DUE.is("Promise 19: too late", x.whose(0, 9), NONE);
        DUE.is("Promise 19: just that much", x.whose(0, 10), 0);
        x.person(0, 24, 0);
        DUE.is("Promise 19: another one", x.whose(1, 0), 4);
    }

    /** More READS may bring more harm, and less again. */
    private static void whoseIsNotMonotonous() {
        KitchenTable x = new KitchenTable();
        x.person(1, 1, 0);
        x.note(1, 1, 0);
        x.note(2, 0, 0);
        DUE.is("Promise 19: with the TELLING it is done once, without it 47 times", x.whose(0, 0), 2);
        DUE.is("Promise 19: unread, HARM is 1", x.whose(0, 1), 0);
        x = new KitchenTable();
        x.person(1, 1, 120);
        x.note(2, 0, 0);
        DUE.is("Promise 19: any READS do it 47 times", x.whose(0, 1), 0);
        DUE.is("Promise 19: any READS do it 47 times", x.whose(0, 45), 0);
        DUE.is("Promise 19: any READS do it 47 times", x.whose(0, 0), NONE);
        x.set(1, 0, 24);
        x.set(0, 0, 24);
        x.note(1, 20, 0);
        DUE.is("Promise 19: READS 1 do it once, READS 2 never", x.whose(0, 0), 1);
    }

    private static void whoseSkipsWhatIsMore() {
        KitchenTable x = new KitchenTable();
        x.person(1, 1, 0);
        x.note(1, 1, 0);
        x.note(2, 0, 0);
        x.note(2, 46, 30);
        DUE.is("Promise 19: with what is uppermost later", x.whose(0, 4), 2);
        DUE.is("Promise 19: with what is uppermost later", x.whose(0, 1), 2);
        DUE.is("Promise 19: unread", x.whose(0, 5), 0);
    }

    private static void questionsKeepTheReads() {
        KitchenTable x = stack();
        x.person(24, 24, 129);
        x.set(2, 0, 3);
        int harm = x.harm();
        x.helps(0);
        DUE.is("Promise 17: harm stays", x.harm(), harm);
        x.whose(0, 0);
        DUE.is("Promise 19: harm stays", x.harm(), harm);
        x.whose(1, 9999);
        x.once(3);
        DUE.is("Promise 18: harm stays", x.harm(), harm);
        DUE.is("Promise 19: READS of the one", x.set(2, 0, 3), 3);
        DUE.is("Promise 19: READS of the other", x.set(2, 1, 3), 12);
        DUE.is("Promise 18: HOUR", x.told(3, 1), 20);
    }
}
