/** Promises 24 to 27 at their edges: each sentence that names one has a method of its own. */
public final class CameImageEdgesTest {
    private static final int NONE = KitchenTable.NONE, BAD = KitchenTable.BAD;
    private static final Due DUE = new Due("CameImageEdgesTest");

    public static void main(String[] args) {
        cameIsOfASheet();
        cameHasSize1To40();
        cameOfNobody();
        cameOfEachHour();
        cameOfFirstAndEvery();
        cameOfAllFive();
        cameIsTheFirstHourThatIsOther();
        cameIsOfAllBits();
        anImageOfNothing();
        anImageOfWhatIsFull();
        backIsStateWithoutAnImage();
        backLaysAllTraitsBack();
        backLeavesWhatCameSince();
        backTakesMarksThatCameSince();
        backLaysTheRuleBack();
        backAgainAndAgain();
        anotherImageTakesItsPlace();
        backLeavesAllThatItDoesNotKeep();
        countOfNothing();
        countOfWhatIsFull();
        DUE.end();
    }

    private static void cameIsOfASheet() {
        KitchenTable x = new KitchenTable();
        DUE.is("Promise 24: sheet -1", x.came(-1), BAD);
        DUE.is("Promise 24: sheet 4", x.came(4), BAD);
        for (int sheet = 0; sheet < 4; sheet++) {
            DUE.is("Promise 24: missing", x.came(sheet), -11);
            x.sheet(sheet, sheet % 3, 1);
            DUE.is("Promise 24: nobody in HOUR 0", x.came(sheet), NONE);
            x.sheet(sheet, -1, 1);
            DUE.is("Promise 24: missing again", x.came(sheet), -11);
        }
    }

    private static void cameHasSize1To40() {
        KitchenTable x = new KitchenTable();
        for (int sort = 0; sort < 3; sort++) {
            x.sheet(0, sort, 0);
            DUE.is("Promise 24: size 0", x.came(0), BAD);
            x.sheet(0, sort, 1);
            DUE.is("Promise 24: size 1", x.came(0), NONE);
            x.cell(0, 0, 1);
            DUE.is("Promise 24: size 1, HOUR 0", x.came(0), 0);
            x.sheet(0, sort, 40);
            DUE.is("Promise 24: size 40", x.came(0), NONE);
            x.cell(0, 39, 1);
            DUE.is("Promise 24: size 40, HOUR 39", x.came(0), 39);
        }
    }

    private static void cameOfNobody() {
        KitchenTable x = new KitchenTable();
        x.sheet(0, 0, 40);
        DUE.is("Promise 24: there is nobody", x.came(0), NONE);
        x.person(40, 1, 129);
        DUE.is("Promise 24: one comes behind its HOURS", x.came(0), NONE);
        x.set(0, 0, 39);
        DUE.is("Promise 24: one comes in the last of them", x.came(0), 39);
        x.sheet(0, 0, 39);
        DUE.is("Promise 24: one HOUR less", x.came(0), NONE);
    }

    private static void cameOfEachHour() {
        KitchenTable x = new KitchenTable();
        x.person(0, 24, 0);
        for (int hour = 0; hour < 24; hour++) {
            x.set(0, 0, hour);
            x.sheet(0, 2, 40);
            DUE.is("Promise 24: the first HOUR", x.came(0), hour);
            x.cell(0, hour, 1);
            DUE.is("Promise 24: 24 HOURS later", x.came(0), hour < 16 ? hour + 24 : NONE);
            if (hour < 16) {
                x.cell(0, hour + 24, 1);
                DUE.is("Promise 24: no other", x.came(0), NONE);
            }
        }
    }

    private static void cameOfFirstAndEvery() {
        KitchenTable x = new KitchenTable();
        x.person(3, 1, 0);
        Due.sheet(x, 0, 0, 0, 0, 0, 1, 1, 1);
        DUE.is("Promise 24: EVERY 1", x.came(0), NONE);
        x.set(1, 0, 2);
        DUE.is("Promise 24: EVERY 2", x.came(0), 4);
        x.cell(0, 4, 0);
        DUE.is("Promise 24: EVERY 2", x.came(0), NONE);
        x.set(0, 0, 1);
        DUE.is("Promise 24: one comes ahead of what it tells", x.came(0), 1);
        x.cell(0, 1, 1);
        DUE.is("Promise 24: FIRST 1", x.came(0), NONE);
        x.cell(0, 0, 1);
        DUE.is("Promise 24: one does not come in 0", x.came(0), 0);
    }

    private static void cameOfAllFive() {
        KitchenTable x = new KitchenTable();
        int bits = 0;
        for (int person = 0; person < 5; person++) {
            x.person(2, 24, 0);
            bits |= 1 << person;
            Due.sheet(x, 1, person % 3, 0, 0, bits, 0);
            DUE.is("Promise 24: all of " + (person + 1), x.came(1), NONE);
        }
        for (int person = 0; person < 5; person++) {
            x.cell(1, 2, 31 - (1 << person));
            DUE.is("Promise 24: all but " + person, x.came(1), 2);
        }
        x.cell(1, 2, 63);
        DUE.is("Promise 24: a sixth", x.came(1), 2);
    }

    private static void cameIsTheFirstHourThatIsOther() {
        KitchenTable x = new KitchenTable();
        x.sheet(0, 1, 40);
        for (int hour = 39; hour >= 0; hour--) {
            x.cell(0, hour, 1);
            DUE.is("Promise 24: the first", x.came(0), hour);
        }
        for (int hour = 0; hour < 40; hour++) {
            DUE.is("Promise 24: the first", x.came(0), hour);
            x.cell(0, hour, 0);
        }
        DUE.is("Promise 24: none", x.came(0), NONE);
    }

    private static void cameIsOfAllBits() {
        KitchenTable x = new KitchenTable();
        x.person(0, 24, 0);
        int[][] other = {{0, 3}, {0, 129}, {0, -127}, {1, 257}, {1, 32769}, {2, 65537}, {2, Integer.MIN_VALUE + 1}};
        for (int[] o : other) {
            Due.sheet(x, 0, o[0], o[1]);
            DUE.is("Promise 24: sort " + o[0] + ", " + o[1], x.came(0), 0);
        }
        int[][] alike = {{0, 257}, {0, -255}, {0, 65537}, {1, 65537}, {1, -65535}, {2, 1}};
        for (int[] a : alike) {
            Due.sheet(x, 0, a[0], a[1]);
            DUE.is("Promise 24: sort " + a[0] + ", " + a[1], x.came(0), NONE);
        }
    }

    private static void anImageOfNothing() {
        KitchenTable x = new KitchenTable();
        DUE.is("Promise 25: no marks", x.image(), 0);
        DUE.is("Promise 26: no marks", x.back(), 0);
        x.person(3, 3, 33);
        x.note(2, 3, 3);
        x.note(2, 4, 4);
        x.mark(0, 1);
        DUE.is("Promise 26: none then", x.back(), 0);
        DUE.is("Promise 26: people that came since stay", x.count(0), 1);
        DUE.is("Promise 26: notes that came since stay", x.count(1), 2);
        DUE.is("Promise 26: marks that came since go", x.count(2), 0);
        DUE.is("Promise 26: of these none holds", x.orders(), 2);
        DUE.is("Promise 26: as they came", x.set(0, 0, 3), 3);
        DUE.is("Promise 26: as they came", x.told(1, 1), 4);
    }

    private static KitchenTable full() {
        KitchenTable x = new KitchenTable();
        for (int person = 0; person < 5; person++) {
            x.person(10 + person, 20 + person, 10 * (8 + person) + 5 + person);
        }
        for (int note = 0; note < 10; note++) {
            x.note(note % 6, 30 + note, note);
        }
        for (int mark = 0; mark < 20; mark++) {
            x.mark(mark % 9, 9);
        }
        for (int text = 1; text < 6; text++) {
            Due.text(x, "do " + text + ";take 0;care 0;");
        }
        return x;
    }

    private static void anImageOfWhatIsFull() {
        KitchenTable x = full();
        x.force(5);
        DUE.is("Promise 25: 20 marks", x.image(), 20);
        for (int person = 0; person < 5; person++) {
            for (int what = 0; what < 4; what++) {
                x.set(what, person, 1);
            }
        }
        for (int note = 0; note < 10; note++) {
            x.set(4, note, 0);
        }
        x.force(0);
        DUE.is("Promise 26: 20 marks", x.back(), 20);
        DUE.is("Promise 26: THE RULE", x.count(5), 5);
        for (int person = 0; person < 5; person++) {
            int[] due = {10 + person, 20 + person, 8 + person, 5 + person};
            for (int what = 0; what < 4; what++) {
                DUE.is("Promise 26: what " + what + " of " + person, x.set(what, person, 1), due[what]);
            }
        }
        for (int note = 0; note < 10; note++) {
            DUE.is("Promise 26: HOUR of " + note, x.told(note, 1), 30 + note);
        }
        DUE.is("Promise 26: the marks", x.orders(), 362880);
    }

    private static void backIsStateWithoutAnImage() {
        KitchenTable x = full();
        DUE.is("Promise 26: there is none", x.back(), KitchenTable.STATE);
        int[] due = {5, 10, 20, 6, 0, 0};
        for (int what = 0; what < due.length; what++) {
            DUE.is("Promise 26: nothing has changed", x.count(what), due[what]);
        }
        x.image();
        DUE.is("Promise 26: there is one", x.back(), 20);
    }

    private static void backLaysAllTraitsBack() {
        int[] least = {0, 1, 0, 0};
        int[] most = {47, 24, 12, 9};
        KitchenTable x = new KitchenTable();
        x.person(0, 1, 0);
        x.person(47, 24, 129);
        x.note(0, 0, 0);
        x.note(0, 47, 0);
        x.image();
        for (int what = 0; what < 4; what++) {
            x.set(what, 0, most[what]);
            x.set(what, 1, least[what]);
        }
        x.set(4, 0, 47);
        x.set(4, 1, 0);
        x.back();
        for (int what = 0; what < 4; what++) {
            DUE.is("Promise 26: the least of " + what, x.set(what, 0, least[what]), least[what]);
            DUE.is("Promise 26: the most of " + what, x.set(what, 1, most[what]), most[what]);
        }
        DUE.is("Promise 26: HOUR 0", x.told(0, 1), 0);
        DUE.is("Promise 26: HOUR 47", x.told(1, 1), 47);
    }

    private static void backLeavesWhatCameSince() {
        KitchenTable x = new KitchenTable();
        x.person(5, 6, 78);
        x.note(1, 2, 34);
        x.image();
        x.person(9, 8, 76);
        x.note(5, 4, 32);
        x.set(0, 1, 10);
        x.set(4, 1, 11);
        x.back();
        int[] due = {10, 8, 7, 6};
        for (int what = 0; what < 4; what++) {
            DUE.is("Promise 26: one that came since, as it is", x.set(what, 1, 1), due[what]);
        }
        DUE.is("Promise 26: one that came since, as it is", x.told(1, 1), 11);
        DUE.is("Promise 2: its number goes on", x.person(0, 1, 0), 2);
        DUE.is("Promise 3: its number goes on", x.note(0, 1, 0), 2);
    }

    private static void backTakesMarksThatCameSince() {
        KitchenTable x = new KitchenTable();
        for (int note = 0; note < 4; note++) {
            x.note(0, 0, 0);
        }
        x.mark(0, 1);
        DUE.is("Promise 25: one", x.image(), 1);
        for (int marks = 2; marks <= 20; marks++) {
            DUE.is("Promise 20: a mark against the first", x.mark(1, 0), marks);
            DUE.is("Promise 21: against each other", x.orders(), 0);
        }
        DUE.is("Promise 20: 20", x.count(2), 20);
        DUE.is("Promise 26: one", x.back(), 1);
        DUE.is("Promise 26: the first one holds", x.odds(0, 1, 0), 1);
        DUE.is("Promise 26: the others went", x.orders(), 12);
        DUE.is("Promise 20: behind the first", x.mark(2, 3), 2);
        DUE.is("Promise 21: both hold", x.orders(), 6);
        DUE.is("Promise 26: one", x.back(), 1);
        DUE.is("Promise 21: one holds", x.orders(), 12);
    }

    private static void backLaysTheRuleBack() {
        KitchenTable x = new KitchenTable();
        x.person(0, 1, 0);
        x.image();
        Due.text(x, "do 1;take 0;care 0;");
        x.force(1);
        DUE.is("Promise 8: another rule", x.done(0, 0), 48);
        x.back();
        DUE.is("Promise 26: THE RULE", x.count(5), 0);
        DUE.is("Promise 26: THE RULE", x.done(0, 0), 0);
        DUE.is("Promise 26: a text that came since stays", x.count(3), 2);
        DUE.is("Promise 8: it can be forced", x.force(1), 0);
        x.image();
        x.force(0);
        x.back();
        DUE.is("Promise 26: THE RULE", x.force(0), 1);
    }

    private static void backAgainAndAgain() {
        KitchenTable x = new KitchenTable();
        x.person(7, 7, 77);
        x.note(0, 7, 0);
        x.note(0, 8, 0);
        x.mark(0, 1);
        x.image();
        for (int time = 0; time < 3; time++) {
            x.set(0, 0, time);
            x.set(4, 0, time);
            x.mark(1, 0);
            DUE.is("Promise 26: again", x.back(), 1);
            DUE.is("Promise 26: FIRST again", x.set(0, 0, 7), 7);
            DUE.is("Promise 26: HOUR again", x.told(0, 1), 7);
            DUE.is("Promise 26: marks again", x.orders(), 1);
        }
    }

    private static void anotherImageTakesItsPlace() {
        KitchenTable x = new KitchenTable();
        x.person(1, 1, 0);
        x.note(0, 1, 0);
        x.note(0, 1, 0);
        x.image();
        x.set(0, 0, 2);
        x.set(4, 0, 2);
        x.mark(0, 1);
        DUE.is("Promise 25: another one", x.image(), 1);
        x.set(0, 0, 3);
        x.set(4, 0, 3);
        x.mark(0, 1);
        DUE.is("Promise 26: the last one", x.back(), 1);
        DUE.is("Promise 26: the last FIRST", x.set(0, 0, 2), 2);
        DUE.is("Promise 26: the last HOUR", x.told(0, 1), 2);
    }

    private static void backLeavesAllThatItDoesNotKeep() {
        KitchenTable x = new KitchenTable();
        x.note(0, 0, 0);
        x.image();
        x.feed('d');
        x.feed('o');
        Due.sheet(x, 2, 1, 0, 0, 7);
        x.back();
        DUE.is("Promise 26: THE TAPE stays", x.count(4), 2);
        DUE.is("Promise 26: a sheet stays", x.came(2), 2);
        DUE.is("Promise 26: THE TAPE as it was", x.text(), -102);
    }

    private static void countOfNothing() {
        KitchenTable x = new KitchenTable();
        int[] due = {0, 0, 0, 1, 0, 0};
        for (int what = 0; what < due.length; what++) {
            DUE.is("Promise 27: count(" + what + ")", x.count(what), due[what]);
        }
        for (int wrong : new int[] {-1, 6, Integer.MIN_VALUE, Integer.MAX_VALUE}) {
            DUE.is("Promise 27: what " + wrong, x.count(wrong), BAD);
        }
    }

    private static void countOfWhatIsFull() {
        KitchenTable x = full();
        x.force(5);
        for (int size = 1; size <= 160; size++) {
            DUE.is("Promise 27: as feed() says", x.feed(255), size);
        }
        int[] due = {5, 10, 20, 6, 160, 5};
        for (int what = 0; what < due.length; what++) {
            DUE.is("Promise 27: count(" + what + ")", x.count(what), due[what]);
        }
        DUE.is("Promise 27: what -1", x.count(-1), BAD);
        DUE.is("Promise 27: what 6", x.count(6), BAD);
    }
}
