/** What a TEXT's E is worth, and what its NAMES are, at their edges (promises 7, 8, 13, 9, 16, by which it shows). */
public final class MeaningEdgesTest {
    private static final int NONE = KitchenTable.NONE;
    private static final String LEAST = "(-2*1024*1024*1024)", GREATEST = "(2*1024*1024*1024-1)";
    private static final Due DUE = new Due("MeaningEdgesTest");

    public static void main(String[] args) {
        anEWrapsAt32Bits();
        truthIs1Or0();
        whatIsNot0IsTrue();
        signsBind();
        doTellsWithWhatIsNot0();
        takeTellsWithWhatIsNot0();
        careIsBound();
        careIsOfHour48AndNobody();
        careIsOfAllNotesOfAThing();
        hourInDoAndTake();
        whoInDoAndTake();
        temperInDoAndTake();
        thingInDoAndTake();
        askedAndToldInDo();
        aCrossedOneInDo();
        askedAndToldInTake();
        theFirstText();
        DUE.end();
    }

    /** Whether an E is true: as one who comes once does THING 0 or not. */
    private static void holds(String e, boolean due) {
        KitchenTable x = new KitchenTable();
        x.person(47, 1, 0);
        DUE.rule(x, "do " + e + ";take 0;care 0;");
        DUE.is("Promise 7: " + e, x.done(0, 0), due ? 1 : 0);
    }

    private static void anEWrapsAt32Bits() {
        holds(LEAST + "<0", true);
        holds(GREATEST + "<0", false);
        holds(GREATEST + "+1<0", true);
        holds(GREATEST + "+1=" + LEAST, true);
        holds(LEAST + "-1=" + GREATEST, true);
        holds("-" + LEAST + "=" + LEAST, true);
        holds("-" + GREATEST + "=" + LEAST + "+1", true);
        holds(LEAST + "*-1=" + LEAST, true);
        holds(LEAST + "*2", false);
        holds(GREATEST + "*2=-2", true);
        holds(GREATEST + "*" + GREATEST + "=1", true);
        holds("1024*64*1024*64", false);
        holds("1024*64*1024*32=" + LEAST, true);
        holds(LEAST + "<" + GREATEST, true);
        holds(GREATEST + "<" + LEAST, false);
        holds(LEAST + "-1<" + LEAST, false);
        holds("9999*9999=9998*10*1000+1", true);
        holds("9999*9999*9999=-(1027*1000*1000+349*1000+969)", true);
    }

    private static void truthIs1Or0() {
        String[] are1 = {"not 0", "not not 7", "1<2", "3=3", "4 and 5", "6 or 0", "0 or 7", "8 or 9", "not -0"};
        String[] are0 = {"not 1", "not -1", "not not 0", "2<2", "2<1", "3=4", "0 and 5", "4 and 0", "0 or 0"};
        for (String e : are1) {
            holds("(" + e + ")=1", true);
        }
        for (String e : are0) {
            holds("(" + e + ")=0", true);
        }
    }

    private static void whatIsNot0IsTrue() {
        for (String e : new String[] {"1", "-1", "2", "9999", LEAST, GREATEST}) {
            holds(e, true);
            holds("not " + e, false);
            holds(e + " and 1", true);
            holds("0 or " + e, true);
        }
        for (String e : new String[] {"0", "-0", "0000", "1-1", LEAST + "+" + LEAST}) {
            holds(e, false);
            holds("not " + e, true);
            holds(e + " and 1", false);
            holds("0 or " + e, false);
        }
    }

    private static void signsBind() {
        holds("1 or 0 and 0", true);
        holds("0 and 0 or 1", true);
        holds("0 and (0 or 1)", false);
        holds("not 0 and 0", false);
        holds("not (0 and 0)", true);
        holds("not 1 or 1", true);
        holds("not 2=1", true);
        holds("(not 2)=1", false);
        holds("not 0<0", true);
        holds("2+3*4=14", true);
        holds("2*3+4=10", true);
        holds("9-3-2=4", true);
        holds("9-3+2=8", true);
        holds("-2*3=-6", true);
        holds("-2+3=1", true);
        holds("2--3=5", true);
        holds("1<2 and 3=3 or 0", true);
        holds("1+1<3", true);
        holds("3<1+1", false);
        holds("2*2=5-1", true);
    }

    private static void doTellsWithWhatIsNot0() {
        for (String e : new String[] {"1", "-1", "7", LEAST, GREATEST}) {
            KitchenTable x = new KitchenTable();
            x.person(0, 1, 0);
            DUE.rule(x, "do " + e + ";take 0;care 0;");
            DUE.is("Promise 13: once in each HOUR by do " + e, x.done(3, 0), 48);
        }
    }

    private static void takeTellsWithWhatIsNot0() {
        for (String e : new String[] {"1", "-1", "7", LEAST, GREATEST}) {
            KitchenTable x = new KitchenTable();
            x.person(5, 24, 10);
            x.note(0, 0, 0);
            DUE.is("Promise 9: TEXT 0 takes nothing", x.lies(5), 1);
            DUE.rule(x, "do 0;take " + e + ";care 0;");
            DUE.is("Promise 9: there till then by take " + e, x.lies(4), 1);
            DUE.is("Promise 9: taken by take " + e, x.lies(5), 0);
        }
    }

    private static void care(String e, int harm) {
        KitchenTable x = new KitchenTable();
        x.note(2, 47, 0);
        DUE.rule(x, "do 0;take 0;care " + e + ";");
        DUE.is("Promise 16: care " + e, x.harm(), harm);
    }

    private static void careIsBound() {
        care("-1", 0);
        care("0", 0);
        care("1", 1);
        care("98", 98);
        care("99", 99);
        care("100", 99);
        care("9999", 99);
        care("-9999", 0);
        care(GREATEST, 99);
        care(GREATEST + "+1", 0);
        care(LEAST, 0);
        care(LEAST + "-1", 99);
    }

    private static void careIsOfHour48AndNobody() {
        care("hour", 48);
        care("who+temper", 0);
        KitchenTable x = new KitchenTable();
        for (int person = 0; person < 5; person++) {
            x.person(47, 1, 9);
        }
        x.note(2, 47, 20);
        DUE.rule(x, "do 0;take 0;care hour+who+temper;");
        DUE.is("Promise 16: care is of HOUR 48, who 0, temper 0", x.harm(), 48);
        DUE.rule(x, "do 0;take 0;care thing+1;");
        DUE.is("Promise 16: care is of the THING", x.harm(), 3);
    }

    private static void careIsOfAllNotesOfAThing() {
        KitchenTable x = new KitchenTable();
        x.note(2, 47, 10);
        x.note(4, 0, 10);
        x.note(1, 47, 10);
        x.note(3, 3, 10);
        x.note(5, 3, 10);
        x.note(2, 0, 20);
        x.note(1, 0, 0);
        DUE.rule(x, "do 0;take 0;care asked*10+told;");
        DUE.is("Promise 16: what all of it ask and tell: 30 and 5, 10 and 0", x.harm(), 45);

        x = new KitchenTable();
        for (int note = 0; note < 10; note++) {
            x.note(note % 9 == 0 ? 3 : 4, 0, 0);
        }
        DUE.rule(x, "do 0;take 0;care asked*3+told*10;");
        DUE.is("Promise 16: the first and the last of ten tell, eight ask", x.harm(), 48 + 40);
    }

    private static void hourInDoAndTake() {
        for (int hour = 1; hour < 48; hour += 46) {
            KitchenTable x = new KitchenTable();
            x.person(0, 1, 10);
            x.note(0, hour - 1, 0);
            DUE.rule(x, "do hour=" + hour + ";take hour=" + hour + ";care 0;");
            DUE.is("Promise 14: hour " + hour, x.when(0, 0), hour);
            DUE.is("Promise 13: hour " + hour, x.done(0, 0), 1);
            DUE.is("Promise 9: hour " + hour, x.lies(hour), 0);
        }
        KitchenTable x = new KitchenTable();
        x.person(0, 1, 10);
        DUE.rule(x, "do hour=0;take 0;care 0;");
        DUE.is("Promise 14: hour 0", x.when(0, 0), 0);
        DUE.rule(x, "do hour=48 or hour<0;take 0;care 0;");
        DUE.is("Promise 14: no hour 48", x.when(0, 0), NONE);
    }

    private static void whoInDoAndTake() {
        for (int who = 0; who < 5; who++) {
            KitchenTable x = new KitchenTable();
            for (int person = 0; person < 5; person++) {
                x.person(10 + person, 24, 10);
            }
            x.note(0, 9, 0);
            DUE.rule(x, "do who=" + who + ";take who=" + who + ";care 0;");
            DUE.is("Promise 14: who " + who, x.when(0, 1), who);
            DUE.is("Promise 13: who " + who, x.done(0, who), x.done(0, NONE));
            DUE.is("Promise 9: ahead of who " + who, x.lies(9 + who), who == 0 ? 0 : 1);
            DUE.is("Promise 9: who " + who, x.lies(10 + who), 0);
        }
    }

    private static void temperInDoAndTake() {
        KitchenTable x = new KitchenTable();
        x.person(5, 24, 10);
        x.person(6, 24, 19);
        x.note(0, 0, 0);
        DUE.rule(x, "do temper=9;take temper=9;care 0;");
        DUE.is("Promise 13: TEMPER 0", x.done(0, 0), 0);
        DUE.is("Promise 13: TEMPER 9", x.done(0, 1), 2);
        DUE.is("Promise 9: TEMPER 0", x.lies(5), 1);
        DUE.is("Promise 9: TEMPER 9", x.lies(6), 0);
    }

    private static void thingInDoAndTake() {
        for (int thing = 0; thing < 4; thing++) {
            KitchenTable x = new KitchenTable();
            x.person(5, 24, 120);
            for (int of = 0; of < 4; of++) {
                x.note(0, 0, 10 * of + 9 - of);
            }
            DUE.rule(x, "do thing=" + thing + ";take thing=" + thing + ";care 0;");
            for (int of = 0; of < 4; of++) {
                DUE.is("Promise 13: thing " + thing, x.done(of, 0), of == thing ? 2 : 0);
            }
            DUE.is("Promise 9: thing " + thing, x.lies(5), 15 - (1 << thing));
        }
    }

    /** All of the THING that this one has read by then, in this HOUR too, and no other's; also what is gone. */
    private static void askedAndToldInDo() {
        KitchenTable x = new KitchenTable();
        x.person(5, 1, 10);
        x.person(5, 1, 0);
        x.note(4, 0, 10);
        x.note(2, 0, 10);
        x.note(1, 0, 10);
        x.note(3, 0, 19);
        x.note(2, 0, 20);
        DUE.rule(x, "do asked=2;take 1;care 0;");
        // Read one by one, and taken: 0 (asks 2), 3 (tells 2), 4 (of another THING), 1 (asks 1), 2 (tells 1).
        DUE.is("Promise 14: read in that HOUR", x.when(1, 0), 5);
        DUE.is("Promise 13: till it asks 3 together", x.done(1, 0), 3);
        DUE.is("Promise 13: one who has read nothing", x.done(1, 1), 0);
        DUE.rule(x, "do asked=3 and told=2;take 1;care 0;");
        DUE.is("Promise 14: what has been taken asks and tells", x.when(1, 0), 8);
        DUE.is("Promise 13: till it tells 3 together", x.done(1, 0), 1);
        DUE.rule(x, "do asked=3 and told=3;take 1;care 0;");
        DUE.is("Promise 13: for good", x.done(1, 0), 39);
        DUE.rule(x, "do asked=1;take 1;care 0;");
        DUE.is("Promise 13: of its THING alone", x.done(2, 0), 41);
        DUE.is("Promise 13: of its THING alone", x.done(3, 0), 0);
    }

    /** A CROSSED one asks 0, not 1 less; it tells twice a TELLING's. */
    private static void aCrossedOneInDo() {
        KitchenTable x = new KitchenTable();
        x.person(5, 24, 120);
        x.note(2, 4, 0);
        x.note(5, 4, 0);
        x.note(5, 4, 10);
        DUE.rule(x, "do asked=1 and told=2 or told=2 and asked=0;take 0;care 0;");
        DUE.is("Promise 13: an ASKING and a CROSSED one", x.done(0, 0), 2);
        DUE.is("Promise 13: a CROSSED one", x.done(1, 0), 2);
        DUE.rule(x, "do asked<0;take asked<0;care 0;");
        DUE.is("Promise 13: nothing asks less than 0", x.done(1, NONE), 0);
        DUE.is("Promise 9: nothing asks less than 0", x.lies(5), 7);
    }

    /** Of the note alone, whatever others of its THING ask and tell. */
    private static void askedAndToldInTake() {
        KitchenTable x = new KitchenTable();
        x.person(5, 24, 120);
        for (int kind = 0; kind < 6; kind++) {
            x.note(kind, 4, 10);
        }
        String[] rules = {"asked=0 and told=0", "asked=0 and told=1", "asked=1 and told=0", "asked=2 and told=0",
            "asked=0 and told=2", "asked=3 or told=3"};
        int[] gone = {1, 2, 4, 16, 8 + 32, 0};
        for (int i = 0; i < 5; i++) {
            DUE.rule(x, "do 0;take " + rules[i] + ";care 0;");
            DUE.is("Promise 9: taken by " + rules[i], x.lies(5), 63 - gone[i]);
        }
        KitchenTable y = new KitchenTable();
        y.person(5, 24, 120);
        for (int kind = 0; kind < 6; kind++) {
            y.note(kind, 4, 10);
        }
        DUE.rule(y, "do 0;take " + rules[5] + ";care 0;");
        DUE.is("Promise 9: taken by " + rules[5], y.lies(5), 63);
    }

    /** do told < asked ; take 0 ; care 1 + thing ; */
    private static void theFirstText() {
        KitchenTable x = new KitchenTable();
        for (int thing = 0; thing < 4; thing++) {
            x.note(2, 47, 10 * thing);
            DUE.is("Promise 1: care 1 + thing", x.harm(), (thing + 1) * (thing + 2) / 2);
        }
        x.person(10, 24, 120);
        x.note(2, 9, 0);
        DUE.is("Promise 1: asked 1, told 0", x.done(0, 0), 2);
        x.note(1, 9, 0);
        DUE.is("Promise 1: asked 1, told 1", x.done(0, 0), 0);
        x.note(4, 9, 0);
        DUE.is("Promise 1: asked 3, told 1", x.done(0, 0), 2);
        x.note(3, 9, 0);
        DUE.is("Promise 1: asked 3, told 3", x.done(0, 0), 0);
        DUE.is("Promise 1: take 0", x.lies(10), 16 + 32 + 64 + 128);
    }
}
