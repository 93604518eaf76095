/** Promises 6 to 8: feed, text, force; what texts mean, and their faults. */
public final class TextTest {
    private static final Due DUE = new Due("TextTest");

    public static void main(String[] args) {
        feed();
        faults();
        nesting();
        behindAnother();
        full();
        force();
        values();
        names();
        DUE.end();
    }

    private static void feed() {
        KitchenTable x = new KitchenTable();
        DUE.is("6: below", x.feed(-1), KitchenTable.BAD);
        DUE.is("6: above", x.feed(256), KitchenTable.BAD);
        for (int i = 1; i <= 160; i++) {
            DUE.is("6: feed", x.feed(i == 7 ? 0 : 255), i);
        }
        DUE.is("6: FULL", x.feed(32), KitchenTable.FULL);
        DUE.is("6: BAD is first", x.feed(256), KitchenTable.BAD);
        DUE.is("6: count", x.count(4), 160);
        DUE.is("7: no byte of it", x.text(), -100);
        DUE.is("7: empty then", x.count(4), 0);
        DUE.is("6: again", x.feed(32), 1);
    }

    private static void fault(String bytes, int place) {
        KitchenTable x = new KitchenTable();
        DUE.is("7: " + bytes, Due.text(x, bytes), -100 - place);
        DUE.is("7: empty by a fault", x.count(4), 0);
        DUE.is("7: no text came", x.count(3), 1);
    }

    private static void good(String bytes) {
        KitchenTable x = new KitchenTable();
        DUE.is("7: " + bytes, Due.text(x, bytes), 1);
        DUE.is("7: empty", x.count(4), 0);
        DUE.is("7: a text came", x.count(3), 2);
    }

    private static void faults() {
        good("do 1;take 2;care 3;");
        good("\n do 0001 ; take\n2 ;care 9999; \n ");
        good("do(1);take-1;care--1;");
        good("do not not 1 = 2 or not 3 and 4 < 5; take 1 - -1; care (not 1) * 2;");
        good("do asked;take told;care hour+who*temper-thing;");
        fault("", 0);
        fault("  ", 2);
        fault("do 1;take 2;care 3", 18);
        fault("do 1;take 2;care 3 \n", 20);
        fault("do 1;take 2;", 12);
        fault("do 1;take 2;care 3;;", 19);
        fault("do 1;take 2;care 3; do", 20);
        fault("take 1;", 0);
        fault("do 1;do 2;", 5);
        fault("do ;", 3);
        fault("do 1 2;", 5);
        fault("do 1a;", 4);
        fault("do 12345;", 3);
        fault("do 00000;", 3);
        fault("do 1+;", 5);
        fault("do 1+*2;", 5);
        fault("do 1<2<3;", 6);
        fault("do 1=2=3;", 6);
        fault("do 1=2<3;", 6);
        fault("do 1+not 2;", 5);
        fault("do 1<not 2;", 5);
        fault("do -not 2;", 4);
        fault("do (1;", 5);
        fault("do 1);", 4);
        fault("do ();", 4);
        fault("do and;", 3);
        fault("do 1 or;", 7);
        fault("do 1 or or 2;", 8);
        fault("do do;", 3);
        fault("do dos;", 3);
        fault("dotake 1;", 0);
        fault("do ask;", 3);
        fault("do askeds;", 3);
        fault("do Asked;", 3);
        fault("do 1 \t;", 5);
        fault("do 1 \r;", 5);
        fault("do 1 > 2;", 5);
        fault("do 1 @", 5);
        fault("do 1;take 2;care 3;" + (char) 255, 19);
        fault("do 1;take 2;care 3;" + (char) 0, 19);
        fault("do 1 ; care 2;", 7);
        fault("do take 1;", 3);
        fault("DO 1;", 0);
        for (String word : new String[] {"asked", "told", "hour", "who", "temper", "thing"}) {
            good("do " + word + ";take 0;care 0;");
            fault("do 1 " + word + ";", 5);
            fault("do x" + word.substring(1) + ";", 3);
            fault("do " + word.substring(1) + ";", 3);
            fault("do " + word.substring(0, word.length() - 1) + "x;", 3);
        }
        fault("xo 1;", 0);
        fault("do 1;xake 1;", 5);
        fault("do 1;take 1;xare 1;", 12);
        fault("do 1 xr 1;", 5);
        fault("do 1 xnd 1;", 5);
        fault("do xot 1;", 3);
    }

    private static void nesting() {
        good("do (((((1)))));take -----1;care not not not not not 1;");
        good("do ((((-1))))+(((((2)))));take -1+-2+-3+-4+-5+-6;care not 1 and not 2 and not 3 or not 4 or not 5 or not 6;");
        good("do not(-(-1))+(((-1)));take 0;care 0;");
        fault("do ((((((1))))));", 8);
        fault("do ------1;", 8);
        fault("do not not not not not not 1;", 23);
        fault("do not (not (not ( 1)));", 17);
        fault("do ((((-(1)))));", 8);
        fault("do ((((-1+-(2)))));", 11);
        fault("do not not not not not -1;", 23);
        fault("do not not not not 1 < -(2);", 24);
        fault("do ((((((1;take 12345", 8);
        good("do not not not not -1 < -2;take (1)*(2);care (-1)+(-(2));");
        good("do not not not not not 1 < 2 and -----1 = 3;take 0;care 0;");
    }

    /** What was on the tape before, or was read of a text till its fault, is forgotten. */
    private static void behindAnother() {
        KitchenTable x = new KitchenTable();
        DUE.is("7: a long one", Due.text(x, "do 9999; take 9999; care 9999; 1"), -131);
        DUE.is("7: no digits behind the end", Due.text(x, "do 9"), -104);
        DUE.is("7: no letters behind the end", Due.text(x, "do 1+1; ta"), -108);
        DUE.is("7: good", Due.text(x, "do thing = 2; take 0; care 0;"), 1);
        x.force(1);
        x.person(47, 1, 0);
        DUE.is("7: only what was read of it", x.things(1), 0);
        DUE.is("7: only what was read of it", x.done(2, 0), 1);
        DUE.is("7: only what was read of it", x.done(0, -1), 0);

        StringBuilder bytes = new StringBuilder();
        for (int i = 0; i < 160; i++) {
            bytes.append('1');
        }
        fault(bytes.toString(), 0);
        fault("do 1; take 0; care 0;" + bytes.substring(21), 21);
        fault(bytes.toString().replace('1', 'z'), 0);
        fault(bytes.toString().replace('1', ' '), 160);
        fault(bytes.toString().replace('1', '\n'), 160);
        good("do 1; take 0; care 0;" + bytes.substring(21).replace('1', ' '));
        StringBuilder sum = new StringBuilder("do 1; take 0; care 0");
        while (sum.length() < 157) {
            sum.append("+1");
        }
        fault(sum.toString(), sum.length());
        good(sum + ";");
        fault(sum.substring(0, 158) + "+1", 160);
    }

    private static void full() {
        KitchenTable x = new KitchenTable();
        for (int i = 1; i < 6; i++) {
            DUE.is("7: a text", Due.text(x, "do " + i + "; take 0; care 0;"), i);
        }
        DUE.is("7: texts", x.count(3), 6);
        DUE.is("7: FULL", Due.text(x, "do 1; take 0; care 0;"), KitchenTable.FULL);
        DUE.is("7: the tape stays", x.count(4), 21);
        x.feed('@');
        DUE.is("7: FULL ahead of all", x.text(), KitchenTable.FULL);
        DUE.is("7: the tape stays", x.count(4), 22);
        DUE.is("7: texts", x.count(3), 6);
        DUE.is("8: the last", x.force(5), 0);
        DUE.is("8: none such", x.force(6), KitchenTable.BAD);
    }

    private static void force() {
        KitchenTable x = new KitchenTable();
        DUE.is("8: itself", x.force(0), 0);
        DUE.is("8: none yet", x.force(1), KitchenTable.BAD);
        DUE.is("8: below", x.force(-1), KitchenTable.BAD);
        x.person(0, 1, 0);
        DUE.is("8: TEXT 0 does nothing unread", x.done(0, -1), 0);
        DUE.is("8: text", Due.text(x, "do 1; take 0; care 0;"), 1);
        DUE.is("8: a text alone changes nothing", x.done(0, -1), 0);
        DUE.is("8: which was", x.force(1), 0);
        DUE.is("8: it rules", x.done(0, -1), 48);
        DUE.is("8: a fault", Due.text(x, "do 0; take"), -110);
        DUE.is("8: it still rules", x.done(0, -1), 48);
        DUE.is("8: count", x.count(5), 1);
        DUE.is("8: which was", x.force(0), 1);
        DUE.is("8: TEXT 0 again", x.done(0, -1), 0);
    }

    /** A constant E is true (1) or not (0), as one person's first THING is done or not. */
    private static void value(String e, boolean is) {
        KitchenTable x = new KitchenTable();
        x.person(47, 1, 0);
        DUE.rule(x, "do " + e + "; take 0; care 0;");
        DUE.is("value of " + e, x.done(0, 0), is ? 1 : 0);
    }

    private static void values() {
        value("0", false);
        value("7", true);
        value("-1", true);
        value("2 or 0", true);
        value("0 or 0", false);
        value("(2 or 0) = 1", true);
        value("(2 and 3) = 1", true);
        value("2 and 0", false);
        value("0 and 0 or 1", true);
        value("1 or 0 and 0", true);
        value("not 0", true);
        value("not 5", false);
        value("(not 0) = 1", true);
        value("not not 5", true);
        value("(not not 5) = 1", true);
        value("not 1 = 2", true);
        value("not 0 and 0", false);
        value("1 < 2", true);
        value("2 < 2", false);
        value("-3 < -2", true);
        value("2 = 2", true);
        value("(3 < 4) = 1", true);
        value("1 + 2 * 3 = 7", true);
        value("(1 + 2) * 3 = 9", true);
        value("9 - 3 - 2 = 4", true);
        value("9 - 3 + 2 = 8", true);
        value("-2 * 3 = -6", true);
        value("2 - -3 = 5", true);
        value("--4 = 4", true);
        value("1 = 2 or 3", true);
        value("1 < 2 and 2 < 1", false);
        // 2^15 * 2^16 is 2^31, which wraps below 0; 2^16 * 2^16 wraps to 0.
        value("1024 * 32 * 1024 * 64 < 0", true);
        value("1024 * 64 * 1024 * 64", false);
        value("1024*32*1024*64 = -(1024*32*1024*64)", true);
        value("1024*32*1024*64 - 1 < 0", false);
        value("1024*32*1024*64 - 1 + 1 < 0", true);
    }

    /** Each NAME in each part. */
    private static void names() {
        KitchenTable x = new KitchenTable();
        x.person(0, 24, 13);
        x.person(2, 5, 14);
        DUE.rule(x, "do hour = 12 and who = 1 and temper = 4 and thing = 2; take 0; care 0;");
        DUE.is("names of do", x.done(2, 1), 1);
        DUE.is("names of do", x.done(2, -1), 1);
        DUE.is("names of do", x.when(2, 0), 12);
        DUE.is("names of do", x.when(2, 1), 1);
        DUE.is("names of do", x.done(1, -1), 0);

        x = new KitchenTable();
        x.person(1, 1, 103);
        x.note(1, 0, 20);
        x.note(3, 0, 20);
        x.note(2, 0, 20);
        x.note(4, 0, 10);
        DUE.rule(x, "do asked = 1 and told = 3; take 0; care 0;");
        DUE.is("asked, told of do: together, by things", x.done(2, 0), 47);
        DUE.is("asked, told of do", x.done(1, 0), 0);

        DUE.rule(x, "do 0; take asked = 1 and told = 0 and thing = 2 and hour = 6 and who = 0 and temper = 3; care 0;");
        DUE.is("names of take", x.lies(5), 15);
        DUE.is("names of take", x.lies(6), 11);

        DUE.rule(x, "do 0; take 0; care asked + 10 * told + thing * hour + 50 * who + 50 * temper;");
        // THING 2: asks 1, tells 3, hour 48: 1 + 30 + 96 is bound to 99; THING 1: asks 2, tells 0: 2 + 48.
        DUE.is("names of care", x.harm(), 99 + 50);
        x.person(47, 1, 9);
        DUE.is("care is for nobody: who, temper 0", x.harm(), 99 + 50);
        DUE.rule(x, "do 0; take 0; care 2 - thing * 2;");
        DUE.is("care is 0 at least", x.harm(), 0);
        DUE.rule(x, "do 0; take 0; care asked * 40 + told;");
        DUE.is("care", x.harm(), 80 + 43);
    }
}
