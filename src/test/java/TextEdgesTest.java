/** Promises 6 to 8, and what a TEXT is, at their edges: each sentence that names one has a method of its own. */
public final class TextEdgesTest {
    private static final int BAD = KitchenTable.BAD, FULL = KitchenTable.FULL;
    private static final String[] OPENERS = {"(", "-", "not "};
    private static final Due DUE = new Due("TextEdgesTest");

    public static void main(String[] args) {
        aByteIs0To255();
        theTapeHas160BytesAtMost();
        theTapeIsEmptyThen();
        aTextMayFillTheTape();
        eachByteAsTheFirst();
        eachByteBehindAOne();
        eachByteBehindATextsEnd();
        eachByteBehindAWord();
        blanksMayStandBetween();
        tokensAreAsLongAsCanBe();
        aNumberHas4DigitsAtMost();
        aWordIsAKeyOrAName();
        theSizeIfItEndsTooEarly();
        theFirstFaultCounts();
        partsStandInOrder();
        oneComparisonAtMost();
        fiveOpenAtMost();
        whatEndsIsOpenNoMore();
        sixTextsAtMost();
        aFaultTakesNoRoom();
        fullIsAheadOfAll();
        forceIsOfATextThatThereIs();
        DUE.end();
    }

    private static void fault(String bytes, int place) {
        KitchenTable x = new KitchenTable();
        DUE.is("Promise 7: " + bytes, Due.text(x, bytes), -100 - place);
        DUE.is("Promise 7: empty by a fault: " + bytes, x.count(4), 0);
        DUE.is("Promise 7: no text by a fault: " + bytes, x.count(3), 1);
        DUE.is("Promise 7: the rule stays: " + bytes, x.count(5), 0);
    }

    private static void good(String bytes) {
        KitchenTable x = new KitchenTable();
        DUE.is("Promise 7: " + bytes, Due.text(x, bytes), 1);
        DUE.is("Promise 7: empty then: " + bytes, x.count(4), 0);
        DUE.is("Promise 7: a text: " + bytes, x.count(3), 2);
        DUE.is("Promise 7: the rule stays: " + bytes, x.count(5), 0);
    }

    private static String times(String piece, int times) {
        return piece.repeat(times);
    }

    private static void aByteIs0To255() {
        KitchenTable x = new KitchenTable();
        DUE.is("Promise 6: -1", x.feed(-1), BAD);
        DUE.is("Promise 6: 256", x.feed(256), BAD);
        DUE.is("Promise 6: none came", x.count(4), 0);
        DUE.is("Promise 6: 0", x.feed(0), 1);
        DUE.is("Promise 6: 255", x.feed(255), 2);
        DUE.is("Promise 6: how many", x.count(4), 2);
    }

    private static void theTapeHas160BytesAtMost() {
        KitchenTable x = new KitchenTable();
        for (int size = 1; size <= 160; size++) {
            DUE.is("Promise 6: how many it has", x.feed(size < 3 ? 32 : 255), size);
        }
        DUE.is("Promise 6: a byte more", x.feed(32), FULL);
        DUE.is("Promise 6: BAD is ahead", x.feed(-1), BAD);
        DUE.is("Promise 6: BAD is ahead", x.feed(256), BAD);
        DUE.is("Promise 6: 160 stay", x.count(4), 160);
        DUE.is("Promise 6: as they were", x.text(), -102);
        DUE.is("Promise 6: there is room again", x.feed(32), 1);
    }

    private static void theTapeIsEmptyThen() {
        KitchenTable x = new KitchenTable();
        DUE.is("Promise 7: an empty tape", x.text(), -100);
        DUE.is("Promise 7: a text", Due.text(x, "do 1;take 0;care 0;"), 1);
        DUE.is("Promise 7: nothing is left of it", x.text(), -100);
        DUE.is("Promise 7: a fault", Due.text(x, "do 1;take 0;care 0;)"), -119);
        DUE.is("Promise 7: nothing is left of it", x.text(), -100);
        DUE.is("Promise 7: the next number", Due.text(x, "do 1;take 0;care 0;"), 2);
    }

    private static void aTextMayFillTheTape() {
        String text = "do 1;take 0;care 3;";
        good(text + times(" ", 160 - text.length()));
        good(times("\n", 160 - text.length()) + text);
        fault(text + times(" ", 159 - text.length()) + "1", 159);
        fault(times(" ", 161 - text.length()) + text.substring(0, text.length() - 1), 160);
        for (String sign : new String[] {"(", ")", ";", "+", "-", "*", "<", "="}) {
            fault(times(sign, 160), 0);
        }
        KitchenTable x = new KitchenTable();
        x.note(2, 47, 0);
        // -----1 is -1: 18 of these make 1, with ----1 and -1 it is -1, and care 40.
        DUE.rule(x, "do 1;take 0;care 41+1" + times("*-----1", 18) + "*----1*-1" + ";");
        DUE.is("Promise 7: most steps that a tape can have", x.harm(), 40);
        DUE.rule(x, "do 1;take 0;care 20" + times("+1", 69) + ";");
        DUE.is("Promise 7: a long sum", x.harm(), 89);
    }

    /** What begins no token, and what begins a TEXT no more than that. */
    private static void eachByteAsTheFirst() {
        for (int letter = 0; letter < 256; letter++) {
            fault("" + (char) letter, letter == 32 || letter == 10 ? 1 : 0);
        }
    }

    private static void eachByteBehindAOne() {
        for (int letter = 0; letter < 256; letter++) {
            boolean goesOn = letter == 32 || letter == 10 || letter >= '0' && letter <= '9'
                || ";+-*<=".indexOf(letter) >= 0;
            fault("do 1" + (char) letter, goesOn ? 5 : 4);
        }
    }

    private static void eachByteBehindATextsEnd() {
        for (int letter = 0; letter < 256; letter++) {
            String text = "do 1;take 2;care 3;" + (char) letter;
            if (letter == 32 || letter == 10) {
                good(text);
            } else {
                fault(text, 19);
            }
        }
    }

    /** A letter makes another word of it, which is none; all other bytes are of the next token. */
    private static void eachByteBehindAWord() {
        for (int letter = 0; letter < 256; letter++) {
            boolean goesOn = letter == 32 || letter == 10 || ";+-*<=".indexOf(letter) >= 0;
            boolean small = letter >= 'a' && letter <= 'z';
            fault("do asked" + (char) letter, small ? 3 : goesOn ? 9 : 8);
        }
    }

    private static void blanksMayStandBetween() {
        good("do1;take2;care3;");
        good("do\n1\n;\ntake 2 ; care\n\n3 ;\n");
        good("  \n do   1  ; take   2  ;  care  3  ;   ");
        good("do(not(1))or(2)and(3);take-asked;care(told)<(hour);");
        good("do 1or 2;take 1and 2;care not(1);");
        fault("d o 1;", 0);
        fault("do as ked;", 3);
        fault("do 1 2;", 5);
        fault("do\t1;", 2);
        fault("do\r1;", 2);
    }

    private static void tokensAreAsLongAsCanBe() {
        fault("dotake 1;", 0);
        fault("do askedtold;", 3);
        fault("do notnot 1;", 3);
        fault("do notasked;", 3);
        fault("do 1oror 2;", 4);
        fault("do told1;", 7);
        fault("do 1told;", 4);
        fault("do 1 orasked;", 5);
        fault("do 12345;", 3);
        good("do not1;take 1or2and3;care 1and 2or 3;");
        good("do 1<2;take 1=2;care 1--2;");
    }

    private static void aNumberHas4DigitsAtMost() {
        good("do 9999;take 0000;care 1;");
        fault("do 10000;take 0;care 0;", 3);
        fault("do 00001;take 0;care 0;", 3);
        fault("do 1;take 99999;care 0;", 10);
        fault("do 1;take 0;care 1+12345;", 19);
        fault("do 1;take 0;care 0;12345", 19);
        fault("do " + times("1", 157), 3);
        KitchenTable x = new KitchenTable();
        x.person(0, 24, 0);
        DUE.rule(x, "do 9999 = 10 * 1000 - 1 and 0010 = 10; take 0; care 0;");
        DUE.is("Promise 7: 9999, 0010", x.done(0, 0), 2);
    }

    private static void aWordIsAKeyOrAName() {
        for (String name : new String[] {"asked", "told", "hour", "who", "temper", "thing"}) {
            good("do " + name + ";take " + name + ";care " + name + ";");
            fault("do 1;take 1;care 1;" + name, 19);
        }
        for (String key : new String[] {"do", "take", "care", "or", "and"}) {
            fault("do " + key + ";", 3);
            fault("do 1+" + key + ";", 5);
        }
        fault("do not;", 6);
        fault("do 1+not 1;", 5);
        for (String none : new String[] {"a", "z", "ask", "askedz", "az", "tell", "hours", "whom", "tempe", "things", "doo",
            "takes", "car", "nor", "an", "no", "aske", "ssked", "zold"}) {
            fault("do " + none + ";", 3);
            fault("do 1 or " + none + ";", 8);
        }
    }

    private static void theSizeIfItEndsTooEarly() {
        String text = "do 1 + ( asked < 2 ) ; take not 3 ; care - 4 ;";
        for (int size = 0; size < text.length(); size++) {
            String cut = text.substring(0, size);
            String word = cut.substring(cut.lastIndexOf(' ') + 1);
            // Where a word is cut it is none, but for an n, no, .. of what it should be.
            boolean whole = word.isEmpty() || " do take care asked not ".contains(" " + word + " ")
                || !Character.isLetter(word.charAt(0));
            fault(cut, whole ? size : size - word.length());
        }
        good(text);
        fault("do 1;take 2;care 3   ", 21);
        fault(times(" ", 160), 160);
    }

    private static void theFirstFaultCounts() {
        fault("do 1 2; take @", 5);
        fault("do @; 12345", 3);
        fault("do 12345 @", 3);
        fault("do 1 @ 12345", 5);
        fault("do xyz 12345", 3);
        fault("do 1;take 2;care 3; @ 12345", 20);
        fault("do ((((((12345", 8);
        fault("do (((((12345", 8);
        fault("do (((((@(", 8);
        fault("do 1;take ;care", 10);
    }

    private static void partsStandInOrder() {
        fault("take 1;do 1;care 1;", 0);
        fault("care 1;", 0);
        fault("do 1;care 1;", 5);
        fault("do 1;take 1;", 12);
        fault("do 1;take 1;take 1;", 12);
        fault("do 1;take 1;care 1", 18);
        fault("do 1;take 1;care 1;;", 19);
        fault("do 1;take 1;care 1;do 1;", 19);
        fault("do 1 take 1;", 5);
        fault(";do 1;", 0);
        fault("1;", 0);
        fault("do 1);", 4);
        fault("do (1;take 1;", 5);
    }

    private static void oneComparisonAtMost() {
        good("do 1<2;take 1=2;care (1<2)=3;");
        good("do not 1<2 and 3=4 or not 5=6;take 1;care 1;");
        fault("do 1<2<3;", 6);
        fault("do 1<2=3;", 6);
        fault("do 1=2<3;", 6);
        fault("do 1=2=3;", 6);
        fault("do 1<;", 5);
        fault("do <1;", 3);
        fault("do 1<not 2;", 5);
        fault("do 1=not 2;", 5);
        fault("do not 1<2<3;", 10);
        fault("do not 1=2<3;", 10);
        fault("do not not 1<2=3;", 14);
        fault("do 1<=2;", 5);
        fault("do 1==2;", 5);
    }

    /** Five of any sort may be open, six of none; a not may not stand behind a - at all. */
    private static void fiveOpenAtMost() {
        for (int which = 0; which < 729; which++) {
            StringBuilder opened = new StringBuilder("do ");
            StringBuilder closed = new StringBuilder();
            int wrong = -1;
            int rest = which;
            for (int i = 0; i < 6; i++) {
                String opener = OPENERS[rest % 3];
                rest /= 3;
                boolean canStand = i < 5 && !(opener.startsWith("not") && opened.toString().endsWith("-"));
                if (!canStand && wrong < 0) {
                    wrong = opened.length();
                }
                if (i == 5 && wrong == opened.length()) {
                    good(opened + "1" + closed + ";take 0;care 0;");
                }
                opened.append(opener);
                closed.append(opener.equals("(") ? ")" : "");
            }
            fault(opened + "1" + closed + ";take 0;care 0;", wrong);
        }
    }

    private static void whatEndsIsOpenNoMore() {
        good("do (((((1)))))+(((((2)))));take (((((3)))))or(((((4)))));care (((((5)))));");
        good("do -----1+-----2*-----3;take -----4<-----5;care -----6;");
        good("do not not not not not 1 and not not not not not 2 or not not not not not 3;take 0;care 0;");
        good("do ((((-1+-2))))+((((-3))));take 0;care 0;");
        good("do not (((-1))) and not not not not -1;take 0;care 0;");
        good("do (not (not 1) or not (not 2)) and not -(-(1));take 0;care 0;");
        fault("do ((((-1+-(2)))));", 11);
        fault("do not not not not 1<-(2);", 22);
        fault("do not not not not not 1+(2);", 25);
        fault("do not not not not not 1<-2;", 25);
        fault("do not not not not (1 and (2));", 26);
        good("do not not not not (1) and (((((2)))));take 0;care 0;");
        good("do not not not not not 1 or (((((2)))));take 0;care 0;");
        good("do not not not not not 1=2 and -----3;take 0;care 0;");
    }

    private static void sixTextsAtMost() {
        KitchenTable x = new KitchenTable();
        for (int number = 1; number < 6; number++) {
            DUE.is("Promise 7: its number", Due.text(x, "do " + number + ";take 0;care 0;"), number);
            DUE.is("Promise 7: how many", x.count(3), number + 1);
        }
        DUE.is("Promise 7: a seventh", Due.text(x, "do 7;take 0;care 0;"), FULL);
        DUE.is("Promise 7: six", x.count(3), 6);
        DUE.is("Promise 7: the tape stays", x.count(4), 19);
        DUE.is("Promise 8: the last", x.force(5), 0);
        DUE.is("Promise 8: there is no seventh", x.force(6), BAD);
        DUE.is("Promise 8: refused, the last stays", x.count(5), 5);
    }

    private static void aFaultTakesNoRoom() {
        KitchenTable x = new KitchenTable();
        x.person(0, 24, 0);
        for (int i = 0; i < 10; i++) {
            DUE.is("Promise 7: a fault", Due.text(x, "do 1;take 1;care"), -116);
        }
        DUE.is("Promise 7: one text", x.count(3), 1);
        DUE.is("Promise 8: none such", x.force(1), BAD);
        DUE.is("Promise 7: the first that is one", Due.text(x, "do thing = 3;take 0;care 0;"), 1);
        x.force(1);
        DUE.is("Promise 7: nothing of a fault's is in it", x.done(3, 0), 2);
        DUE.is("Promise 7: nothing of a fault's is in it", x.done(0, 0), 0);

        x = new KitchenTable();
        x.person(0, 24, 0);
        for (int i = 0; i < 2; i++) {
            DUE.is("Promise 7: a long fault", Due.text(x, "do " + times("-----1*", 21)), -250);
        }
        DUE.is("Promise 7: the first that is one", Due.text(x, "do thing = 3;take 0;care 0;"), 1);
        x.force(1);
        DUE.is("Promise 7: nothing of long ones is in it", x.done(3, 0), 2);
        DUE.is("Promise 7: nothing of long ones is in it", x.done(0, 0), 0);
    }

    private static void fullIsAheadOfAll() {
        KitchenTable x = new KitchenTable();
        for (int number = 1; number < 6; number++) {
            Due.text(x, "do 1;take 0;care 0;");
        }
        DUE.is("Promise 7: FULL ahead of an empty tape's fault", x.text(), FULL);
        DUE.is("Promise 7: FULL ahead of a fault", Due.text(x, "@"), FULL);
        DUE.is("Promise 7: the tape stays", x.count(4), 1);
        DUE.is("Promise 6: behind what stayed", x.feed('d'), 2);
        for (int size = 3; size <= 160; size++) {
            DUE.is("Promise 6: behind what stayed", x.feed(' '), size);
        }
        DUE.is("Promise 7: FULL of a full tape", x.text(), FULL);
        DUE.is("Promise 6: FULL of a full tape", x.feed(' '), FULL);
        DUE.is("Promise 7: the tape stays", x.count(4), 160);
    }

    private static void forceIsOfATextThatThereIs() {
        KitchenTable x = new KitchenTable();
        DUE.is("Promise 8: -1", x.force(-1), BAD);
        DUE.is("Promise 8: none yet", x.force(1), BAD);
        DUE.is("Promise 8: TEXT 0", x.force(0), 0);
        DUE.is("Promise 7: a text", Due.text(x, "do 1;take 0;care 0;"), 1);
        DUE.is("Promise 8: it does not rule of itself", x.count(5), 0);
        DUE.is("Promise 8: the last", x.force(1), 0);
        DUE.is("Promise 8: behind the last", x.force(2), BAD);
        DUE.is("Promise 8: refused, it rules", x.count(5), 1);
        DUE.is("Promise 8: itself", x.force(1), 1);
        DUE.is("Promise 8: TEXT 0", x.force(0), 1);
        DUE.is("Promise 8: TEXT 0", x.count(5), 0);
    }
}
