/** Counts and prints the answers that are not as due; every test ends with end(). */
final class Due {
    private final String test;
    private int asked = 0;
    private int wrong = 0;

    Due(String test) {
        this.test = test;
    }

    void is(String call, long got, long want) {
        asked++;
        if (got != want) {
            wrong++;
            System.out.println(test + ": " + call + " answered " + got + ", due is " + want);
        }
    }

    void holds(String what, boolean it) {
        is(what, it ? 1 : 0, 1);
    }

    void end() {
        System.out.println(test + ": " + (asked - wrong) + " of " + asked + " answers as due");
        if (wrong != 0) {
            System.exit(1);
        }
    }

    /** Feeds a text's bytes, then asks for the text. */
    static int text(KitchenTable x, String bytes) {
        for (int i = 0; i < bytes.length(); i++) {
            x.feed(bytes.charAt(i));
        }
        return x.text();
    }

    /** Makes a sheet of a sort with these numbers. */
    static void sheet(KitchenTable x, int sheet, int sort, int... cells) {
        x.sheet(sheet, sort, cells.length);
        for (int i = 0; i < cells.length; i++) {
            x.cell(sheet, i, cells[i]);
        }
    }

    /** Forces a new text, which must be good. */
    void rule(KitchenTable x, String bytes) {
        int number = text(x, bytes);
        holds("a text: " + bytes, number > 0);
        x.force(number);
    }
}
