import java.util.Random;

/** Runs of calls by chance (always the same ones), on the class and on the plain model: all answers are alike. */
public final class ModelTest {
    /** An object has at most 512 calls: a text or a whole sheet may come behind the last of MOST_USED. */
    private static final int RUNS = 2000, CALLS = 200, MOST_USED = 260, NOTES_FOR_ORDERS = 7;
    private static final int[] EDGES = {-2, -1, 0, 1, 2, 3, 4, 5, 6, 9, 10, 11, 12, 13, 23, 24, 25, 39, 40, 41, 47, 48,
        129, 130, 160, 255, 256, 9999, 10000, Integer.MAX_VALUE, Integer.MAX_VALUE - 1, Integer.MIN_VALUE};
    private static final String[] PIECES = {"asked", "told", "hour", "who", "temper", "thing", "0", "1", "2", "9", "47",
        "9999", "+", "-", "*", "<", "=", "(", ")", "not ", " and ", " or ", " ", "\n", ";", "do ", "take ", "care ",
        "12345", "x", "@", "--", "((", "))", "not not ", "told<asked"};

    private static final String[] TOKENS = {"3", "hour", "+", "-", "*", "<", "=", "(", ")", "not", "and", "or", ";", "do"};

    private static final Due DUE = new Due("ModelTest");
    private static final Random CHANCE = new Random(2026);

    private static KitchenTable x;
    private static PlainModel m;
    /** How many calls the object has had, about. */
    private static int used;

    public static void main(String[] args) {
        for (int run = 0; run < RUNS; run++) {
            x = new KitchenTable();
            m = new PlainModel();
            used = 0;
            furnish();
            for (int i = 0; i < CALLS && used < MOST_USED; i++) {
                used++;
                call(CHANCE.nextInt(32), run);
            }
        }
        texts();
        allShortTexts("", 4);
        DUE.end();
    }

    private static int upTo(int most) {
        return CHANCE.nextInt(most + 1);
    }

    /** Mostly a number from 0 to that, now and then an edge. */
    private static int about(int most) {
        return CHANCE.nextInt(12) == 0 ? EDGES[CHANCE.nextInt(EDGES.length)] : upTo(most);
    }

    private static void furnish() {
        int people = upTo(5), notes = upTo(10);
        for (int i = 0; i < people; i++) {
            int first = upTo(30), every = 1 + upTo(23), reads = upTo(i % 2 == 0 ? 59 : 129);
            DUE.is("person", x.person(first, every, reads), m.person(first, every, reads));
        }
        for (int i = 0; i < notes; i++) {
            int kind = upTo(5), hour = upTo(40), what = upTo(39);
            DUE.is("note", x.note(kind, hour, what), m.note(kind, hour, what));
        }
        if (upTo(2) > 0) {
            feed("do " + e(3) + ";take " + e(2) + ";care " + e(3) + ";");
            int number = m.text();
            DUE.is("text", x.text(), number);
            DUE.is("force", x.force(number), m.force(number));
        }
    }

    private static void feed(String bytes) {
        used += bytes.length();
        for (int i = 0; i < bytes.length(); i++) {
            DUE.is("feed", x.feed(bytes.charAt(i)), m.feed(bytes.charAt(i)));
        }
    }

    /** A good E of some depth. */
    private static String e(int depth) {
        if (depth == 0 || upTo(3) == 0) {
            return PIECES[upTo(10)];
        }
        String a = e(depth - 1), b = e(depth - 1);
        switch (upTo(8)) {
            case 0: return a + "+" + b;
            case 1: return a + " - " + b;
            case 2: return a + "*" + b;
            case 3: return "(" + a + "<" + b + ")";
            case 4: return "(" + a + "=" + b + ")";
            case 5: return "(" + a + " and " + b + ")";
            case 6: return "(" + a + " or " + b + ")";
            case 7: return "(not " + a + ")";
            default: return "-" + a;
        }
    }

    /** A text with a piece changed, put in, or left out, by chance. */
    private static String scrambled() {
        StringBuilder all = new StringBuilder("do " + e(2 + upTo(2)) + ";take " + e(2) + ";care " + e(2) + ";");
        int changes = upTo(2);
        for (int i = 0; i < changes; i++) {
            int at = upTo(all.length() - 1);
            switch (upTo(2)) {
                case 0: all.insert(at, PIECES[upTo(PIECES.length - 1)]); break;
                case 1: all.deleteCharAt(at); break;
                default: all.setCharAt(at, (char) upTo(255)); break;
            }
        }
        return all.toString();
    }

    private static void texts() {
        for (int i = 0; i < 4000; i++) {
            x = new KitchenTable();
            m = new PlainModel();
            String bytes = scrambled();
            feed(bytes);
            int due = m.text();
            DUE.is("text " + bytes, x.text(), due);
            if (due > 0) {
                x.force(due);
                m.force(due);
                int reads = upTo(129), every = 1 + upTo(23);
                x.person(3, every, reads);
                m.person(3, every, reads);
                for (int k = 0; k < 3; k++) {
                    int kind = upTo(5), what = upTo(39);
                    x.note(kind, k, what);
                    m.note(kind, k, what);
                }
                for (int thing = 0; thing < 4; thing++) {
                    DUE.is("done by " + bytes, x.done(thing, -1), m.done(thing, -1));
                }
                DUE.is("lies by " + bytes, x.lies(5), m.lies(5));
                DUE.is("harm by " + bytes, x.harm(), m.harm());
            }
        }
    }

    /** Each row of so many tokens behind a do: whether it is an E, else where its fault is; and what it is worth. */
    private static void allShortTexts(String e, int more) {
        if (!e.isEmpty()) {
            shortText(e);
        }
        for (int i = 0; i < TOKENS.length && more > 0; i++) {
            allShortTexts(e + " " + TOKENS[i], more - 1);
        }
    }

    private static void shortText(String e) {
        x = new KitchenTable();
        m = new PlainModel();
        feed("do" + e + ";take 0;care" + e + ";");
        int due = m.text();
        DUE.is("text of" + e, x.text(), due);
        if (due > 0) {
            x.force(due);
            m.force(due);
            x.person(0, 7, 3);
            m.person(0, 7, 3);
            x.note(2, 0, 20);
            m.note(2, 0, 20);
            DUE.is("done by" + e, x.done(1, -1), m.done(1, -1));
            DUE.is("harm by" + e, x.harm(), m.harm());
        }
    }

    private static void call(int which, int run) {
        int p = about(4), n = about(9), h = about(47), t = about(3), w = about(1), s = about(3);
        String at = "run " + run + ": ";
        switch (which) {
            case 0: {
                int every = about(24), reads = about(129);
                DUE.is(at + "person", x.person(h, every, reads), m.person(h, every, reads));
                break;
            }
            case 1: {
                int kind = about(5), what = about(39);
                if (m.notes.size() < 10 || upTo(5) == 0) {
                    DUE.is(at + "note", x.note(kind, h, what), m.note(kind, h, what));
                }
                break;
            }
            case 2: case 3: {
                int what = about(4), of = what == 4 ? n : p, v = about(what == 1 ? 24 : what == 2 ? 12 : what == 3 ? 9 : 47);
                DUE.is(at + "set " + what, x.set(what, of, v), m.set(what, of, v));
                break;
            }
            case 4: {
                int what = about(7);
                DUE.is(at + "told " + what, x.told(n, what), m.told(n, what));
                break;
            }
            case 5: {
                int letter = about(255);
                if (upTo(9) == 0) DUE.is(at + "feed", x.feed(letter), m.feed(letter));
                break;
            }
            case 6: {
                if (upTo(9) == 0) {
                    feed(scrambled());
                    DUE.is(at + "text", x.text(), m.text());
                }
                break;
            }
            case 7: DUE.is(at + "force", x.force(s), m.force(s)); break;
            case 8: DUE.is(at + "lies", x.lies(h), m.lies(h)); break;
            case 9: DUE.is(at + "top", x.top(h), m.top(h)); break;
            case 10: DUE.is(at + "read", x.read(p, n), m.read(p, n)); break;
            case 11: DUE.is(at + "knew", x.knew(p, h), m.knew(p, h)); break;
            case 12: DUE.is(at + "done", x.done(t, p), m.done(t, p)); break;
            case 13: DUE.is(at + "done by all", x.done(t, -1), m.done(t, -1)); break;
            case 14: DUE.is(at + "when", x.when(t, w), m.when(t, w)); break;
            case 15: DUE.is(at + "things", x.things(w), m.things(w)); break;
            case 16: DUE.is(at + "harm", x.harm(), m.harm()); break;
            case 17: DUE.is(at + "helps", x.helps(w), m.helps(w)); break;
            case 18: if (upTo(3) == 0) DUE.is(at + "once", x.once(n), m.once(n)); break;
            case 19: {
                int most = about(30);
                DUE.is(at + "whose", x.whose(p, most), m.whose(p, most));
                break;
            }
            case 20: {
                int behind = about(9);
                if (upTo(2) == 0) DUE.is(at + "mark", x.mark(n, behind), m.mark(n, behind));
                break;
            }
            case 21: if (few()) DUE.is(at + "orders", x.orders(), m.orders()); break;
            case 22: {
                int behind = about(9);
                if (few()) DUE.is(at + "odds", x.odds(n, behind, w), m.odds(n, behind, w));
                break;
            }
            case 23: if (few()) DUE.is(at + "place", x.place(n, w), m.place(n, w)); break;
            case 24: {
                came(at, s);
                break;
            }
            case 25: if (upTo(3) == 0) DUE.is(at + "image", x.image(), m.image()); break;
            case 26: if (upTo(2) == 0) DUE.is(at + "back", x.back(), m.back()); break;
            case 27: {
                int what = about(5);
                DUE.is(at + "count", x.count(what), m.count(what));
                break;
            }
            case 28: {
                int sort = about(3) - 1, size = about(40);
                DUE.is(at + "sheet", x.sheet(s, sort, size), m.sheet(s, sort, size));
                break;
            }
            case 29: {
                int i = about(12), v = upTo(3) == 0 ? CHANCE.nextInt() : about(40);
                DUE.is(at + "cell", x.cell(s, i, v), m.cell(s, i, v));
                break;
            }
            case 30: {
                int other = about(3), i = about(20), j = about(20), size = about(20);
                DUE.is(at + "copy", x.copy(s, i, other, j, size), m.copy(s, i, other, j, size));
                break;
            }
            default: {
                int sort = about(2), from = about(12), many = about(3), k = about(5);
                if (upTo(1) == 0) DUE.is(at + "notes", x.notes(s, sort, from, many), m.notes(s, sort, from, many));
                DUE.is(at + "taken", x.taken(n, k), m.taken(n, k));
                break;
            }
        }
    }

    private static boolean few() {
        return m.notes.size() <= NOTES_FOR_ORDERS;
    }

    /** Also with a sheet that tells nearly what is so. */
    private static void came(String at, int s) {
        DUE.is(at + "came", x.came(s), m.came(s));
        int size = 1 + upTo(39), sort = upTo(2);
        x.sheet(0, sort, size);
        m.sheet(0, sort, size);
        used += size;
        for (int hour = 0; hour < size; hour++) {
            int bits = 0;
            while (m.came(0) == hour && bits < 32) {
                bits++;
                m.cell(0, hour, bits);
            }
            x.cell(0, hour, bits);
        }
        int i = upTo(size), v = upTo(31);
        DUE.is(at + "cell", x.cell(0, i, v), m.cell(0, i, v));
        DUE.is(at + "came", x.came(0), m.came(0));
    }
}
