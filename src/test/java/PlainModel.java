import java.util.ArrayList;
import java.util.Arrays;
import java.util.List;
import java.util.function.ToIntFunction;
import java.util.regex.Matcher;
import java.util.regex.Pattern;

/** The document once more, in the plainest other way: each answer is made from nothing, orders by trying them all. */
final class PlainModel {
    static final int NONE = -1, BAD = -2, STATE = -3, FULL = -4;
    static final long NO = -4611686018427387904L;

    static final class Person {
        int first, every, reads, temper;
    }

    static class Note {
        int hour, thing, number;
        int high() { return 0; }
        int lasts() { return 12; }
        int asks() { return 0; }
        int tells() { return 0; }
    }

    static class Telling extends Note {
        @Override int lasts() { return super.lasts() + number; }
        @Override int tells() { return 1; }
    }

    static class Asking extends Note {
        @Override int high() { return super.high() + 1; }
        @Override int lasts() { return 2 * super.lasts(); }
        @Override int asks() { return 1; }
    }

    static class Answering extends Telling {
        @Override int high() { return super.high() + number / 3; }
        @Override int lasts() { return super.lasts() / 2; }
        @Override int tells() { return 2 * super.tells(); }
    }

    static class Urgent extends Asking {
        @Override int high() { return 2 * super.high() + 2; }
        @Override int lasts() { return super.lasts() + number; }
        @Override int asks() { return super.asks() + 1; }
    }

    static class Crossed extends Answering {
        @Override int high() { return super.high() - 2; }
        @Override int asks() { return super.asks() - 1; }
    }

    static final List<Class<? extends Note>> KINDS =
        List.of(Note.class, Telling.class, Asking.class, Answering.class, Urgent.class, Crossed.class);

    static final class Fault extends Exception {
        private static final long serialVersionUID = 1L;
        final int place;
        Fault(int place) { this.place = place; }
    }

    /** facts: asked told hour who temper thing. */
    static final class Text {
        final List<ToIntFunction<int[]>> parts = new ArrayList<>();
    }

    static final class TextReader {
        private static final Pattern TOKEN = Pattern.compile("[ \n]*(?:([a-z]+)|([0-9]+)|([();+\\-*<=])|$)", Pattern.DOTALL);
        private static final List<String> NAMES = List.of("asked", "told", "hour", "who", "temper", "thing");
        private static final List<String> KEYS = List.of("do", "take", "care", "or", "and", "not");
        private final String all;
        private int next = 0;
        private int start = 0;
        private String token = "";

        TextReader(String all) { this.all = all; }

        Text whole() throws Fault {
            Text text = new Text();
            step();
            for (String key : List.of("do", "take", "care")) {
                want(key);
                text.parts.add(either(0));
                want(";");
            }
            if (!token.isEmpty()) {
                throw new Fault(start);
            }
            return text;
        }

        private void step() throws Fault {
            while (next < all.length() && (all.charAt(next) == ' ' || all.charAt(next) == '\n')) {
                next++;
            }
            start = next;
            if (next == all.length()) {
                token = "";
                return;
            }
            Matcher m = TOKEN.matcher(all).region(next, all.length());
            if (!m.lookingAt() || m.end() == next) {
                throw new Fault(start);
            }
            token = m.group();
            next = m.end();
            boolean unknown = m.group(1) != null && !NAMES.contains(token) && !KEYS.contains(token);
            if (unknown || m.group(2) != null && token.length() > 4) {
                throw new Fault(start);
            }
        }

        private void want(String wanted) throws Fault {
            if (!token.equals(wanted)) {
                throw new Fault(start);
            }
            step();
        }

        private int deeper(int open) throws Fault {
            if (open == 5) {
                throw new Fault(start);
            }
            step();
            return open + 1;
        }

        private ToIntFunction<int[]> either(int open) throws Fault {
            ToIntFunction<int[]> all = both(open);
            while (token.equals("or")) {
                step();
                ToIntFunction<int[]> a = all, b = both(open);
                all = f -> a.applyAsInt(f) != 0 | b.applyAsInt(f) != 0 ? 1 : 0;
            }
            return all;
        }

        private ToIntFunction<int[]> both(int open) throws Fault {
            ToIntFunction<int[]> all = nay(open);
            while (token.equals("and")) {
                step();
                ToIntFunction<int[]> a = all, b = nay(open);
                all = f -> a.applyAsInt(f) != 0 & b.applyAsInt(f) != 0 ? 1 : 0;
            }
            return all;
        }

        private ToIntFunction<int[]> nay(int open) throws Fault {
            if (token.equals("not")) {
                ToIntFunction<int[]> a = nay(deeper(open));
                return f -> a.applyAsInt(f) == 0 ? 1 : 0;
            }
            ToIntFunction<int[]> a = sum(open);
            if (token.equals("<")) {
                step();
                ToIntFunction<int[]> b = sum(open);
                return f -> a.applyAsInt(f) < b.applyAsInt(f) ? 1 : 0;
            }
            if (token.equals("=")) {
                step();
                ToIntFunction<int[]> b = sum(open);
                return f -> a.applyAsInt(f) == b.applyAsInt(f) ? 1 : 0;
            }
            return a;
        }

        private ToIntFunction<int[]> sum(int open) throws Fault {
            ToIntFunction<int[]> all = term(open);
            while (token.equals("+") || token.equals("-")) {
                int by = token.equals("+") ? 1 : -1;
                step();
                ToIntFunction<int[]> a = all, b = term(open);
                all = f -> a.applyAsInt(f) + by * b.applyAsInt(f);
            }
            return all;
        }

        private ToIntFunction<int[]> term(int open) throws Fault {
            ToIntFunction<int[]> all = single(open);
            while (token.equals("*")) {
                step();
                ToIntFunction<int[]> a = all, b = single(open);
                all = f -> a.applyAsInt(f) * b.applyAsInt(f);
            }
            return all;
        }

        private ToIntFunction<int[]> single(int open) throws Fault {
            if (token.equals("-")) {
                ToIntFunction<int[]> a = single(deeper(open));
                return f -> -a.applyAsInt(f);
            }
            if (token.equals("(")) {
                ToIntFunction<int[]> a = either(deeper(open));
                want(")");
                return a;
            }
            int name = NAMES.indexOf(token);
            boolean number = !token.isEmpty() && Character.isDigit(token.charAt(0));
            if (name < 0 && !number) {
                throw new Fault(start);
            }
            int value = number ? Integer.parseInt(token) : 0;
            step();
            return number ? f -> value : f -> f[name];
        }
    }

    /** All that came to pass. */
    static final class Story {
        final int[] lies = new int[48];
        final int[][] knew = new int[5][48];
        final int[][] read = new int[5][10];
        final int[][] done = new int[4][5];
        final List<List<int[]>> times = List.of(new ArrayList<>(), new ArrayList<>(), new ArrayList<>(), new ArrayList<>());
    }

    static final class Kept {
        List<int[]> people = new ArrayList<>();
        List<Integer> hours = new ArrayList<>();
        int marks, rule;
    }

    final List<Person> people = new ArrayList<>();
    final List<Note> notes = new ArrayList<>();
    final List<Text> texts = new ArrayList<>();
    final List<int[]> marks = new ArrayList<>();
    final Object[] sheets = new Object[4];
    StringBuilder tape = new StringBuilder();
    int rule = 0;
    Kept kept = null;

    PlainModel() {
        tape.append("do told < asked ; take 0 ; care 1 + thing ;");
        text();
    }

    int person(int first, int every, int reads) {
        if (first < 0 || first > 47 || every < 1 || every > 24 || reads < 0 || reads > 129) return BAD;
        if (people.size() == 5) return FULL;
        Person p = new Person();
        p.first = first;
        p.every = every;
        p.reads = reads / 10;
        p.temper = reads % 10;
        people.add(p);
        return people.size() - 1;
    }

    int note(int kind, int hour, int what) {
        if (kind < 0 || kind > 5 || hour < 0 || hour > 47 || what < 0 || what > 39) return BAD;
        if (notes.size() == 10) return FULL;
        Note n;
        switch (kind) {
            case 0: n = new Note(); break;
            case 1: n = new Telling(); break;
            case 2: n = new Asking(); break;
            case 3: n = new Answering(); break;
            case 4: n = new Urgent(); break;
            default: n = new Crossed(); break;
        }
        n.hour = hour;
        n.thing = what / 10;
        n.number = what % 10;
        notes.add(n);
        return notes.size() - 1;
    }

    private boolean noPerson(int p) { return p < 0 || p >= people.size(); }
    private boolean noNote(int n) { return n < 0 || n >= notes.size(); }

    int set(int what, int of, int v) {
        int was;
        switch (what) {
            case 0:
                if (noPerson(of) || v < 0 || v > 47) return BAD;
                was = people.get(of).first;
                people.get(of).first = v;
                return was;
            case 1:
                if (noPerson(of) || v < 1 || v > 24) return BAD;
                was = people.get(of).every;
                people.get(of).every = v;
                return was;
            case 2:
                if (noPerson(of) || v < 0 || v > 12) return BAD;
                was = people.get(of).reads;
                people.get(of).reads = v;
                return was;
            case 3:
                if (noPerson(of) || v < 0 || v > 9) return BAD;
                was = people.get(of).temper;
                people.get(of).temper = v;
                return was;
            case 4:
                if (noNote(of) || v < 0 || v > 47) return BAD;
                was = notes.get(of).hour;
                notes.get(of).hour = v;
                return was;
            default:
                return BAD;
        }
    }

    private static int high(Note n) { return Math.max(0, n.high()); }
    private static int asks(Note n) { return Math.max(0, n.asks()); }

    int told(int note, int what) {
        if (noNote(note)) return BAD;
        Note n = notes.get(note);
        switch (what) {
            case 0: return KINDS.indexOf(n.getClass());
            case 1: return n.hour;
            case 2: return n.thing;
            case 3: return n.number;
            case 4: return high(n);
            case 5: return Math.max(0, n.lasts());
            case 6: return asks(n);
            case 7: return Math.max(0, n.tells());
            default: return BAD;
        }
    }

    int feed(int letter) {
        if (letter < 0 || letter > 255) return BAD;
        if (tape.length() == 160) return FULL;
        tape.append((char) letter);
        return tape.length();
    }

    int text() {
        if (texts.size() == 6) return FULL;
        String all = tape.toString();
        tape = new StringBuilder();
        try {
            texts.add(new TextReader(all).whole());
            return texts.size() - 1;
        } catch (Fault f) {
            return -100 - f.place;
        }
    }

    int force(int text) {
        if (text < 0 || text >= texts.size()) return BAD;
        int was = rule;
        rule = text;
        return was;
    }

    private boolean above(int a, int b) {
        Note x = notes.get(a), y = notes.get(b);
        return high(x) > high(y) || high(x) == high(y) && (x.hour > y.hour || x.hour == y.hour && a > b);
    }

    private List<Integer> lying(int hour, boolean[] gone) {
        List<Integer> there = new ArrayList<>();
        for (int i = 0; i < notes.size(); i++) {
            Note n = notes.get(i);
            if (!gone[i] && hour >= n.hour + 1 && hour <= n.hour + n.lasts()) there.add(i);
        }
        there.sort((a, b) -> a.equals(b) ? 0 : above(a, b) ? -1 : 1);
        return there;
    }

    private int say(int part, int... facts) {
        return texts.get(rule).parts.get(part).applyAsInt(facts);
    }

    private Story story() {
        Story s = new Story();
        for (int[] r : s.read) Arrays.fill(r, NONE);
        boolean[] gone = new boolean[10];
        for (int hour = 0; hour < 48; hour++) {
            for (int who = 0; who < people.size(); who++) {
                Person p = people.get(who);
                boolean comes = false;
                for (int h = p.first; h < 48; h += p.every) comes |= h == hour;
                if (!comes) continue;
                List<Integer> there = lying(hour, gone);
                List<Integer> now = there.subList(0, Math.min(p.reads, there.size()));
                for (int n : now) if (s.read[who][n] == NONE) s.read[who][n] = hour;
                for (int thing = 0; thing < 4; thing++) {
                    int asked = 0, told = 0;
                    for (int n = 0; n < notes.size(); n++) {
                        if (s.read[who][n] != NONE && notes.get(n).thing == thing) {
                            asked += asks(notes.get(n));
                            told += notes.get(n).tells();
                        }
                    }
                    if (say(0, asked, told, hour, who, p.temper, thing) != 0) {
                        s.done[thing][who]++;
                        s.times.get(thing).add(new int[] {hour, who});
                    }
                }
                for (int n : now) {
                    Note o = notes.get(n);
                    if (say(1, asks(o), o.tells(), hour, who, p.temper, o.thing) != 0) gone[n] = true;
                }
            }
            for (int n : lying(hour, gone)) s.lies[hour] |= 1 << n;
            for (int who = 0; who < people.size(); who++) {
                for (int n = 0; n < notes.size(); n++) if (s.read[who][n] != NONE) s.knew[who][hour] |= 1 << n;
            }
        }
        return s;
    }

    int lies(int hour) { return hour < 0 || hour > 47 ? BAD : story().lies[hour]; }

    int top(int hour) {
        if (hour < 0 || hour > 47) return BAD;
        int bits = story().lies[hour];
        for (int a = 0; a < notes.size(); a++) {
            boolean most = (bits & 1 << a) != 0;
            for (int b = 0; b < notes.size(); b++) most &= a == b || (bits & 1 << b) == 0 || above(a, b);
            if (most) return a;
        }
        return NONE;
    }

    int read(int person, int note) { return noPerson(person) || noNote(note) ? BAD : story().read[person][note]; }

    int knew(int person, int hour) {
        return noPerson(person) || hour < 0 || hour > 47 ? BAD : story().knew[person][hour];
    }

    int done(int thing, int person) {
        if (thing < 0 || thing > 3 || person != NONE && noPerson(person)) return BAD;
        Story s = story();
        return person == NONE ? s.times.get(thing).size() : s.done[thing][person];
    }

    int when(int thing, int what) {
        if (thing < 0 || thing > 3 || what < 0 || what > 1) return BAD;
        List<int[]> times = story().times.get(thing);
        return times.isEmpty() ? NONE : times.get(0)[what];
    }

    private boolean asked(int thing) { return notes.stream().anyMatch(n -> n.thing == thing && asks(n) > 0); }

    int things(int what) {
        if (what < 0 || what > 1) return BAD;
        Story s = story();
        int bits = 0;
        for (int t = 0; t < 4; t++) {
            int times = s.times.get(t).size();
            if (what == 0 ? asked(t) && times == 0 : times > 1) bits += 1 << t;
        }
        return bits;
    }

    int harm() {
        Story s = story();
        int harm = 0;
        for (int t = 0; t < 4; t++) {
            int thing = t;
            int times = s.times.get(t).size();
            if (times > 1) harm += times - 1;
            if (times == 0 && asked(t)) {
                int asked = notes.stream().filter(n -> n.thing == thing).mapToInt(PlainModel::asks).sum();
                int told = notes.stream().filter(n -> n.thing == thing).mapToInt(Note::tells).sum();
                int care = say(2, asked, told, 48, 0, 0, t);
                harm += care < 0 ? 0 : care > 99 ? 99 : care;
            }
        }
        return harm;
    }

    private int harmWith(int person, int reads) {
        int was = set(2, person, reads);
        int harm = harm();
        set(2, person, was);
        return harm;
    }

    int helps(int what) {
        if (what < 0 || what > 1) return BAD;
        int best = NONE, least = NONE;
        for (int p = people.size() - 1; p >= 0; p--) {
            int harm = harmWith(p, 12);
            if (best == NONE || harm <= least) {
                best = p;
                least = harm;
            }
        }
        return what == 0 ? best : least;
    }

    int once(int note) {
        if (noNote(note)) return BAD;
        int was = notes.get(note).hour;
        int latest = NONE;
        for (int hour = 0; hour < 48; hour++) {
            notes.get(note).hour = hour;
            if (story().times.get(notes.get(note).thing).size() == 1) latest = hour;
        }
        notes.get(note).hour = was;
        return latest;
    }

    int whose(int person, int most) {
        if (noPerson(person) || most < 0 || most > 9999) return BAD;
        int least = NONE;
        for (int reads = 12; reads >= 0; reads--) if (harmWith(person, reads) <= most) least = reads;
        return least;
    }

    int mark(int ahead, int behind) {
        if (noNote(ahead) || noNote(behind) || ahead == behind) return BAD;
        if (marks.size() == 20) return FULL;
        marks.add(new int[] {ahead, behind});
        return marks.size();
    }

    /** All orders as rows of places, by note. */
    private List<int[]> allOrders() {
        List<int[]> all = new ArrayList<>();
        extend(new int[notes.size()], 0, 0, all);
        return all;
    }

    private void extend(int[] places, int note, int used, List<int[]> all) {
        if (note == notes.size()) {
            for (int[] m : marks) if (places[m[0]] > places[m[1]]) return;
            all.add(places.clone());
            return;
        }
        for (int place = 0; place < notes.size(); place++) {
            if ((used >> place & 1) != 0) continue;
            places[note] = place;
            extend(places, note + 1, used | 1 << place, all);
        }
    }

    long orders() { return allOrders().size(); }

    long odds(int ahead, int behind, int part) {
        if (noNote(ahead) || noNote(behind) || ahead == behind || part < 0 || part > 1) return NO;
        List<int[]> all = allOrders();
        long such = all.stream().filter(o -> o[ahead] < o[behind]).count();
        if (such == 0) return part == 0 ? 0 : 1;
        long by = 1;
        for (long d = 1; d <= such; d++) if (such % d == 0 && all.size() % d == 0) by = d;
        return part == 0 ? such / by : all.size() / by;
    }

    int place(int note, int what) {
        if (noNote(note) || what < 0 || what > 1) return BAD;
        List<int[]> all = allOrders();
        if (all.isEmpty()) return NONE;
        return what == 0 ? all.stream().mapToInt(o -> o[note]).min().getAsInt()
            : all.stream().mapToInt(o -> o[note]).max().getAsInt();
    }

    private static int size(Object row) {
        return row instanceof byte[] ? ((byte[]) row).length
            : row instanceof short[] ? ((short[]) row).length : ((int[]) row).length;
    }

    private static int item(Object row, int i) {
        return row instanceof byte[] ? ((byte[]) row)[i] : row instanceof short[] ? ((short[]) row)[i] : ((int[]) row)[i];
    }

    private static boolean noSheet(int sheet) { return sheet < 0 || sheet > 3; }

    int came(int sheet) {
        if (noSheet(sheet)) return BAD;
        Object row = sheets[sheet];
        if (row == null) return -11;
        if (size(row) == 0) return BAD;
        for (int hour = 0; hour < size(row); hour++) {
            int bits = 0;
            for (int p = 0; p < people.size(); p++) {
                for (int h = people.get(p).first; h < 48; h += people.get(p).every) if (h == hour) bits |= 1 << p;
            }
            if (item(row, hour) != bits) return hour;
        }
        return NONE;
    }

    int image() {
        kept = new Kept();
        for (Person p : people) kept.people.add(new int[] {p.first, p.every, p.reads, p.temper});
        for (Note n : notes) kept.hours.add(n.hour);
        kept.marks = marks.size();
        kept.rule = rule;
        return marks.size();
    }

    int back() {
        if (kept == null) return STATE;
        for (int i = 0; i < kept.people.size(); i++) {
            for (int what = 0; what < 4; what++) set(what, i, kept.people.get(i)[what]);
        }
        for (int i = 0; i < kept.hours.size(); i++) notes.get(i).hour = kept.hours.get(i);
        while (marks.size() > kept.marks) marks.remove(marks.size() - 1);
        rule = kept.rule;
        return marks.size();
    }

    int count(int what) {
        int[] counts = {people.size(), notes.size(), marks.size(), texts.size(), tape.length(), rule};
        return what < 0 || what > 5 ? BAD : counts[what];
    }

    int sheet(int sheet, int sort, int n) {
        if (noSheet(sheet) || sort < -1 || sort > 2) return BAD;
        if (sort == -1) {
            sheets[sheet] = null;
            return 1;
        }
        if (n > 40) return BAD;
        if (n < 0) return -14;
        sheets[sheet] = sort == 0 ? new byte[n] : sort == 1 ? new short[n] : (Object) new int[n];
        return 1;
    }

    int cell(int sheet, int i, int v) {
        if (noSheet(sheet)) return BAD;
        Object row = sheets[sheet];
        if (row == null) return -11;
        if (i < 0 || i >= size(row)) return -12;
        if (row instanceof byte[]) ((byte[]) row)[i] = (byte) v;
        else if (row instanceof short[]) ((short[]) row)[i] = (short) v;
        else ((int[]) row)[i] = v;
        return 1;
    }

    int copy(int sheet, int i, int other, int j, int n) {
        if (noSheet(sheet) || noSheet(other)) return BAD;
        try {
            System.arraycopy(sheets[sheet], i, sheets[other], j, n);
            return n;
        } catch (NullPointerException e) {
            return -11;
        } catch (ArrayStoreException e) {
            return -13;
        } catch (IndexOutOfBoundsException e) {
            return -12;
        }
    }

    int notes(int sheet, int sort, int from, int n) {
        if (noSheet(sheet) || sort < 0 || sort > 2 || n < 0 || n > 10) return BAD;
        Object row = sheets[sheet];
        try {
            Object taken = sort == 0 ? (byte[]) row : sort == 1 ? (short[]) row : (Object) (int[]) row;
            if (taken == null) return -11;
            int came = 0;
            for (int k = 0; k < n; k++) {
                int at = from + 3 * k;
                if (note(item(row, at), item(row, at + 1), item(row, at + 2)) >= 0) came++;
            }
            return came;
        } catch (ClassCastException e) {
            return -13;
        } catch (IndexOutOfBoundsException e) {
            return -12;
        }
    }

    int taken(int note, int k) {
        if (k < 0 || k > 5) return BAD;
        if (noNote(note)) return -11;
        return KINDS.get(k).isInstance(notes.get(note)) ? notes.get(note).number : -13;
    }
}
