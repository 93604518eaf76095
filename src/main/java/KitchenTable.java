import java.util.Arrays;

/** Notes on a kitchen table, and the people who come by: see ../shared/DOC.md. */
public final class KitchenTable {
    public static final int NONE = -1, BAD = -2, STATE = -3, FULL = -4;
    public static final long NO = -4611686018427387904L;

    private static final int NOTHING_THERE = -11, OUTSIDE = -12, OTHER_SORT = -13, SIZE_BELOW_0 = -14;

    private static final int HOURS = 48, THINGS = 4, KINDS = 6;
    private static final int MOST_PEOPLE = 5, MOST_SLIPS = 10, MOST_MARKS = 20;
    private static final int MOST_RULES = 6, MOST_BYTES = 160;
    private static final int SHEETS = 4, LONGEST_SHEET = 40;
    private static final int MOST_READS = 12, MOST_TEMPER = 9, MOST_HARM_ASKED = 9999;
    private static final int FAULT_BASE = -100;

    private static final int FIRST = 0, EVERY = 1, READS = 2, TEMPER = 3, HOUR_OF_NOTE = 4;
    private static final int[] LEAST_TRAIT = {0, 1, 0, 0};
    private static final int[] MOST_TRAIT = {HOURS - 1, 24, MOST_READS, MOST_TEMPER};

    private static final String FIRST_RULE = "do told < asked ; take 0 ; care 1 + thing ;";

    private final Table table = new Table();
    private final Course course = new Course(table);
    private final Tape tape = new Tape();
    private final Marks marks = new Marks();
    private final Image kept = new Image();
    private final Sheet[] sheets = new Sheet[SHEETS];

    public KitchenTable() {
        for (int i = 0; i < SHEETS; i++) {
            sheets[i] = new Sheet();
        }
        for (int i = 0; i < FIRST_RULE.length(); i++) {
            tape.append(FIRST_RULE.charAt(i));
        }
        new Parser(tape, table.rules[0]).parse();
        table.ruleCount = 1;
    }

    // ---- people, notes

    public int person(int first, int every, int reads) {
        boolean good = fits(FIRST, first) && fits(EVERY, every)
            && reads >= 0 && fits(READS, reads / 10) && fits(TEMPER, reads % 10);
        if (!good) {
            return BAD;
        }
        int number = table.addGuest(first, every, reads / 10, reads % 10);
        course.stale = true;
        return number;
    }

    public int note(int kind, int hour, int what) {
        int number = addSlip(kind, hour, what);
        course.stale = true;
        return number;
    }

    public int set(int what, int of, int v) {
        if (what == HOUR_OF_NOTE) {
            return moveSlip(of, v);
        }
        if (what < FIRST || what > TEMPER || !table.hasGuest(of) || !fits(what, v)) {
            return BAD;
        }
        int[] traits = table.people[of].traits;
        int was = traits[what];
        traits[what] = v;
        course.stale = true;
        return was;
    }

    public int told(int note, int what) {
        if (!table.hasSlip(note)) {
            return BAD;
        }
        Slip slip = table.slips[note];
        switch (what) {
            case 0: return slip.kind;
            case 1: return slip.hour;
            case 2: return slip.thing;
            case 3: return slip.number;
            case 4: return slip.high;
            case 5: return slip.lasts;
            case 6: return slip.asks;
            case 7: return slip.tells;
            default: return BAD;
        }
    }

    // ---- texts

    public int feed(int letter) {
        if (letter < 0 || letter > 255) {
            return BAD;
        }
        return tape.append(letter) ? tape.size : FULL;
    }

    public int text() {
        if (table.ruleCount >= MOST_RULES) {
            return FULL;
        }
        int fault = new Parser(tape, table.rules[table.ruleCount]).parse();
        if (fault != NONE) {
            return FAULT_BASE - fault;
        }
        table.ruleCount++;
        return table.ruleCount - 1;
    }

    public int force(int text) {
        if (text < 0 || text >= table.ruleCount) {
            return BAD;
        }
        int was = table.ruleNumber;
        table.ruleNumber = text;
        course.stale = true;
        return was;
    }

    // ---- hours

    public int lies(int hour) {
        return isHour(hour) ? settledCourse().lyingAtEnd[hour] : BAD;
    }

    public int top(int hour) {
        if (!isHour(hour)) {
            return BAD;
        }
        int lying = settledCourse().lyingAtEnd[hour];
        int best = NONE;
        for (int i = 0; i < table.slipCount; i++) {
            boolean liesThere = (lying >> i & 1) != 0;
            if (liesThere && (best == NONE || table.liesAbove(i, best))) {
                best = i;
            }
        }
        return best;
    }

    public int read(int person, int note) {
        if (!table.hasGuest(person) || !table.hasSlip(note)) {
            return BAD;
        }
        return settledCourse().firstRead[person][note];
    }

    public int knew(int person, int hour) {
        if (!table.hasGuest(person) || !isHour(hour)) {
            return BAD;
        }
        return settledCourse().knownAtEnd[person][hour];
    }

    public int done(int thing, int person) {
        if (!isThing(thing) || person != NONE && !table.hasGuest(person)) {
            return BAD;
        }
        Course settled = settledCourse();
        return person == NONE ? settled.timesInAll[thing] : settled.timesDone[thing][person];
    }

    public int when(int thing, int what) {
        if (!isThing(thing) || what < 0 || what > 1) {
            return BAD;
        }
        Course settled = settledCourse();
        return what == 0 ? settled.firstHour[thing] : settled.firstDoer[thing];
    }

    public int things(int what) {
        if (what < 0 || what > 1) {
            return BAD;
        }
        Course settled = settledCourse();
        int bits = 0;
        for (int thing = 0; thing < THINGS; thing++) {
            boolean counts = what == 0 ? settled.isNeglected(thing) : settled.timesInAll[thing] > 1;
            if (counts) {
                bits |= 1 << thing;
            }
        }
        return bits;
    }

    public int harm() {
        return settledCourse().harmDone();
    }

    // ---- whom it helps

    public int helps(int what) {
        if (what < 0 || what > 1) {
            return BAD;
        }
        int best = NONE;
        int least = NONE;
        for (int i = 0; i < table.peopleCount; i++) {
            int harm = harmIfReading(i, MOST_READS);
            if (best == NONE || harm < least) {
                best = i;
                least = harm;
            }
        }
        return what == 0 ? best : least;
    }

    public int once(int note) {
        if (!table.hasSlip(note)) {
            return BAD;
        }
        Slip slip = table.slips[note];
        int was = slip.hour;
        int latest = NONE;
        for (int hour = HOURS - 1; hour >= 0 && latest == NONE; hour--) {
            slip.hour = hour;
            course.run();
            if (course.timesInAll[slip.thing] == 1) {
                latest = hour;
            }
        }
        slip.hour = was;
        course.stale = true;
        return latest;
    }

    public int whose(int person, int most) {
        if (!table.hasGuest(person) || most < 0 || most > MOST_HARM_ASKED) {
            return BAD;
        }
        for (int reads = 0; reads <= MOST_READS; reads++) {
            if (harmIfReading(person, reads) <= most) {
                return reads;
            }
        }
        return NONE;
    }

    // ---- marks, orders

    public int mark(int ahead, int behind) {
        if (!table.hasSlip(ahead) || !table.hasSlip(behind) || ahead == behind) {
            return BAD;
        }
        return marks.add(ahead, behind) ? marks.size : FULL;
    }

    public long orders() {
        return marks.ordersOf(table.slipCount, NONE, NONE);
    }

    public long odds(int ahead, int behind, int part) {
        boolean good = table.hasSlip(ahead) && table.hasSlip(behind) && ahead != behind
            && part >= 0 && part <= 1;
        if (!good) {
            return NO;
        }
        int all = marks.ordersOf(table.slipCount, NONE, NONE);
        if (all < 1) {
            return part;
        }
        int such = marks.ordersOf(table.slipCount, ahead, behind);
        int shared = greatestDivisor(all, such);
        if (shared < 1) {
            return NO;
        }
        return part == 0 ? such / shared : all / shared;
    }

    public int place(int note, int what) {
        if (!table.hasSlip(note) || what < 0 || what > 1) {
            return BAD;
        }
        if (marks.ordersOf(table.slipCount, NONE, NONE) < 1) {
            return NONE;
        }
        return marks.farthestPlace(table.slipCount, note, what == 1);
    }

    public int came(int sheet) {
        if (!isSheet(sheet)) {
            return BAD;
        }
        Sheet row = sheets[sheet];
        if (row.isMissing()) {
            return NOTHING_THERE;
        }
        if (row.size < 1) {
            return BAD;
        }
        for (int hour = 0; hour < row.size; hour++) {
            if (row.cells[hour] != table.whoComes(hour)) {
                return hour;
            }
        }
        return NONE;
    }

    public int image() {
        kept.isThere = true;
        kept.peopleCount = table.peopleCount;
        for (int i = 0; i < table.peopleCount; i++) {
            System.arraycopy(table.people[i].traits, 0, kept.traits[i], 0, TEMPER + 1);
        }
        kept.slipCount = table.slipCount;
        for (int i = 0; i < table.slipCount; i++) {
            kept.hours[i] = table.slips[i].hour;
        }
        kept.markCount = marks.size;
        kept.ruleNumber = table.ruleNumber;
        return marks.size;
    }

    public int back() {
        if (!kept.isThere) {
            return STATE;
        }
        for (int i = 0; i < kept.peopleCount; i++) {
            System.arraycopy(kept.traits[i], 0, table.people[i].traits, 0, TEMPER + 1);
        }
        for (int i = 0; i < kept.slipCount; i++) {
            table.slips[i].hour = kept.hours[i];
        }
        marks.size = kept.markCount;
        table.ruleNumber = kept.ruleNumber;
        course.stale = true;
        return marks.size;
    }

    public int count(int what) {
        switch (what) {
            case 0: return table.peopleCount;
            case 1: return table.slipCount;
            case 2: return marks.size;
            case 3: return table.ruleCount;
            case 4: return tape.size;
            case 5: return table.ruleNumber;
            default: return BAD;
        }
    }

    // ---- the host

    public int sheet(int sheet, int sort, int n) {
        if (!isSheet(sheet) || sort < Sheet.MISSING || sort > Sheet.INTS) {
            return BAD;
        }
        int size = sort == Sheet.MISSING ? 0 : n;
        if (size > LONGEST_SHEET) {
            return BAD;
        }
        if (size < 0) {
            return SIZE_BELOW_0;
        }
        sheets[sheet].become(sort, size);
        return 1;
    }

    public int cell(int sheet, int i, int v) {
        if (!isSheet(sheet)) {
            return BAD;
        }
        Sheet row = sheets[sheet];
        if (row.isMissing()) {
            return NOTHING_THERE;
        }
        if (!row.has(i)) {
            return OUTSIDE;
        }
        row.put(i, v);
        return 1;
    }

    public int copy(int sheet, int i, int other, int j, int n) {
        if (!isSheet(sheet) || !isSheet(other)) {
            return BAD;
        }
        Sheet from = sheets[sheet];
        Sheet to = sheets[other];
        if (from.isMissing() || to.isMissing()) {
            return NOTHING_THERE;
        }
        if (from.sort != to.sort) {
            return OTHER_SORT;
        }
        if (!from.hasRun(i, n) || !to.hasRun(j, n)) {
            return OUTSIDE;
        }
        System.arraycopy(from.cells, i, to.cells, j, n);
        return n;
    }

    public int notes(int sheet, int sort, int from, int n) {
        if (!isSheet(sheet) || sort < Sheet.BYTES || sort > Sheet.INTS || n < 0 || n > MOST_SLIPS) {
            return BAD;
        }
        Sheet row = sheets[sheet];
        if (row.isMissing()) {
            return NOTHING_THERE;
        }
        if (row.sort != sort) {
            return OTHER_SORT;
        }
        course.stale = true;
        int came = 0;
        for (int k = 0; k < n; k++) {
            // A triple that begins inside a sheet begins at a small number: at + 2 can't wrap.
            int at = from + 3 * k;
            if (!row.has(at) || !row.has(at + 2)) {
                return OUTSIDE;
            }
            if (addSlip(row.cells[at], row.cells[at + 1], row.cells[at + 2]) >= 0) {
                came++;
            }
        }
        return came;
    }

    public int taken(int note, int k) {
        if (k < 0 || k >= KINDS) {
            return BAD;
        }
        if (!table.hasSlip(note)) {
            return NOTHING_THERE;
        }
        Slip slip = table.slips[note];
        return slip.isUnder(k) ? slip.number : OTHER_SORT;
    }

    // ---- what the calls share

    private static boolean isHour(int hour) {
        return hour >= 0 && hour < HOURS;
    }

    private static boolean isThing(int thing) {
        return thing >= 0 && thing < THINGS;
    }

    private static boolean isSheet(int sheet) {
        return sheet >= 0 && sheet < SHEETS;
    }

    private static boolean fits(int trait, int v) {
        return v >= LEAST_TRAIT[trait] && v <= MOST_TRAIT[trait];
    }

    private int addSlip(int kind, int hour, int what) {
        boolean good = kind >= 0 && kind < KINDS && isHour(hour) && what >= 0 && isThing(what / 10);
        return good ? table.addSlip(kind, hour, what / 10, what % 10) : BAD;
    }

    private int moveSlip(int number, int hour) {
        if (!table.hasSlip(number) || !isHour(hour)) {
            return BAD;
        }
        Slip slip = table.slips[number];
        int was = slip.hour;
        slip.hour = hour;
        course.stale = true;
        return was;
    }

    private Course settledCourse() {
        if (course.stale) {
            course.run();
        }
        return course;
    }

    private int harmIfReading(int person, int reads) {
        int[] traits = table.people[person].traits;
        int was = traits[READS];
        traits[READS] = reads;
        course.run();
        int harm = course.harmDone();
        traits[READS] = was;
        course.stale = true;
        return harm;
    }

    private static int greatestDivisor(int a, int b) {
        int greater = a;
        int less = b;
        // Each two rounds at least halve an int: 64 are enough.
        for (int round = 0; round < 100 && less != 0; round++) {
            int rest = greater % less;
            greater = less;
            less = rest;
        }
        return greater;
    }

    /** One of the people: FIRST, EVERY, READS, TEMPER, by their numbers in set(). */
    private static final class Guest {
        final int[] traits = {0, 1, 0, 0};

        boolean comesIn(int hour) {
            int every = traits[EVERY];
            return every > 0 && hour >= traits[FIRST] && (hour - traits[FIRST]) % every == 0;
        }
    }

    /** A note. */
    private static final class Slip {
        private static final int PLAIN = 0, TELLING = 1, ASKING = 2, ANSWERING = 3, URGENT = 4, CROSSED = 5;
        private static final int[] ABOVE = {NONE, PLAIN, PLAIN, TELLING, ASKING, ANSWERING};
        private static final int PLAIN_LASTS = 12, ASKING_HIGH = 1;

        int kind, hour, thing, number;
        int high, lasts, asks, tells;

        void become(int newKind, int newHour, int newThing, int newNumber) {
            kind = newKind;
            hour = newHour;
            thing = newThing;
            number = newNumber;
            high = highOf(newKind, newNumber);
            lasts = lastsOf(newKind, newNumber);
            asks = asksOf(newKind);
            tells = tellsOf(newKind);
        }

        boolean liesIn(int anHour) {
            return anHour > hour && anHour <= hour + lasts;
        }

        /** Whether its kind is that one or lies under it. */
        boolean isUnder(int k) {
            int at = kind;
            for (int step = 0; step < KINDS && at != NONE; step++) {
                if (at == k) {
                    return true;
                }
                at = ABOVE[at];
            }
            return false;
        }

        private static int highOf(int kind, int number) {
            switch (kind) {
                case ASKING: return ASKING_HIGH;
                case ANSWERING: return number / 3;
                case URGENT: return 2 * ASKING_HIGH + 2;
                case CROSSED: return Math.max(0, number / 3 - 2);
                default: return 0;
            }
        }

        private static int lastsOf(int kind, int number) {
            switch (kind) {
                case TELLING: return PLAIN_LASTS + number;
                case ASKING: return 2 * PLAIN_LASTS;
                case ANSWERING:
                case CROSSED: return (PLAIN_LASTS + number) / 2;
                case URGENT: return 2 * PLAIN_LASTS + number;
                default: return PLAIN_LASTS;
            }
        }

        /** A crossed one would ask 1 less than nothing, which is nothing. */
        private static int asksOf(int kind) {
            switch (kind) {
                case ASKING: return 1;
                case URGENT: return 2;
                default: return 0;
            }
        }

        private static int tellsOf(int kind) {
            switch (kind) {
                case TELLING: return 1;
                case ANSWERING:
                case CROSSED: return 2;
                default: return 0;
            }
        }
    }

    /** The people, the notes and the rules. All rows are full from the start, so that none is ever null. */
    private static final class Table {
        final Guest[] people = new Guest[MOST_PEOPLE];
        final Slip[] slips = new Slip[MOST_SLIPS];
        final Rule[] rules = new Rule[MOST_RULES];
        int peopleCount = 0;
        int slipCount = 0;
        int ruleCount = 0;
        /** The rule in force. */
        int ruleNumber = 0;

        Table() {
            for (int i = 0; i < MOST_PEOPLE; i++) {
                people[i] = new Guest();
            }
            for (int i = 0; i < MOST_SLIPS; i++) {
                slips[i] = new Slip();
            }
            for (int i = 0; i < MOST_RULES; i++) {
                rules[i] = new Rule();
            }
        }

        boolean hasGuest(int number) {
            return number >= 0 && number < peopleCount;
        }

        boolean hasSlip(int number) {
            return number >= 0 && number < slipCount;
        }

        int addGuest(int first, int every, int reads, int temper) {
            if (peopleCount >= MOST_PEOPLE) {
                return FULL;
            }
            int[] traits = people[peopleCount].traits;
            traits[FIRST] = first;
            traits[EVERY] = every;
            traits[READS] = reads;
            traits[TEMPER] = temper;
            peopleCount++;
            return peopleCount - 1;
        }

        int addSlip(int kind, int hour, int thing, int number) {
            if (slipCount >= MOST_SLIPS) {
                return FULL;
            }
            slips[slipCount].become(kind, hour, thing, number);
            slipCount++;
            return slipCount - 1;
        }

        boolean liesAbove(int one, int other) {
            Slip a = slips[one];
            Slip b = slips[other];
            if (a.high != b.high) {
                return a.high > b.high;
            }
            return a.hour != b.hour ? a.hour > b.hour : one > other;
        }

        int whoComes(int hour) {
            int bits = 0;
            for (int i = 0; i < peopleCount; i++) {
                if (people[i].comesIn(hour)) {
                    bits |= 1 << i;
                }
            }
            return bits;
        }
    }

    /** What comes to pass in all hours; its rows hold the answers of the last run. */
    private static final class Course {
        static final int ASKED = 0, TOLD = 1, HOUR = 2, WHO = 3, TEMPER_OF = 4, THING = 5, FACTS = 6;
        private static final int MOST_CARE = 99;

        boolean stale = true;
        final int[] lyingAtEnd = new int[HOURS];
        final int[][] knownAtEnd = new int[MOST_PEOPLE][HOURS];
        final int[][] firstRead = new int[MOST_PEOPLE][MOST_SLIPS];
        final int[][] timesDone = new int[THINGS][MOST_PEOPLE];
        final int[] timesInAll = new int[THINGS];
        final int[] firstHour = new int[THINGS];
        final int[] firstDoer = new int[THINGS];

        private final Table table;
        private final int[] uppermost = new int[MOST_SLIPS];
        private final int[] known = new int[MOST_PEOPLE];
        private final int[][] askedOf = new int[MOST_PEOPLE][THINGS];
        private final int[][] toldTo = new int[MOST_PEOPLE][THINGS];
        private final int[] facts = new int[FACTS];
        private final int[] stack = new int[Rule.MOST_STEPS];
        private int gone = 0;

        Course(Table table) {
            this.table = table;
        }

        void run() {
            clear();
            sortUppermost();
            for (int hour = 0; hour < HOURS; hour++) {
                int lying = putIn(hour);
                for (int who = 0; who < table.peopleCount; who++) {
                    if (table.people[who].comesIn(hour)) {
                        visit(who, hour, lying & ~gone);
                    }
                    knownAtEnd[who][hour] = known[who];
                }
                lyingAtEnd[hour] = lying & ~gone;
            }
            stale = false;
        }

        /** HARM of the last run. */
        int harmDone() {
            int harm = 0;
            for (int thing = 0; thing < THINGS; thing++) {
                if (isNeglected(thing)) {
                    harm += careFor(thing);
                }
                harm += Math.max(0, timesInAll[thing] - 1);
            }
            return harm;
        }

        boolean isNeglected(int thing) {
            return timesInAll[thing] == 0 && askedInAll(thing) > 0;
        }

        private void clear() {
            gone = 0;
            Arrays.fill(known, 0);
            for (int who = 0; who < MOST_PEOPLE; who++) {
                Arrays.fill(firstRead[who], NONE);
                Arrays.fill(askedOf[who], 0);
                Arrays.fill(toldTo[who], 0);
            }
            for (int thing = 0; thing < THINGS; thing++) {
                Arrays.fill(timesDone[thing], 0);
            }
            Arrays.fill(timesInAll, 0);
            Arrays.fill(firstHour, NONE);
            Arrays.fill(firstDoer, NONE);
        }

        private void sortUppermost() {
            for (int i = 0; i < table.slipCount; i++) {
                int at = i;
                while (at > 0 && table.liesAbove(i, uppermost[at - 1])) {
                    uppermost[at] = uppermost[at - 1];
                    at--;
                }
                uppermost[at] = i;
            }
        }

        /** What would lie there in an hour, did nobody take any. */
        private int putIn(int hour) {
            int bits = 0;
            for (int i = 0; i < table.slipCount; i++) {
                if (table.slips[i].liesIn(hour)) {
                    bits |= 1 << i;
                }
            }
            return bits;
        }

        private void visit(int who, int hour, int lying) {
            int read = uppermostOf(lying, table.people[who].traits[READS]);
            learn(who, hour, read);
            facts[HOUR] = hour;
            facts[WHO] = who;
            facts[TEMPER_OF] = table.people[who].traits[TEMPER];
            for (int thing = 0; thing < THINGS; thing++) {
                if (says(Rule.DO, askedOf[who][thing], toldTo[who][thing], thing) != 0) {
                    act(who, hour, thing);
                }
            }
            for (int i = 0; i < table.slipCount; i++) {
                Slip slip = table.slips[i];
                boolean wasRead = (read >> i & 1) != 0;
                if (wasRead && says(Rule.TAKE, slip.asks, slip.tells, slip.thing) != 0) {
                    gone |= 1 << i;
                }
            }
        }

        private int uppermostOf(int lying, int most) {
            int bits = 0;
            int left = most;
            for (int k = 0; k < table.slipCount && left > 0; k++) {
                int bit = lying & 1 << uppermost[k];
                if (bit != 0) {
                    bits |= bit;
                    left--;
                }
            }
            return bits;
        }

        private void learn(int who, int hour, int read) {
            int fresh = read & ~known[who];
            for (int i = 0; i < table.slipCount; i++) {
                if ((fresh >> i & 1) != 0) {
                    Slip slip = table.slips[i];
                    firstRead[who][i] = hour;
                    askedOf[who][slip.thing] += slip.asks;
                    toldTo[who][slip.thing] += slip.tells;
                }
            }
            known[who] |= read;
        }

        private void act(int who, int hour, int thing) {
            if (timesInAll[thing] == 0) {
                firstHour[thing] = hour;
                firstDoer[thing] = who;
            }
            timesInAll[thing]++;
            timesDone[thing][who]++;
        }

        private int careFor(int thing) {
            int tells = 0;
            for (int i = 0; i < table.slipCount; i++) {
                if (table.slips[i].thing == thing) {
                    tells += table.slips[i].tells;
                }
            }
            facts[HOUR] = HOURS;
            facts[WHO] = 0;
            facts[TEMPER_OF] = 0;
            int care = says(Rule.CARE, askedInAll(thing), tells, thing);
            return Math.max(0, Math.min(MOST_CARE, care));
        }

        private int askedInAll(int thing) {
            int asks = 0;
            for (int i = 0; i < table.slipCount; i++) {
                if (table.slips[i].thing == thing) {
                    asks += table.slips[i].asks;
                }
            }
            return asks;
        }

        private int says(int part, int asked, int told, int thing) {
            facts[ASKED] = asked;
            facts[TOLD] = told;
            facts[THING] = thing;
            return table.rules[table.ruleNumber].value(part, facts, stack);
        }
    }

    /** A text that was read: for each part its steps, each behind what it works on. */
    private static final class Rule {
        static final int DO = 0, TAKE = 1, CARE = 2, PARTS = 3;
        /** Each byte makes two steps at most: a minus ahead of a one makes two. */
        static final int MOST_STEPS = 2 * MOST_BYTES;

        private final int[] steps = new int[MOST_STEPS];
        private final int[] ends = new int[PARTS];
        private int size = 0;

        void clear() {
            size = 0;
        }

        void add(int step) {
            if (size < MOST_STEPS) {
                steps[size] = step;
                size++;
            }
        }

        void endPart(int part) {
            ends[part] = size;
        }

        int value(int part, int[] facts, int[] stack) {
            int top = 0;
            for (int i = part == DO ? 0 : ends[part - 1]; i < ends[part]; i++) {
                int step = steps[i];
                if (step < Tape.SIGNS_FROM) {
                    if (top < stack.length) {
                        stack[top] = meant(step, facts);
                        top++;
                    }
                } else if (top >= 2) {
                    top--;
                    stack[top - 1] = joined(step, stack[top - 1], stack[top]);
                }
            }
            return top > 0 ? stack[top - 1] : 0;
        }

        /** What a number or a name stands for. */
        private static int meant(int step, int[] facts) {
            int name = step - Tape.NAMES_FROM;
            return name >= 0 && name < facts.length ? facts[name] : step;
        }

        private static int joined(int sign, int a, int b) {
            switch (sign) {
                case Tape.PLUS: return a + b;
                case Tape.MINUS: return a - b;
                case Tape.TIMES: return a * b;
                case Tape.LESS: return a < b ? 1 : 0;
                case Tape.EQUAL: return a == b ? 1 : 0;
                case Tape.AND: return a != 0 && b != 0 ? 1 : 0;
                case Tape.OR: return a != 0 || b != 0 ? 1 : 0;
                default: return 0;
            }
        }
    }

    /** The bytes that are no text yet, and the tokens that they make. */
    private static final class Tape {
        /** A lesser token is a number itself; then come names, by their places among the facts; then signs and keys. */
        static final int NAMES_FROM = 10000, SIGNS_FROM = 20000;
        static final int OPEN = SIGNS_FROM + '(', CLOSE = SIGNS_FROM + ')', END_OF_PART = SIGNS_FROM + ';';
        static final int PLUS = SIGNS_FROM + '+', MINUS = SIGNS_FROM + '-', TIMES = SIGNS_FROM + '*';
        static final int LESS = SIGNS_FROM + '<', EQUAL = SIGNS_FROM + '=';
        static final int OR = SIGNS_FROM + 256, AND = OR + 1, NOT = OR + 2, END = OR + 3, BROKEN = OR + 4;
        /** The keys of the parts of a rule follow one another as the parts do. */
        static final int FIRST_KEY = OR + 5;
        private static final int LONGEST_NUMBER = 4;

        int size = 0;
        private final int[] bytes = new int[MOST_BYTES];
        /** The last token is END or BROKEN. */
        private final int[] tokens = new int[MOST_BYTES + 1];
        private final int[] starts = new int[MOST_BYTES + 1];
        private int at = 0;

        boolean append(int letter) {
            if (size >= MOST_BYTES) {
                return false;
            }
            bytes[size] = letter;
            size++;
            return true;
        }

        void scan() {
            at = 0;
            for (int count = 0; count <= MOST_BYTES; count++) {
                skipBlanks();
                starts[count] = at;
                tokens[count] = nextToken(at);
                if (tokens[count] == END || tokens[count] == BROKEN) {
                    return;
                }
            }
        }

        private void skipBlanks() {
            while (at < size && (bytes[at] == 32 || bytes[at] == 10)) {
                at++;
            }
        }

        private int nextToken(int start) {
            if (start >= size) {
                return END;
            }
            int letter = bytes[start];
            if (isSmall(letter)) {
                return wordToken(start);
            }
            if (isDigit(letter)) {
                return numberToken(start);
            }
            at++;
            return isSign(letter) ? SIGNS_FROM + letter : BROKEN;
        }

        private int numberToken(int start) {
            int number = 0;
            while (at < size && isDigit(bytes[at])) {
                number = 10 * number + bytes[at] - '0';
                at++;
            }
            return at - start > LONGEST_NUMBER ? BROKEN : number;
        }

        private int wordToken(int start) {
            while (at < size && isSmall(bytes[at])) {
                at++;
            }
            if (spells(start, "asked")) { return NAMES_FROM + Course.ASKED; }
            if (spells(start, "told")) { return NAMES_FROM + Course.TOLD; }
            if (spells(start, "hour")) { return NAMES_FROM + Course.HOUR; }
            if (spells(start, "who")) { return NAMES_FROM + Course.WHO; }
            if (spells(start, "temper")) { return NAMES_FROM + Course.TEMPER_OF; }
            if (spells(start, "thing")) { return NAMES_FROM + Course.THING; }
            if (spells(start, "do")) { return FIRST_KEY + Rule.DO; }
            if (spells(start, "take")) { return FIRST_KEY + Rule.TAKE; }
            if (spells(start, "care")) { return FIRST_KEY + Rule.CARE; }
            if (spells(start, "or")) { return OR; }
            if (spells(start, "and")) { return AND; }
            return spells(start, "not") ? NOT : BROKEN;
        }

        /** Whether the bytes from that start till here are that word. */
        private boolean spells(int start, String word) {
            if (at - start != word.length()) {
                return false;
            }
            for (int i = 0; i < word.length(); i++) {
                if (bytes[start + i] != word.charAt(i)) {
                    return false;
                }
            }
            return true;
        }

        private static boolean isSmall(int letter) {
            return letter >= 'a' && letter <= 'z';
        }

        private static boolean isDigit(int letter) {
            return letter >= '0' && letter <= '9';
        }

        private static boolean isSign(int letter) {
            switch (letter) {
                case '(':
                case ')':
                case ';':
                case '+':
                case '-':
                case '*':
                case '<':
                case '=': return true;
                default: return false;
            }
        }
    }

    /** Reads a tape into a rule. */
    private static final class Parser {
        /** What stands in a text, from the loosest on: each is made of the next. */
        private static final int ANY_OF = 0, ALL_OF = 1, COMPARED = 2, SUM = 3, TERM = 4, ONE = 5;
        private static final int MOST_OPEN = 5;

        private final Tape tape;
        private final Rule rule;
        private int index = 0;
        private int open = 0;
        private int fault = NONE;

        Parser(Tape tape, Rule rule) {
            this.tape = tape;
            this.rule = rule;
        }

        /** The place of the fault, or NONE; the tape is empty then. */
        int parse() {
            tape.scan();
            rule.clear();
            for (int part = 0; part < Rule.PARTS; part++) {
                expect(Tape.FIRST_KEY + part);
                level(ANY_OF);
                expect(Tape.END_OF_PART);
                rule.endPart(part);
            }
            expect(Tape.END);
            tape.size = 0;
            return fault;
        }

        /** Behind a fault nothing fits any more, so that all levels end. */
        private int token() {
            return fault == NONE ? tape.tokens[index] : Tape.BROKEN;
        }

        private void advance() {
            if (index < MOST_BYTES) {
                index++;
            }
        }

        private void fail() {
            if (fault == NONE) {
                fault = tape.starts[index];
            }
        }

        private void expect(int wanted) {
            if (token() == wanted) {
                advance();
            } else {
                fail();
            }
        }

        private void level(int level) {
            if (level >= ONE) {
                one();
            } else if (level == COMPARED && token() == Tape.NOT) {
                negation();
            } else {
                chain(level);
            }
        }

        private void chain(int level) {
            level(level + 1);
            int most = level == COMPARED ? 1 : MOST_BYTES;
            for (int i = 0; i < most && joins(level); i++) {
                int sign = token();
                advance();
                level(level + 1);
                rule.add(sign);
            }
        }

        private boolean joins(int level) {
            int token = token();
            switch (level) {
                case ANY_OF: return token == Tape.OR;
                case ALL_OF: return token == Tape.AND;
                case COMPARED: return token == Tape.LESS || token == Tape.EQUAL;
                case SUM: return token == Tape.PLUS || token == Tape.MINUS;
                case TERM: return token == Tape.TIMES;
                default: return false;
            }
        }

        /** Not x is x = 0. */
        private void negation() {
            if (opens()) {
                level(COMPARED);
                open--;
                rule.add(0);
                rule.add(Tape.EQUAL);
            }
        }

        private void one() {
            int token = token();
            if (token < Tape.SIGNS_FROM) {
                rule.add(token);
                advance();
            } else if (token == Tape.MINUS) {
                negative();
            } else if (token == Tape.OPEN) {
                inner();
            } else {
                fail();
            }
        }

        /** - x is 0 - x. */
        private void negative() {
            if (opens()) {
                rule.add(0);
                level(ONE);
                open--;
                rule.add(Tape.MINUS);
            }
        }

        private void inner() {
            if (opens()) {
                level(ANY_OF);
                expect(Tape.CLOSE);
                open--;
            }
        }

        /** Goes past a token that opens, unless too many are open: so the levels never go deep. */
        private boolean opens() {
            if (open >= MOST_OPEN) {
                fail();
                return false;
            }
            open++;
            advance();
            return true;
        }
    }

    /** Marks, and the orders of the notes in which all of them hold. */
    private static final class Marks {
        private final int[] ahead = new int[MOST_MARKS];
        private final int[] behind = new int[MOST_MARKS];
        int size = 0;
        /** Of each note the notes (bits) that must come ahead of it. */
        private final int[] before = new int[MOST_SLIPS];
        /** Of each set of notes (bits) in how many orders it can fill the first places. */
        private final int[] ways = new int[1 << MOST_SLIPS];

        boolean add(int first, int second) {
            if (size >= MOST_MARKS) {
                return false;
            }
            ahead[size] = first;
            behind[size] = second;
            size++;
            return true;
        }

        /** The orders of the first so many notes, also with one mark more, unless that is NONE. */
        int ordersOf(int slipCount, int first, int second) {
            Arrays.fill(before, 0);
            for (int i = 0; i < size; i++) {
                before[behind[i]] |= 1 << ahead[i];
            }
            if (first != NONE && second != NONE) {
                before[second] |= 1 << first;
            }
            int all = (1 << slipCount) - 1;
            ways[0] = 1;
            for (int set = 1; set <= all; set++) {
                ways[set] = waysOf(set, slipCount);
            }
            return ways[all];
        }

        private int waysOf(int set, int slipCount) {
            int sum = 0;
            for (int last = 0; last < slipCount; last++) {
                if ((set >> last & 1) != 0 && (before[last] & ~set) == 0) {
                    sum += ways[set & ~(1 << last)];
                }
            }
            return sum;
        }

        /** Behind ordersOf(), where there are orders: each set that can come first can then be gone on with. */
        int farthestPlace(int slipCount, int slip, boolean greatest) {
            int farthest = NONE;
            for (int set = 0; set < 1 << slipCount; set++) {
                boolean canBeNext = ways[set] > 0 && (set >> slip & 1) == 0 && (before[slip] & ~set) == 0;
                int place = Integer.bitCount(set);
                if (canBeNext && (farthest == NONE || (greatest ? place > farthest : place < farthest))) {
                    farthest = place;
                }
            }
            return farthest;
        }
    }

    /** What back() lays back. */
    private static final class Image {
        boolean isThere = false;
        int peopleCount = 0;
        final int[][] traits = new int[MOST_PEOPLE][TEMPER + 1];
        int slipCount = 0;
        final int[] hours = new int[MOST_SLIPS];
        int markCount = 0;
        int ruleNumber = 0;
    }

    /** A row of numbers, or missing. */
    private static final class Sheet {
        static final int MISSING = -1, BYTES = 0, SHORTS = 1, INTS = 2;

        final int[] cells = new int[LONGEST_SHEET];
        int sort = MISSING;
        int size = 0;

        boolean isMissing() {
            return sort == MISSING;
        }

        boolean has(int i) {
            return i >= 0 && i < size;
        }

        boolean hasRun(int i, int n) {
            return i >= 0 && n >= 0 && i <= size - n;
        }

        void become(int newSort, int newSize) {
            sort = newSort;
            size = newSize;
            Arrays.fill(cells, 0);
        }

        void put(int i, int v) {
            switch (sort) {
                case BYTES: cells[i] = (byte) v; break;
                case SHORTS: cells[i] = (short) v; break;
                default: cells[i] = v; break;
            }
        }
    }
}
