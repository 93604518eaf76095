import java.util.ArrayList;
import java.util.List;

/**
 * All that can be asked of an object, as rows; what only a change shows (traits, THE TAPE, THE IMAGE) is asked last,
 * so the object is used up by it. A furnished object has some 300 calls: well below the 512 that one may have.
 */
final class Everything {
    private final KitchenTable x;
    private final List<String> rows = new ArrayList<>();

    private Everything(KitchenTable x) {
        this.x = x;
    }

    static List<String> of(KitchenTable x) {
        Everything all = new Everything(x);
        int people = x.count(0), notes = x.count(1);
        all.counts();
        all.notes(notes);
        all.hours();
        all.people(people, notes);
        all.things(people);
        all.orders(notes);
        all.sheets();
        all.traits(people, 9);
        all.tape();
        all.ask("back");
        all.counts();
        all.traits(people, 8);
        for (int note = 0; note < notes; note++) {
            all.ask("told", note, 1);
        }
        return all.rows;
    }

    private long ask(String name, int... args) {
        long answer = Calls.answer(x, name, args);
        rows.add(Calls.told(name, args) + " = " + answer);
        return answer;
    }

    private void counts() {
        for (int what = 0; what < 6; what++) {
            ask("count", what);
        }
    }

    private void notes(int notes) {
        for (int note = 0; note < notes; note++) {
            for (int what = 0; what < 4; what++) {
                ask("told", note, what);
            }
        }
    }

    private void hours() {
        for (int hour = 0; hour < 48; hour += 3) {
            ask("lies", hour);
            ask("top", hour + 2);
        }
    }

    private void people(int people, int notes) {
        for (int person = 0; person < people; person++) {
            for (int note = 0; note < notes; note++) {
                ask("read", person, note);
            }
            ask("knew", person, 47);
            ask("whose", person, 3);
        }
    }

    private void things(int people) {
        for (int thing = 0; thing < 4; thing++) {
            for (int person = -1; person < people; person++) {
                ask("done", thing, person);
            }
            ask("when", thing, 0);
            ask("when", thing, 1);
        }
        ask("things", 0);
        ask("things", 1);
        ask("harm");
        ask("helps", 0);
        ask("helps", 1);
    }

    private void orders(int notes) {
        ask("orders");
        for (int note = 0; note < notes; note++) {
            ask("place", note, 0);
            ask("place", note, 1);
        }
    }

    /** What a sheet holds shows in came(), where it held who comes; its sort in notes(), its size in copy(). */
    private void sheets() {
        for (int sheet = 0; sheet < 4; sheet++) {
            ask("came", sheet);
            for (int sort = 0; sort < 3; sort++) {
                ask("notes", sheet, sort, 0, 0);
            }
            int size = 0;
            for (int more = 32; more > 0; more /= 2) {
                if (ask("copy", sheet, 0, sheet, 0, size + more) > 0) {
                    size += more;
                }
            }
        }
    }

    private void traits(int people, int becomes) {
        for (int person = 0; person < people; person++) {
            for (int what = 0; what < 4; what++) {
                ask("set", what, person, becomes);
            }
        }
    }

    private void tape() {
        long text = ask("text");
        if (text > 0) {
            ask("force", (int) text);
        }
        ask("harm");
        for (int thing = 0; thing < 4; thing++) {
            ask("done", thing, -1);
        }
    }
}
