import java.util.List;
import java.util.function.Consumer;

/**
 * A refused call answers what is due and changes nothing: two objects are furnished alike, one is called in vain, and
 * both must answer alike, whatever they are asked.
 */
final class Refusal {
    private final Due due;
    private final int promise;
    private final Consumer<KitchenTable> more;

    Refusal(Due due, int promise) {
        this(due, promise, x -> { });
    }

    /** With more put into each object than all have. */
    Refusal(Due due, int promise, Consumer<KitchenTable> more) {
        this.due = due;
        this.promise = promise;
        this.more = more;
    }

    void is(long answer, String name, int... args) {
        KitchenTable called = furnished();
        due.is(label(name, args), Calls.answer(called, name, args), answer);
        alike(due, label(name, args), called, furnished());
    }

    /** Of a call that only asks, whatever it answers. */
    void asks(String name, int... args) {
        KitchenTable called = furnished();
        Calls.answer(called, name, args);
        alike(due, label(name, args), called, furnished());
    }

    static void alike(Due due, String call, KitchenTable called, KitchenTable other) {
        List<String> got = Everything.of(called);
        List<String> want = Everything.of(other);
        due.holds(call + " changed something: " + firstUnlike(got, want), got.equals(want));
    }

    private String label(String name, int... args) {
        return "Promise " + promise + ": " + Calls.told(name, args);
    }

    /** Four wrong ones around a range: just outside, and far. */
    void around(long answer, int least, int most, String name, int place, int... args) {
        for (int wrong : new int[] {least - 1, most + 1, Integer.MIN_VALUE, Integer.MAX_VALUE}) {
            int[] all = args.clone();
            all[place] = wrong;
            is(answer, name, all);
        }
    }

    private static String firstUnlike(List<String> got, List<String> want) {
        for (int i = 0; i < got.size() && i < want.size(); i++) {
            if (!got.get(i).equals(want.get(i))) {
                return got.get(i) + ", else " + want.get(i);
            }
        }
        return "none";
    }

    /** Three people, four notes, two marks and one, two texts, a tape, an image that is not how it is, sheets 0 to 2. */
    private KitchenTable furnished() {
        KitchenTable x = new KitchenTable();
        x.person(1, 5, 23);
        x.person(0, 3, 120);
        x.person(7, 24, 19);
        x.note(2, 0, 0);
        x.note(4, 3, 15);
        x.note(1, 8, 10);
        x.note(2, 44, 39);
        x.mark(0, 1);
        x.mark(2, 3);
        Due.text(x, "do told<asked;take temper=9;care 7;");
        x.image();
        x.force(1);
        x.set(0, 0, 2);
        x.set(1, 1, 4);
        x.set(2, 1, 11);
        x.set(3, 0, 4);
        x.set(4, 2, 9);
        x.mark(3, 1);
        for (int sort = 0; sort < 3; sort++) {
            // Who comes: the second in 0, 4, ..; the first in 2, 7, ..
            Due.sheet(x, sort, sort, 2, 0, 1, 0, 2, 0);
        }
        for (char letter : "do hour=5;take 0;care thing+3;".toCharArray()) {
            x.feed(letter);
        }
        more.accept(x);
        return x;
    }
}
