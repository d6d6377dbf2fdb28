import java.util.ArrayList;
import java.util.List;

/** Objects with something of everything, and all that can be told of one: so it shows what a refused call changes. */
final class Whole {
    private Whole() {
    }

    /** Three treaties, one of them torn; an image of another year; a tape; sheets of 8, 16, 32 bits, one missing. */
    static MarkTreaties furnished() {
        MarkTreaties x = Due.from("yard 2049; up 6; event 0 3; event 3 11; event 5 7; trade 0 1 mark 7 held 4; "
                + "dynasty 2 5 mark 2080 torn; truce 3 1");
        x.go(4);
        x.seed(-77);
        x.hold(2, 1);
        x.hold(9, 0);
        x.image();
        Due.read(x, "yard 70; up 9; event 4 8");
        x.hold(0, 2);
        x.change(0, 7, 5);
        x.wakings(1);
        x.go(2);
        sheets(x);
        Due.feed(x, "up 99");
        return x;
    }

    /** Eight treaties and a tape of 120 bytes. */
    static MarkTreaties full() {
        MarkTreaties x = new MarkTreaties();
        x.set(0, 520);
        for (int t = 0; t < 8; t++) {
            x.treaty(t % 7, t % 3, 3 + t % 3);
        }
        x.image();
        x.set(1, 8);
        x.go(2);
        sheets(x);
        Due.feed(x, " ".repeat(115) + "up 99");
        return x;
    }

    private static void sheets(MarkTreaties x) {
        Due.row(x, 0, 8, 3, 4, -1);
        Due.row(x, 1, 16, 300, 400);
        Due.row(x, 3, 32, 1, 1, 1, 1, 1, 1, 1, 1, 70000);
    }

    static long[] status(MarkTreaties x) {
        long[] told = new long[7];
        for (int which = 0; which < 7; which++) {
            told[which] = x.status(which);
        }
        return told;
    }

    /** All that can be told of an object, in the end by using it up. */
    static List<Long> told(MarkTreaties x) {
        List<Long> all = new ArrayList<>();
        chancellery(x, all);
        for (int s = 0; s < 4; s++) {
            all.add((long) x.load(s));
            for (int t = 0; t < x.count(1); t++) {
                all.add((long) x.of(t, 3));
            }
            all.add((long) x.write(s, 2, 0));
            all.add((long) x.write(s, 8, 0));
            all.add((long) x.copy(0, 0, s, 0, 0));
            all.add((long) x.copy(3, 0, s, 0, 0));
        }
        all.add((long) x.undo());
        chancellery(x, all);
        all.add((long) x.text());
        all.add((long) x.seen(1));
        return all;
    }

    private static void chancellery(MarkTreaties x, List<Long> all) {
        for (int what = 0; what < 8; what++) {
            all.add((long) x.count(what));
            all.add((long) x.now(what));
        }
        for (int i = 0; i < 6; i++) {
            all.add((long) x.listed(i));
        }
        all.add((long) x.seen(0));
        all.add((long) x.seen(1));
        for (int t = 0; t < x.count(1); t++) {
            for (int what = 0; what < 8; what++) {
                all.add((long) x.of(t, what));
            }
        }
        for (int spot = 0; spot < 10; spot++) {
            all.add((long) x.as(spot, 0));
        }
    }
}
