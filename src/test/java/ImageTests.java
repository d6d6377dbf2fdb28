/** Promises 38 to 42: images, counts, status. */
public final class ImageTests {
    private static final Due due = new Due();

    public static void main(String[] args) {
        imageAndUndo();
        undoneTreaties();
        forget();
        count();
        status();
        due.end();
    }

    private static void imageAndUndo() {
        MarkTreaties x = Due.from("treaty 0 1 mark 3 held 4; yard 6; event 2 2");
        x.go(3);
        x.seed(99);
        x.hold(4, 0);
        due.is("38 kept", x.image(), 1);
        x.feed('u', 1);
        x.sheet(0, 8, 2);
        x.treaty(1, 2, 3);
        x.change(0, 0, 5);
        x.change(0, 3, 8);
        x.event(2, 7);
        x.set(0, 1);
        x.set(1, 5);
        x.hold(4, 1);
        x.hold(5, 1);
        x.wakings(2);
        due.is("39 year", x.undo(), 3);
        due.is("39 treaties", x.count(1), 1);
        due.is("39 kind", x.of(0, 0), 0);
        due.is("39 mark", x.of(0, 3), 3);
        due.is("39 held", x.of(0, 5), 7);
        due.is("39 gold", x.now(2), 3);
        due.is("39 list", x.listed(2), 2);
        due.is("39 yard", x.seen(0), 6);
        due.is("39 up", x.seen(1), 4);
        due.is("39 z", x.count(6), 99);
        due.is("39 spots", x.as(4, 0), 0);
        due.is("39 count of spots", x.count(7), 1);
        due.is("39 the tape stays", x.count(5), 1);
        due.is("39 sheets stay", x.write(0, 1, 3), 1);
        x.go(5);
        due.is("39 it stays kept", x.undo(), 3);
        x.go(5);
        due.is("38 latest", x.image(), 1);
        x.go(1);
        due.is("39 latest", x.undo(), 8);
        x.change(0, 5, 4);
        x.undo();
        due.is("39 what is kept changes with nothing", x.of(0, 5), 12);
    }

    private static void undoneTreaties() {
        MarkTreaties x = Due.from("treaty 0 1 mark 2 torn");
        x.image();
        Due.read(x, "treaty 2 3 mark 1 held 9; lease 4 5 torn; up 1");
        x.change(1, 7, 5);
        x.change(2, 7, 5);
        x.undo();
        x.set(1, 1);
        long[] told = {0, 0, 0, 0, 1, 0, 0, -1};
        for (int what = 0; what < 8; what++) {
            due.is("39 none of those that are no more, " + what, x.now(what), told[what]);
        }
        due.is("39 broken", x.count(4), 0);
        due.is("39 no war", x.wars(4), 0);
        due.is("39 no gold", x.gold(3), 0);
        due.is("39 no such treaty", x.of(1, 0), Due.BEYOND);
        Due.row(x, 0, 8, 4, 4);
        due.is("39 one to load", x.load(0), 1);
        due.is("39 one to judge", x.judge(0), 1);
    }

    private static void forget() {
        MarkTreaties x = new MarkTreaties();
        due.is("39 nothing kept", x.undo(), Due.NONE);
        due.is("40 nothing kept", x.forget(), 0);
        x.image();
        x.go(1);
        due.is("40 forgets", x.forget(), 1);
        due.is("40 forgot", x.forget(), 0);
        due.is("39 nothing kept then", x.undo(), Due.NONE);
        due.is("40 changes nothing", x.now(0), 1);
    }

    private static void count() {
        MarkTreaties x = Due.from("treaty 0 1; trade 0 2 mark 3; lease 0 3 torn; dynasty 0 3 torn");
        x.change(0, 7, 5);
        x.change(3, 7, 6);
        x.hold(0, 1);
        x.hold(9, 1);
        x.feed('u', 1);
        x.go(2);
        long[] told = {2, 4, 2, 2 + 6, 11, 1, 1, 2};
        for (int what = 0; what < 8; what++) {
            due.is("41 what " + what, x.count(what), told[what]);
        }
        due.is("41 above", x.count(8), Due.BEYOND);
        due.is("41 below", x.count(-1), Due.BEYOND);
    }

    private static void status() {
        MarkTreaties x = Due.from("treaty 0 1");
        due.is("42 none", x.status(-1), 0);
        x.image();
        x.seen(2);
        x.odds(1, 0, 0);
        for (int i = 0; i < 31; i++) {
            x.feed(0x20202020, 4);
        }
        x.hold(0, 0);
        x.as(0, 1);
        x.breaks(0);
        x.load(0);
        x.load(1);
        x.sheet(0, 0, -1);
        long[] told = {2, 1, 1, 1, 0, 2, 1};
        for (int which = 0; which < 7; which++) {
            due.is("42 which " + which, x.status(which), told[which]);
        }
        due.is("42 all", x.status(-1), 8);
        x.undo();
        due.is("42 undo takes none back", x.status(-1), 8);
        due.is("42 above", x.status(7), Due.BEYOND);
        due.is("42 counted from then on", x.status(0), 3);
        due.is("42 below", x.status(-2), Due.BEYOND);
        due.is("42 all then", x.status(-1), 10);
        x.forget();
        x.image();
        due.is("42 forget takes none back", x.status(-1), 10);
    }
}
