/** Promises 1 to 9: a new object, the chancellery, treaties, wars. */
public final class TreatyTests {
    private static final Due due = new Due();

    public static void main(String[] args) {
        newObject();
        setAndSeen();
        eventAndListed();
        treaty();
        kindsOf();
        change();
        wars();
        due.end();
    }

    private static void newObject() {
        MarkTreaties x = new MarkTreaties();
        due.is("1 yard", x.seen(0), 1);
        due.is("1 up", x.seen(1), 0);
        for (int i = 0; i < 6; i++) {
            due.is("1 listed", x.listed(i), 12);
        }
        long[] counts = {0, 0, 0, 0, 0, 0, 1, 0};
        for (int what = 0; what < 8; what++) {
            due.is("1 count " + what, x.count(what), counts[what]);
        }
        due.is("1 status", x.status(-1), 0);
        due.is("1 no image", x.undo(), Due.NONE);
        for (int s = 0; s < 4; s++) {
            due.is("1 sheet", x.load(s), Due.MISSING);
        }
        for (int spot = 0; spot < 10; spot++) {
            due.is("1 spot", x.as(spot, 0), Due.MISSING);
        }
    }

    private static void setAndSeen() {
        MarkTreaties x = new MarkTreaties();
        due.is("2 yard was", x.set(0, 4095), 1);
        due.is("2 up was", x.set(1, 2), 0);
        due.is("2 yard was then", x.set(0, 0), 4095);
        due.is("2 up was then", x.set(1, 4095), 2);
        due.is("3 yard", x.seen(0), 0);
        due.is("3 up", x.seen(1), 4095);
        due.is("2 what -1", x.set(-1, 0), Due.BEYOND);
        due.is("2 what 2", x.set(2, 0), Due.BEYOND);
        due.is("2 above", x.set(0, 4096), Due.BEYOND);
        due.is("2 below", x.set(1, -1), Due.BEYOND);
        due.is("3 what -1", x.seen(-1), Due.BEYOND);
        due.is("3 what 2", x.seen(2), Due.BEYOND);
        due.is("2 findings change nothing", x.seen(0) + x.seen(1), 4095);
    }

    private static void eventAndListed() {
        MarkTreaties x = new MarkTreaties();
        due.is("4 was", x.event(0, 0), 12);
        due.is("4 was then", x.event(0, 11), 0);
        due.is("4 last", x.event(5, 7), 12);
        due.is("5 first", x.listed(0), 11);
        due.is("5 last", x.listed(5), 7);
        due.is("4 place", x.event(6, 0), Due.BEYOND);
        due.is("4 place below", x.event(-1, 0), Due.BEYOND);
        due.is("4 figure", x.event(0, 13), Due.BEYOND);
        due.is("4 figure below", x.event(0, -1), Due.BEYOND);
        due.is("5 place", x.listed(6), Due.BEYOND);
        due.is("5 place below", x.listed(-1), Due.BEYOND);
        due.is("4 findings change nothing", x.listed(0), 11);
        due.is("4 nothing", x.event(0, 12), 11);
    }

    private static void treaty() {
        MarkTreaties x = new MarkTreaties();
        x.set(0, 6);
        due.is("6 number", x.treaty(3, 5, 2), 0);
        x.set(0, 7);
        long[] first = {3, 5, 2, 6, 1, 0, 0, 0};
        for (int what = 0; what < 8; what++) {
            due.is("6 what " + what, x.of(0, what), first[what]);
        }
        due.is("6 kind below", x.treaty(-1, 0, 1), Due.BEYOND);
        due.is("6 kind above", x.treaty(7, 0, 1), Due.BEYOND);
        due.is("6 first", x.treaty(0, 6, 1), Due.BEYOND);
        due.is("6 other", x.treaty(0, 1, -1), Due.BEYOND);
        due.is("6 same", x.treaty(0, 1, 1), Due.BEYOND);
        for (int t = 1; t < 8; t++) {
            due.is("6 next", x.treaty(t - 1, t % 5, 5), t);
        }
        due.is("6 full", x.treaty(0, 0, 1), Due.FULL);
        due.is("6 beyond is asked first", x.treaty(0, 0, 0), Due.BEYOND);
        due.is("6 findings make none", x.count(1), 8);
        MarkTreaties again = new MarkTreaties();
        again.image();
        again.treaty(1, 2, 3);
        for (int what = 3; what < 8; what++) {
            again.change(0, what, what == 4 ? 0 : 99);
        }
        again.undo();
        again.treaty(2, 3, 4);
        long[] fresh = {2, 3, 4, 1, 1, 0, 0, 0};
        for (int what = 0; what < 8; what++) {
            due.is("6 none of one that is no more, " + what, again.of(0, what), fresh[what]);
        }
    }

    private static void kindsOf() {
        long[][] asleep = {
            {0, 20, 1, 5}, {0, 40, 1, 10}, {1, 15, 3, 3}, {2, 15, 5, 3}, {2, 0, 10, 0}, {12, 1, 0, 6}, {2, 3, 0, 1}};
        for (int kind = 0; kind < 7; kind++) {
            MarkTreaties x = new MarkTreaties();
            x.set(0, 2050);
            x.treaty(kind, 0, 1);
            for (int i = 0; i < 4; i++) {
                due.is("7 kind " + kind + " what " + (8 + i), x.of(0, 8 + i), asleep[kind][i]);
            }
        }
        MarkTreaties x = Due.from("dynasty 0 1 mark 2051; peace 0 1 mark 0; truce 0 1 held 9");
        due.is("7 up of mark", x.of(0, 12), 0);
        x.set(1, 2050);
        due.is("7 up of mark then", x.of(0, 12), 2);
        due.is("7 eleven up", x.of(0, 8), 0);
        x.set(1, 3);
        due.is("7 eleven asleep", x.of(0, 8), 2);
        x.change(0, 3, 3);
        x.set(1, 2048);
        due.is("7 eleven not in the mark", x.of(0, 8), 2);
        due.is("7 empty peace yields", x.of(1, 10), 2);
        due.is("7 young truce", x.of(2, 8), 2);
        x.change(2, 5, 10);
        due.is("7 old truce", x.of(2, 8), 3);
        x.change(1, 5, 9);
        due.is("7 young peace", x.of(1, 8), 0);
        x.change(1, 5, 10);
        due.is("7 old peace", x.of(1, 8), 1);
        due.is("7 no treaty", x.of(3, 0), Due.BEYOND);
        due.is("7 no treaty below", x.of(-1, 0), Due.BEYOND);
        due.is("7 what above", x.of(0, 13), Due.BEYOND);
        due.is("7 what below", x.of(0, -1), Due.BEYOND);
    }

    private static void change() {
        MarkTreaties x = Due.from("trade 2 3 mark 5 held 7");
        int[] was = {2, 2, 3, 5, 1, 7, 0, 0};
        int[] most = {6, 5, 4, 4095, 1, 9999, 9999, 9999};
        for (int what = 0; what < 8; what++) {
            due.is("8 above " + what, x.change(0, what, what == 2 ? 6 : most[what] + 1), Due.BEYOND);
            due.is("8 below " + what, x.change(0, what, -1), Due.BEYOND);
            due.is("8 was " + what, x.change(0, what, most[what]), was[what]);
            due.is("8 is " + what, x.of(0, what), most[what]);
        }
        due.is("8 first as other", x.change(0, 1, 4), Due.BEYOND);
        due.is("8 other as first", x.change(0, 2, 5), Due.BEYOND);
        due.is("8 first as it is", x.change(0, 1, 5), 5);
        due.is("8 other as it is", x.change(0, 2, 4), 4);
        due.is("8 least", x.change(0, 4, 0), 1);
        due.is("8 waits stay", x.of(0, 6), 9999);
        due.is("8 what", x.change(0, 8, 0), Due.BEYOND);
        due.is("8 what below", x.change(0, -1, 0), Due.BEYOND);
        due.is("8 treaty", x.change(1, 0, 0), Due.BEYOND);
    }

    private static void wars() {
        MarkTreaties x = Due.from("treaty 0 1 torn; treaty 1 0; lease 2 0 torn; truce 0 5 torn; blank 5 0 torn");
        due.is("9 set", x.wars(0), 36);
        due.is("9 one holds", x.wars(1), 0);
        due.is("9 either side", x.wars(2), 1);
        due.is("9 two torn", x.wars(5), 1);
        due.is("9 no treaties", x.wars(3), 0);
        x.change(1, 4, 0);
        due.is("9 none holds", x.wars(0), 38);
        due.is("9 power", x.wars(6), Due.BEYOND);
        due.is("9 power below", x.wars(-1), Due.BEYOND);
    }
}
