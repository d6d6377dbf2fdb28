/** Promises 18 to 22: how to keep the peace. */
public final class PeaceTests {
    private static final Due due = new Due();

    public static void main(String[] args) {
        yardFor();
        kindFor();
        strike();
        lull();
        tear();
        due.end();
    }

    private static void yardFor() {
        MarkTreaties x = Due.from("trade 0 1 torn; treaty 0 2 torn; up 6; event 3 0; event 5 1");
        // Behind 3 years the trade is renewed, behind 5 the treaty. The treaty breaks with 1 until year 6, with 2.
        due.is("18 none brings more", x.yardFor(3), 0);
        due.is("18 none better for the trade alone", x.yardFor(5), 0);
        due.is("18 0 gets up, 1 has lain down", x.yardFor(6), 1);
        due.is("18 now", x.yardFor(0), 0);
        due.is("18 above", x.yardFor(61), Due.BEYOND);
        due.is("18 below", x.yardFor(-1), Due.BEYOND);
        due.is("18 nothing changes", x.seen(0), 1);
        MarkTreaties y = Due.from("treaty 0 1 torn; up 1023");
        due.is("18 the first that sleeps", y.yardFor(6), 10);
    }

    private static void kindFor() {
        MarkTreaties x = Due.from("treaty 0 1 mark 3; yard 3; up 1; event 1 1");
        due.is("19 one up", x.kindFor(0, 1), 2);
        due.is("19 two up", x.kindFor(0, 2), 3);
        due.is("19 now", x.kindFor(0, 0), 0);
        due.is("19 most years", x.kindFor(0, 60), 3);
        x.change(0, 3, 2055);
        x.set(1, 2051);
        due.is("19 three up at once", x.kindFor(0, 1), 5);
        due.is("19 above", x.kindFor(0, 61), Due.BEYOND);
        due.is("19 below", x.kindFor(0, -1), Due.BEYOND);
        due.is("19 treaty", x.kindFor(1, 0), Due.BEYOND);
        due.is("19 nothing changes", x.of(0, 0), 0);
        x.change(0, 4, 0);
        due.is("19 broken already", x.kindFor(0, 1), 0);
    }

    private static void strike() {
        MarkTreaties x = Due.from("treaty 0 1 mark 7; trade 0 1 mark 7; event 0 1; event 1 2");
        due.is("20 now", x.strike(0, 0), 4095);
        due.is("20 the one that gets up", x.strike(0, 1), 2);
        due.is("20 two get up", x.strike(0, 2), 0);
        due.is("20 one of two is borne", x.strike(1, 2), 6);
        due.is("20 none need be struck", x.strike(1, 1), 4095);
        due.is("20 most years", Due.from("blank 0 1").strike(0, 60), 4095);
        due.is("20 above", x.strike(0, 61), Due.BEYOND);
        due.is("20 below", x.strike(0, -1), Due.BEYOND);
        due.is("20 treaty", x.strike(2, 0), Due.BEYOND);
        due.is("20 nothing changes", x.of(0, 3), 7);
        x.change(0, 4, 0);
        due.is("20 not in force", x.strike(0, 0), 0);
    }

    private static void lull() {
        MarkTreaties x = Due.from("treaty 0 1 mark 6; trade 0 1 mark 56; yard 0; event 0 3; event 1 4; event 2 2");
        due.is("21 now", x.lull(0), 0);
        due.is("21 one is borne", x.lull(1), 0);
        due.is("21 the least of two", x.lull(2), 8);
        due.is("21 two", x.lull(3), 12);
        x.set(1, 2);
        due.is("21 one that is up", x.lull(1), 2);
        due.is("21 above", x.lull(13), Due.BEYOND);
        due.is("21 below", x.lull(-1), Due.BEYOND);
        due.is("21 nothing changes", x.seen(1) + x.listed(0), 5);
        // Up already, it would lie down in the first year: lulled, it is not told and sleeps.
        MarkTreaties y = Due.from("treaty 0 1 mark 1; up 1; event 0 0");
        due.is("21 it lies down by itself", y.lull(6), 0);
        due.is("21 and gets up again", y.lull(7), 1);
        MarkTreaties d = Due.from("dynasty 0 1 mark 2055; up 2053");
        due.is("21 eleven alone", d.lull(12), 2048);
        d.set(1, 7);
        due.is("21 one of three", d.lull(12), 1);
        // Until the year in which 1 gets up it has held for 10 years, whether 0 is up or not: then it bears one.
        MarkTreaties old = Due.from("peace 0 1 mark 3 held 4; up 1; event 1 0; event 5 0; event 4 1; yard 0");
        due.is("21 up at once", old.lull(1), 1);
        due.is("21 both", old.lull(5), 3);
        due.is("21 one is borne from 10 on", Due.from("peace 0 1 mark 1 held 4; event 5 0").lull(6), 1);
        due.is("21 borne from 10 on", Due.from("peace 0 1 mark 1 held 5; event 5 0").lull(12), 0);
        MarkTreaties many = Due.from("up 4095");
        for (int t = 0; t < 8; t++) {
            many.treaty(4, 0, 1);
            many.change(t, 3, t < 7 ? 2048 + 7 : 56);
        }
        due.is("21 as many as can weigh", many.lull(12), 2048 + 8 + 1);
        MarkTreaties all = Due.from("treaty 0 1 mark 4095; up 4095");
        due.is("21 all", all.lull(1), 4095);
        // A break that BROKEN can't tell any more is one, too.
        MarkTreaties worn = Due.from("treaty 0 1 mark 1; up 1");
        worn.change(0, 7, 9999);
        due.is("21 broken at most", worn.lull(1), 1);
        // Renewed on a yard that is up, it would break.
        MarkTreaties later = Due.from("truce 0 1 torn; yard 15; up 7");
        due.is("21 renewed", later.lull(1), 0);
        due.is("21 renewed, then broken", later.lull(2), 1);
    }

    private static void tear() {
        MarkTreaties x = Due.from("treaty 0 1; lease 0 1 mark 3; dynasty 0 1 mark 0; lease 0 1 mark 3");
        due.is("22 now", x.tear(0, 0), 0);
        due.is("22 all that they bring", x.tear(17, 1), 0);
        due.is("22 the least alone", x.tear(16, 1), 1);
        due.is("22 one of more", x.tear(13, 1), 2);
        due.is("22 the dynasty", x.tear(11, 1), 4);
        due.is("22 two", x.tear(10, 1), 5);
        due.is("22 all", x.tear(0, 1), 15);
        due.is("22 leases are renewed", x.tear(0, 4), Due.NONE);
        due.is("22 the dynasty is not", x.tear(68 - 24, 4), 4);
        due.is("22 with a lease, renewed on the yard", x.tear(68 - 24 - 16, 4), 6);
        due.is("22 v above", x.tear(100000, 0), Due.BEYOND);
        due.is("22 v below", x.tear(-1, 0), Due.BEYOND);
        due.is("22 n above", x.tear(0, 21), Due.BEYOND);
        due.is("22 n below", x.tear(0, -1), Due.BEYOND);
        due.is("22 nothing changes", x.now(1), 15);
        MarkTreaties waiting = Due.from("trade 0 1 mark 0 torn; yard 0");
        waiting.change(0, 6, 2);
        due.is("22 brings gold from its renewal on", waiting.tear(1, 2), 0);
        due.is("22 torn again it waits again", waiting.tear(0, 2), 1);
        MarkTreaties eight = new MarkTreaties();
        for (int t = 0; t < 8; t++) {
            eight.treaty(0, 0, 1);
        }
        due.is("22 all of eight", eight.tear(0, 5), 255);
        due.is("22 seven of eight", eight.tear(5, 5), 127);
        // The trade breaks in its second year; torn, it is renewed in the third, and brings nothing till then.
        MarkTreaties events = Due.from("trade 0 1 mark 12; yard 12; event 0 2; event 1 3; lease 2 3 mark 0");
        due.is("22 a year of it, all of the lease", events.tear(3 + 9, 3), 0);
        due.is("22 it alone", events.tear(9, 3), 1);
        due.is("22 the lease, too", events.tear(0, 3), 3);
        waiting.go(2);
        due.is("22 gold there already", waiting.tear(0, 0), Due.NONE);
    }
}
