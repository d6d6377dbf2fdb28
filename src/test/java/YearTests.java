/** Promises 10 to 17 and the years of the second term. */
public final class YearTests {
    private static final Due due = new Due();

    public static void main(String[] args) {
        events();
        breaking();
        holding();
        fading();
        renewing();
        limits();
        go();
        lastYear();
        now();
        ahead();
        gold();
        breaks();
        warAndPeace();
        when();
        due.end();
    }

    private static void events() {
        MarkTreaties x = Due.from("event 0 3; event 1 3; event 2 11; event 5 0; up 1");
        long[] ups = {9, 1, 2049, 2049, 2049, 2048, 2056, 2048, 0};
        for (int i = 0; i < ups.length; i++) {
            x.go(1);
            due.is("10 up behind " + (i + 1), x.seen(1), ups[i]);
        }
    }

    private static void breaking() {
        MarkTreaties x = Due.from("treaty 0 1 mark 1 held 4; trade 0 1 mark 3; event 0 0; event 1 1");
        x.change(0, 6, 77);
        due.is("10 breaks", x.go(1), 2);
        long[] broken = {0, 0, 1, 1, 0, 0, 0, 1};
        for (int what = 0; what < 8; what++) {
            due.is("10 broken " + what, x.of(0, what), broken[what]);
        }
        due.is("10 gold of the other alone", x.now(2), 3);
        due.is("10 more than a trade bears", x.go(1), 0);
        due.is("10 no gold then", x.now(2), 3);
        due.is("10 waits a year behind", x.of(0, 6), 1);
        due.is("10 no year waited in the one it broke in", x.of(1, 6), 0);
        MarkTreaties d = Due.from("dynasty 0 1 mark 2051; dynasty 0 1 mark 7; up 3; event 0 11; event 1 2");
        due.is("10 eleven breaks a dynasty", d.go(1), 2);
        due.is("10 three break one", d.go(1), 0);
    }

    private static void holding() {
        MarkTreaties x = Due.from("treaty 0 1; peace 0 1; peace 0 1 mark 0; trade 0 1 mark 7; lease 0 1 mark 7");
        x.go(1);
        due.is("10 yields", x.now(2), 1 + 1 + 2 + 4 + 6);
        due.is("10 held", x.of(4, 5), 1);
        x = Due.from("dynasty 0 1 mark 7; blank 0 1 mark 7; truce 0 1 mark 7");
        x.go(1);
        due.is("10 yields of the others", x.now(2), 12);
        x = Due.from("peace 0 1 mark 1 held 9; peace 0 1 mark 1 held 10; up 1");
        due.is("10 a peace bears one from 10 on", x.go(1), 2);
        x = Due.from("trade 0 1 mark 3 held 14");
        x.go(1);
        due.is("10 yields what its mark had ahead of fading", x.now(2), 3);
        due.is("10 faded", x.of(0, 3), 1);
    }

    private static void fading() {
        int[] every = {20, 40, 15, 15, 0, 1, 3};
        for (int kind = 0; kind < 7; kind++) {
            MarkTreaties x = Due.from(Model.WORDS[kind] + " 0 1 mark 2051");
            for (int year = 1; year <= 60; year++) {
                x.go(1);
                int gone = every[kind] == 0 ? 0 : Math.min(3, year / every[kind]);
                int[] marks = {2051, 3, 1, 0};
                due.is("10 fades, kind " + kind + " year " + year, x.of(0, 3), marks[gone]);
            }
        }
        MarkTreaties x = Due.from("truce 0 1 mark 7 held 9999");
        x.go(2);
        due.is("10 held stays a multiple", x.of(0, 3), 1);
        due.is("10 held at most", x.of(0, 5), 9999);
    }

    private static void renewing() {
        int[] after = {5, 10, 3, 3, 0, 6, 1};
        for (int kind = 0; kind < 7; kind++) {
            MarkTreaties x = Due.from(Model.WORDS[kind] + " 0 1 mark 9 held 8 torn; yard 6");
            for (int year = 1; year <= 12; year++) {
                x.go(1);
                boolean renewed = after[kind] > 0 && year >= after[kind];
                due.is("10 renews, kind " + kind + " year " + year, x.of(0, 4), renewed ? 1 : 0);
                if (!renewed) {
                    due.is("10 waits", x.of(0, 6), year);
                    due.is("10 mark waits", x.of(0, 3), 9);
                    due.is("10 held waits", x.of(0, 5), 8);
                } else if (year == after[kind]) {
                    due.is("10 new mark", x.of(0, 3), 6);
                    due.is("10 new held", x.of(0, 5), 0);
                    due.is("10 new waits", x.of(0, 6), 0);
                    due.is("10 no gold yet", x.now(2), 0);
                }
            }
        }
        MarkTreaties x = Due.from("treaty 0 1 torn");
        x.change(0, 6, 50);
        due.is("10 waited more than it must", x.go(1), 1);
        x = Due.from("treaty 0 1 torn; up 1");
        x.change(0, 6, 4);
        due.is("10 renewed however many are up", x.go(1), 1);
        due.is("10 and breaks the year behind", x.go(1), 0);
    }

    private static void limits() {
        MarkTreaties x = Due.from("treaty 0 1 mark 1; dynasty 0 1 torn; up 1");
        x.change(0, 7, 9999);
        x.change(1, 6, 9999);
        x.go(1);
        due.is("10 broken at most", x.of(0, 7), 9999);
        due.is("10 waits at most", x.of(1, 6), 9999);
        MarkTreaties rich = new MarkTreaties();
        rich.set(0, 4095);
        for (int t = 0; t < 8; t++) {
            rich.treaty(4, 0, 1);
        }
        for (int i = 0; i < 6; i++) {
            rich.go(60);
        }
        due.is("10 gold", rich.now(2), 360 * 8 * 30);
        due.is("13 gold at most", rich.gold(100), 99999);
        due.is("22 gold at most", rich.tear(99999, 20), 0);
        rich.go(60);
        due.is("10 gold at most", rich.now(2), 99999);
        due.is("18 all as much", rich.yardFor(60), 0);
    }

    private static void go() {
        MarkTreaties x = Due.from("treaty 0 1; truce 0 1 torn; dynasty 0 1 torn");
        due.is("10 n 0", x.go(0), Due.BEYOND);
        due.is("10 n below", x.go(-1), Due.BEYOND);
        due.is("10 n above", x.go(61), Due.BEYOND);
        due.is("10 findings pass no year", x.now(0), 0);
        due.is("10 set", x.go(60), 3);
        due.is("10 year", x.now(0), 60);
    }

    /** More calls than an object promises to answer: there is no other way to the last year. */
    private static void lastYear() {
        MarkTreaties x = Due.from("treaty 0 1");
        for (int i = 0; i < 1666; i++) {
            x.go(60);
        }
        due.is("10 above the last year", x.go(40), Due.STATE);
        due.is("10 beyond is asked first", x.go(61), Due.BEYOND);
        due.is("10 findings pass no year", x.now(0), 99960);
        due.is("25 to the year ahead of the last", x.wakings(20), 1);
        due.is("25 above the last year", x.wakings(20), Due.STATE);
        due.is("25 beyond is asked first", x.wakings(21), Due.BEYOND);
        x.image();
        due.is("10 to the last year", x.go(19), 1);
        x.undo();
        x.go(18);
        due.is("25 to the last year", x.wakings(1), x.now(1));
        due.is("10 the last year", x.now(0), 99999);
        due.is("10 no more", x.go(1), Due.STATE);
        due.is("25 no more", x.wakings(1), Due.STATE);
        due.is("42 states", x.status(4), 4);
        // Asked beyond the last year, that year's event comes over and over.
        Due.read(x, "treaty 2 3 mark 8; event 0 12; event 1 12; event 2 12; event 3 3; event 4 12; event 5 12; up 0");
        due.is("12 beyond the last year", x.ahead(1, 7, 1), 1);
        due.is("20 beyond the last year", x.strike(1, 3), 8);
    }

    private static void now() {
        MarkTreaties x = Due.from("treaty 0 1 mark 3 held 5; lease 1 2 mark 12 held 5; trade 3 4 mark 16 held 9 torn");
        x.set(1, 1);
        x.change(0, 7, 3);
        x.change(2, 7, 4);
        long[] told = {0, 3, 0, 7, 1, 1, 15, 0};
        for (int what = 0; what < 8; what++) {
            due.is("11 what " + what, x.now(what), told[what]);
        }
        x.change(1, 5, 6);
        due.is("11 held longest", x.now(7), 1);
        x.set(1, 31);
        due.is("11 would break", x.now(5), 1);
        x.change(0, 4, 0);
        x.change(1, 4, 0);
        due.is("11 none in force", x.now(7), -1);
        due.is("11 none would break", x.now(5), 0);
        due.is("11 pairs", x.now(4), 3);
        due.is("11 no marks in force", x.now(6), 0);
        due.is("11 above", x.now(8), Due.BEYOND);
        due.is("11 below", x.now(-1), Due.BEYOND);
        due.is("11 -1 is no finding", x.status(-1), 2);
    }

    private static void ahead() {
        MarkTreaties x = Due.from("trade 0 1 mark 7; treaty 0 1 mark 1; yard 2; event 2 0");
        due.is("12 mark now", x.ahead(0, 3, 0), 7);
        due.is("12 mark faded", x.ahead(0, 3, 15), 3);
        due.is("12 yields", x.ahead(0, 10, 15), 3);
        due.is("12 in force", x.ahead(1, 4, 2), 1);
        due.is("12 broken", x.ahead(1, 4, 3), 0);
        due.is("12 held", x.ahead(1, 5, 2), 2);
        due.is("12 waits", x.ahead(1, 6, 5), 2);
        due.is("12 how often", x.ahead(1, 7, 3), 1);
        due.is("12 renewed", x.ahead(1, 3, 8), 2);
        due.is("12 far", x.ahead(1, 5, 100), 92);
        due.is("12 what 2", x.ahead(0, 2, 0), Due.BEYOND);
        due.is("12 what 8", x.ahead(0, 8, 0), Due.BEYOND);
        due.is("12 what 9", x.ahead(0, 9, 0), Due.BEYOND);
        due.is("12 what 11", x.ahead(0, 11, 0), Due.BEYOND);
        due.is("12 n above", x.ahead(0, 3, 101), Due.BEYOND);
        due.is("12 n below", x.ahead(0, 3, -1), Due.BEYOND);
        due.is("12 treaty", x.ahead(2, 3, 0), Due.BEYOND);
        due.is("12 nothing changes", x.of(1, 5) + x.now(0) + x.seen(1), 0);
    }

    private static void gold() {
        MarkTreaties x = Due.from("lease 0 1 mark 3; treaty 0 1 mark 1; event 2 0");
        due.is("13 now", x.gold(0), 0);
        due.is("13 one", x.gold(1), 6);
        due.is("13 three", x.gold(3), 17);
        due.is("13 above", x.gold(101), Due.BEYOND);
        due.is("13 below", x.gold(-1), Due.BEYOND);
        due.is("13 nothing changes", x.now(2), 0);
    }

    private static void breaks() {
        MarkTreaties x = Due.from("treaty 0 1 mark 4; blank 0 1 mark 4; treaty 0 1 mark 4; yard 4; event 3 2");
        due.is("14 year", x.breaks(0), 4);
        due.is("14 never", x.breaks(1), Due.NONE);
        x.change(2, 7, 9999);
        due.is("14 at most already", x.breaks(2), Due.NONE);
        due.is("14 treaty", x.breaks(3), Due.BEYOND);
        due.is("14 below", x.breaks(-1), Due.BEYOND);
        x.set(1, 4);
        due.is("14 at once", x.breaks(0), 1);
        due.is("14 nothing changes", x.of(0, 7), 0);
        // Broken now, renewed behind 5 years, broken again when its new figure is up.
        MarkTreaties y = Due.from("treaty 0 1 torn; yard 4; event 3 2");
        due.is("14 one that is renewed first", y.breaks(0), 6);
    }

    private static void warAndPeace() {
        MarkTreaties x = Due.from("treaty 0 1 mark 4; trade 1 0 mark 12; yard 0; event 1 2; event 2 3");
        due.is("15 one of two still holds", x.war(0, 1), 3);
        due.is("15 either way", x.war(1, 0), 3);
        due.is("15 no treaty", x.war(0, 2), Due.NONE);
        due.is("15 same", x.war(2, 2), Due.BEYOND);
        due.is("15 above", x.war(0, 6), Due.BEYOND);
        due.is("15 below", x.war(-1, 0), Due.BEYOND);
        due.is("16 now", x.peace(), 0);
        x.go(3);
        due.is("15 at war", x.war(0, 1), 0);
        due.is("16 the trade is renewed", x.peace(), 3);
        Due.read(x, "dynasty 3 4 torn");
        due.is("16 never", x.peace(), Due.NONE);
        due.is("15 nothing changes", x.now(0), 3);
        due.is("16 no treaties", new MarkTreaties().peace(), 0);
        due.is("16 a first question", Due.from("trade 0 5 torn").peace(), 3);
        MarkTreaties torn = Due.from("trade 0 5");
        torn.change(0, 4, 0);
        due.is("16 as it is by now", torn.peace(), 3);
        due.is("15 a first question", Due.from("trade 0 5; up 3; yard 3; event 1 1").war(0, 5), Due.NONE);
        due.is("15 the last power", Due.from("trade 0 5 mark 3; up 1; event 1 1").war(0, 5), 2);
    }

    private static void when() {
        MarkTreaties x = Due.from("treaty 0 1 mark 0 held 7; dynasty 0 1 held 3 torn");
        due.is("17 now", x.when(0, 7), 0);
        due.is("17 next", x.when(0, 8), 1);
        due.is("17 last", x.when(0, 207), 200);
        due.is("17 never", x.when(0, 208), Due.NONE);
        due.is("17 torn", x.when(1, 3), 0);
        due.is("17 torn never", x.when(1, 4), Due.NONE);
        due.is("17 v above", x.when(0, 10000), Due.BEYOND);
        due.is("17 v below", x.when(0, -1), Due.BEYOND);
        due.is("17 treaty", x.when(2, 0), Due.BEYOND);
        due.is("17 most", x.when(0, 9999), Due.NONE);
        due.is("17 nothing changes", x.of(0, 5), 7);
        // Broken in year 3, renewed in year 8 on a yard that sleeps.
        MarkTreaties y = Due.from("treaty 0 1 mark 1; yard 2; event 2 0");
        due.is("17 ahead of a break", y.when(0, 2), 2);
        due.is("17 behind a break", y.when(0, 3), 11);
    }
}
