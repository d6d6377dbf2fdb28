/**
 * Promises 1 to 42, one method each: what is answered at the ends of what may be asked (the least, the most, empty,
 * full, the first and the last year). What is refused stands in RefusalTests, the limits of Terms in TermsTests.
 */
public final class EdgeTests {
    private static final Due due = new Due();

    public static void main(String[] args) {
        newObject();
        set();
        seen();
        event();
        listed();
        treaty();
        of();
        change();
        wars();
        go();
        now();
        ahead();
        gold();
        breaks();
        war();
        peace();
        when();
        yardFor();
        kindFor();
        strike();
        lull();
        tear();
        fits();
        kinds();
        wakings();
        odds();
        seed();
        feed();
        wipe();
        text();
        hold();
        as();
        sheet();
        write();
        copy();
        load();
        judge();
        image();
        undo();
        forget();
        count();
        status();
        due.end();
    }

    private static void newObject() {
        MarkTreaties x = new MarkTreaties();
        long[] told = {0, 0, 0, 0, 0, 0, 0, -1};
        for (int what = 0; what < 8; what++) {
            due.is("1 now " + what, x.now(what), told[what]);
        }
        for (int power = 0; power < 6; power++) {
            due.is("1 no wars", x.wars(power), 0);
        }
        due.is("1 no treaties", x.of(0, 0), Due.BEYOND);
        due.is("1 no image", x.forget(), 0);
        due.is("1 the tape is empty", x.wipe(), 0);
        due.is("1 an empty text", x.text(), -1);
        due.is("1 peace", x.peace(), 0);
        due.is("1 gold", x.gold(100), 0);
        due.is("1 nothing to lull", x.lull(12), 0);
        due.is("1 nothing to tear", x.tear(0, 20), 0);
        due.is("1 all yards do", x.yardFor(60), 0);
        due.is("1 z", x.seed(5), 1);
        due.is("1 years without treaties", x.go(60), 0);
        MarkTreaties other = new MarkTreaties();
        due.is("1 another object begins by itself", other.now(0), 0);
        due.is("1 and has a z of its own", other.count(6), 1);
    }

    private static void set() {
        MarkTreaties x = new MarkTreaties();
        due.is("2 the least yard", x.set(0, 0), 1);
        due.is("2 the greatest", x.set(0, 4095), 0);
        due.is("2 which it was", x.set(0, 4095), 4095);
        due.is("2 the least up", x.set(1, 0), 0);
        due.is("2 the greatest up", x.set(1, 4095), 0);
        due.is("2 which that was", x.set(1, 1), 4095);
        due.is("2 one isn't the other", x.seen(0), 4095);
    }

    private static void seen() {
        MarkTreaties x = new MarkTreaties();
        x.set(0, 2048);
        x.set(1, 1024);
        due.is("3 what 0", x.seen(0), 2048);
        due.is("3 what 1", x.seen(1), 1024);
    }

    private static void event() {
        MarkTreaties x = new MarkTreaties();
        for (int i = 0; i < 6; i++) {
            due.is("4 the least, place " + i, x.event(i, 0), 12);
            due.is("4 the greatest, place " + i, x.event(i, 12), 0);
            due.is("4 what it was, place " + i, x.event(i, 11 - i), 12);
        }
        for (int i = 0; i < 6; i++) {
            due.is("4 each place has its own", x.listed(i), 11 - i);
        }
    }

    private static void listed() {
        MarkTreaties x = Due.from("event 0 0; event 5 11");
        long[] told = {0, 12, 12, 12, 12, 11};
        for (int i = 0; i < 6; i++) {
            due.is("5 place " + i, x.listed(i), told[i]);
        }
        x.go(60);
        due.is("5 years don't change it", x.listed(0), 0);
    }

    private static void treaty() {
        MarkTreaties x = new MarkTreaties();
        x.set(0, 0);
        due.is("6 the first number", x.treaty(6, 5, 0), 0);
        x.set(0, 4095);
        due.is("6 the next one", x.treaty(0, 0, 5), 1);
        due.is("6 on an empty yard", x.of(0, 3), 0);
        due.is("6 on a full yard", x.of(1, 3), 4095);
        for (int t = 2; t < 8; t++) {
            due.is("6 up to eight", x.treaty(t - 2, t % 6, (t + 1) % 6), t);
        }
        due.is("6 full", x.treaty(0, 0, 1), Due.FULL);
        due.is("6 full again", x.treaty(6, 5, 4), Due.FULL);
        x.image();
        x.undo();
        due.is("6 full behind an image, too", x.treaty(0, 0, 1), Due.FULL);
    }

    private static void of() {
        MarkTreaties x = Whole.full();
        for (int t = 0; t < 8; t++) {
            due.is("7 kind of " + t, x.of(t, 0), t % 7);
            due.is("7 first of " + t, x.of(t, 1), t % 3);
            due.is("7 other of " + t, x.of(t, 2), 3 + t % 3);
        }
        x.change(0, 3, 4095);
        x.set(1, 4095);
        due.is("7 all of a full mark are up", x.of(0, 12), 12);
        x.set(1, 0);
        due.is("7 none is", x.of(0, 12), 0);
        due.is("7 not in force, it bears all the same", Due.from("blank 0 1 torn").of(0, 8), 12);
        due.is("7 and would yield", Due.from("trade 0 1 torn").of(0, 10), 2);
    }

    private static void change() {
        MarkTreaties x = Due.from("treaty 0 1; treaty 2 3");
        int[] most = {6, 5, 5, 4095, 1, 9999, 9999, 9999};
        int[] least = {0, 0, 1, 0, 0, 0, 0, 0};
        for (int what = 0; what < 8; what++) {
            long was = x.of(1, what);
            due.is("8 the greatest, what " + what, x.change(1, what, most[what]), was);
            due.is("8 the least, what " + what, x.change(1, what, least[what]), most[what]);
            due.is("8 is so, what " + what, x.of(1, what), least[what]);
        }
        long[] other = {0, 0, 1, 1, 1, 0, 0, 0};
        for (int what = 0; what < 8; what++) {
            due.is("8 the other treaty stays, what " + what, x.of(0, what), other[what]);
        }
        MarkTreaties y = Due.from("lease 0 1 mark 9 held 8");
        y.change(0, 6, 7);
        y.change(0, 7, 6);
        y.change(0, 4, 0);
        y.change(0, 0, 6);
        long[] stays = {6, 0, 1, 9, 0, 8, 7, 6};
        for (int what = 0; what < 8; what++) {
            due.is("8 nothing but what is told, what " + what, y.of(0, what), stays[what]);
        }
    }

    private static void wars() {
        MarkTreaties x = Due.from("treaty 0 5 torn; treaty 5 1 torn; treaty 2 5 torn; treaty 5 3 torn; treaty 4 5 torn");
        due.is("9 all the others", x.wars(5), 31);
        due.is("9 the last one", x.wars(0), 32);
        x.go(4);
        due.is("9 a year ahead of their renewal", x.wars(5), 31);
        x.go(1);
        due.is("9 none", x.wars(5), 0);
    }

    private static void go() {
        MarkTreaties x = Whole.full();
        MarkTreaties y = Whole.full();
        for (int i = 0; i < 60; i++) {
            y.go(1);
        }
        due.is("10 sixty years at once", x.go(60), y.now(1));
        due.is("10 as one by one", Whole.told(x).equals(Whole.told(y)) ? 1 : 0, 1);
        MarkTreaties all = new MarkTreaties();
        for (int t = 0; t < 8; t++) {
            all.treaty(5, 0, 1);
        }
        due.is("10 all eight", all.go(1), 255);
        all.change(0, 4, 0);
        all.change(7, 4, 0);
        due.is("10 but the first and the last", all.go(1), 126);
        due.is("10 none", new MarkTreaties().go(1), 0);
    }

    private static void now() {
        MarkTreaties x = new MarkTreaties();
        for (int t = 0; t < 8; t++) {
            x.treaty(0, 0, 1 + t % 5);
            x.change(t, 3, 1 << t | 2048);
        }
        due.is("11 the first of all that held as long", x.now(7), 0);
        x.change(7, 5, 1);
        due.is("11 the last held longest", x.now(7), 7);
        x.change(3, 5, 9999);
        due.is("11 one held as long as can be", x.now(7), 3);
        x.change(3, 4, 0);
        due.is("11 of those in force", x.now(7), 7);
        due.is("11 none would break", x.now(5), 0);
        x.set(1, 2048);
        due.is("11 all in force would break", x.now(5), 247);
        due.is("11 figures in marks", x.now(6), 2048 + 247);
        x.change(0, 4, 0);
        due.is("11 a figure of six marks", x.now(6), 2048 + 246);
        x.change(0, 4, 1);
        x.set(1, 0);
        x.event(0, 11);
        due.is("11 as up is, not as it will be", x.now(5), 0);
        for (int t = 0; t < 8; t++) {
            x.change(t, 4, 0);
        }
        due.is("11 none in force", x.now(1), 0);
        due.is("11 none of them held", x.now(7), -1);
        due.is("11 five pairs by eight treaties", x.now(4), 5);
    }

    private static void ahead() {
        MarkTreaties x = Whole.full();
        MarkTreaties y = Whole.full();
        y.go(60);
        y.go(40);
        MarkTreaties z = Whole.full();
        z.go(60);
        z.go(39);
        int differ = 0;
        for (int t = 0; t < 8; t++) {
            for (int what : new int[] {3, 4, 5, 6, 7, 10}) {
                due.is("12 n 0 is now, " + t + " " + what, x.ahead(t, what, 0), x.of(t, what));
                due.is("12 n 100, " + t + " " + what, x.ahead(t, what, 100), y.of(t, what));
                differ += y.of(t, what) == z.of(t, what) ? 0 : 1;
            }
        }
        due.is("12 a year less is not the same", differ > 0 ? 1 : 0, 1);
        MarkTreaties peace = Due.from("peace 0 1 mark 3 held 38");
        due.is("12 yields of a mark that fades", peace.ahead(0, 10, 41), 1);
        due.is("12 yields of an empty mark", peace.ahead(0, 10, 42), 2);
        due.is("12 held 9999 at most", Due.from("treaty 0 1 held 9950").ahead(0, 5, 100), 9999);
        due.is("12 waits 9999 at most", waited().ahead(0, 6, 100), 9999);
    }

    private static MarkTreaties waited() {
        MarkTreaties x = Due.from("dynasty 0 1 torn");
        x.change(0, 6, 9950);
        return x;
    }

    private static void gold() {
        MarkTreaties x = Whole.full();
        MarkTreaties y = Whole.full();
        due.is("13 n 0 is now", x.gold(0), x.now(2));
        y.go(60);
        y.go(39);
        due.is("13 n 99", x.gold(99), y.now(2));
        y.go(1);
        due.is("13 n 100", x.gold(100), y.now(2));
        MarkTreaties one = Due.from("treaty 0 1 mark 0");
        due.is("13 a year", one.gold(1), 1);
        due.is("13 a hundred years", one.gold(100), 100);
        one.go(1);
        due.is("13 with what is there", one.gold(100), 101);
    }

    private static void breaks() {
        MarkTreaties x = Due.from("treaty 0 1 mark 1; up 1");
        due.is("14 the fewest is 1", x.breaks(0), 1);
        x.change(0, 3, 0);
        x.set(0, 0);
        due.is("14 none in 200 years", x.breaks(0), Due.NONE);
        x.change(0, 7, 9998);
        x.change(0, 3, 1);
        due.is("14 up to 9999", x.breaks(0), 1);
        x.change(0, 7, 9999);
        due.is("14 not more than 9999", x.breaks(0), Due.NONE);
        // 0 lies down in the first year and gets up in the seventh, 1 gets up in the twelfth for a year.
        MarkTreaties late = Due.from("trade 0 1 mark 3; up 1; event 5 1; event 0 0; up 2");
        due.is("14 both up at once", late.breaks(0), 1);
        late.set(1, 3);
        due.is("14 late: 0 is up again in the 7th year, 1 in the 12th", late.breaks(0), 12);
        due.is("14 torn for good", Due.from("dynasty 0 1 torn; up 4095").breaks(0), Due.NONE);
        due.is("14 torn, then renewed", Due.from("truce 0 1 torn; yard 7; up 4095").breaks(0), 2);
    }

    private static void war() {
        due.is("15 now", Due.from("treaty 0 5 torn").war(5, 0), 0);
        due.is("15 behind one year", Due.from("treaty 0 5 mark 1; up 1").war(0, 5), 1);
        due.is("15 never", Due.from("treaty 0 5 mark 0; up 1").war(0, 5), Due.NONE);
        due.is("15 no treaties", new MarkTreaties().war(0, 5), Due.NONE);
        MarkTreaties late = Due.from("yard 1335; up 1614; event 0 9; event 1 10; event 2 10; event 3 11; event 4 1; event 5 1");
        Due.read(late, "peace 0 1 mark 824 held 11; treaty 0 1 mark 1111; peace 0 1 mark 1582; lease 0 1 mark 2731 torn");
        Due.read(late, "lease 0 1 mark 1431; trade 0 1 mark 3166 torn; peace 0 1 mark 2947 held 11; truce 0 1 torn");
        due.is("15 all eight broken at once", late.war(0, 1), 141);
        late.go(60);
        late.go(60);
        late.go(20);
        due.is("15 a year ahead of it", late.wars(0), 0);
        due.is("15 is one year", late.war(0, 1), 1);
        late.go(1);
        due.is("15 it comes", late.wars(0), 2);
        due.is("15 with others alone", Due.from("treaty 0 4 torn").war(0, 5), Due.NONE);
    }

    /** Three treaties of three pairs that are all in force at once for the first time behind 395 years. */
    private static void peace() {
        due.is("16 now", Due.from("treaty 0 1").peace(), 0);
        due.is("16 behind one year", Due.from("truce 0 1 torn").peace(), 1);
        MarkTreaties x = Due.from("yard 1079; up 1384; event 0 2; event 1 6; event 2 2; event 3 1; event 4 6; event 5 1");
        Due.read(x, "trade 0 1 mark 3313 held 7 torn; peace 0 2 mark 978 held 1 torn");
        Due.read(x, "treaty 0 3 mark 1239 held 6 torn; lease 0 4 mark 2266 held 10");
        for (int i = 0; i < 3; i++) {
            x.go(60);
        }
        x.go(14);
        due.is("16 it would be 201", x.peace(), Due.NONE);
        x.go(1);
        due.is("16 200 years", x.peace(), 200);
        for (int i = 0; i < 3; i++) {
            x.go(60);
        }
        x.go(19);
        due.is("16 a year ahead of it", x.now(4) > 0 ? 1 : 0, 1);
        x.go(1);
        due.is("16 it comes", x.now(4), 0);
    }

    private static void when() {
        MarkTreaties x = Due.from("blank 0 1 held 9799; blank 0 1 held 9798; blank 0 1 held 9999");
        due.is("17 0 or more is now", x.when(0, 0), 0);
        due.is("17 as it is", x.when(0, 9799), 0);
        due.is("17 behind 200 years", x.when(0, 9999), 200);
        due.is("17 not behind 201", x.when(1, 9999), Due.NONE);
        due.is("17 at most", x.when(2, 9999), 0);
        due.is("17 behind one year", x.when(1, 9799), 1);
    }

    private static void yardFor() {
        MarkTreaties x = Due.from("yard 2; up 3581; event 0 1; event 1 9; event 5 7; peace 0 1 mark 11 torn");
        due.is("18 n 0", x.yardFor(0), 0);
        due.is("18 n 59", x.yardFor(59), 9);
        due.is("18 n 60", x.yardFor(60), 1);
        due.is("18 the last figure", Due.from("treaty 0 1 torn; up 2047").yardFor(60), 11);
        due.is("18 the figure stands there alone", Due.from("trade 0 1 torn; yard 4095").yardFor(60), 0);
    }

    private static void kindFor() {
        due.is("19 n 0", Due.from("truce 0 1 mark 4095; up 4095").kindFor(0, 0), 0);
        due.is("19 the last kind but one", Due.from("truce 0 1 mark 4095; up 4095").kindFor(0, 60), 5);
        due.is("19 never broken", Due.from("truce 0 1 mark 0; yard 0; up 4095").kindFor(0, 60), 0);
        MarkTreaties held = Due.from("truce 0 1 mark 1 held 10; up 1; yard 0");
        due.is("19 of several the least", held.kindFor(0, 60), 1);
        MarkTreaties worn = Due.from("treaty 0 1 mark 7; up 7");
        worn.change(0, 7, 9998);
        due.is("19 9998 is less than 9999", worn.kindFor(0, 1), 5);
        held.change(0, 7, 9999);
        due.is("19 none is more than 9999", held.kindFor(0, 60), 0);
    }

    private static void strike() {
        MarkTreaties x = Due.from("yard 5; up 3; event 2 3; treaty 0 1 mark 14");
        due.is("20 n 59", x.strike(0, 59), 0);
        due.is("20 n 60", x.strike(0, 60), 4093);
        due.is("20 n 0 in force", x.strike(0, 0), 4095);
        x.change(0, 4, 0);
        due.is("20 n 0 not in force", x.strike(0, 0), 0);
        due.is("20 the last figure", Due.from("treaty 0 1 mark 2049; up 2048").strike(0, 1), 2048);
        due.is("20 the first figure", Due.from("treaty 0 1 mark 2049; up 1").strike(0, 1), 1);
        due.is("20 an empty mark", Due.from("treaty 0 1 mark 0; up 4095").strike(0, 4), 4095);
    }

    private static void lull() {
        // 0 is up in the years 1 to 5 and 12, 1 in 7 to 12.
        MarkTreaties x = Due.from("trade 0 1 mark 3; up 3; event 5 0; event 0 1; yard 0");
        due.is("21 n 11", x.lull(11), 0);
        due.is("21 n 12", x.lull(12), 1);
        due.is("21 n 0", Due.from("treaty 0 1 mark 4095; up 4095").lull(0), 0);
        due.is("21 all twelve", Due.from("treaty 0 1 mark 4095; up 4095").lull(12), 4095);
        due.is("21 the last alone", Due.from("treaty 0 1 mark 2048; up 4095").lull(12), 2048);
        due.is("21 fewest ahead of least", Due.from("trade 0 1 mark 7; trade 0 1 mark 12; up 14; event 0 0").lull(1), 4 + 1);
        due.is("21 one of more", Due.from("treaty 0 1 mark 8; lease 0 1 mark 15; up 15").lull(1), 8 + 1);
        due.is("21 one does for two", Due.from("trade 0 1 mark 9; trade 0 1 mark 12; up 13").lull(1), 8);
        due.is("21 not in force", Due.from("dynasty 0 1 mark 2048 torn; up 4095").lull(12), 0);
    }

    private static void tear() {
        MarkTreaties x = Due.from("treaty 0 1 mark 0; yard 0");
        due.is("22 n 20, v as much", x.tear(20, 20), 0);
        due.is("22 n 20, v one less", x.tear(19, 20), 1);
        due.is("22 n 19", x.tear(19, 19), 0);
        due.is("22 torn it brings 15", x.tear(15, 20), 1);
        due.is("22 and no less", x.tear(14, 20), Due.NONE);
        due.is("22 n 0", x.tear(0, 0), 0);
        due.is("22 v at most", x.tear(99999, 20), 0);
        MarkTreaties waits = Due.from("trade 0 1 mark 0; yard 0");
        waits.change(0, 6, 9999);
        due.is("22 WAITS 0: it isn't renewed within two years", waits.tear(0, 2), 1);
        due.is("22 nor does it yield in the third", waits.tear(0, 3), 1);
        due.is("22 but in the fourth", waits.tear(0, 4), Due.NONE);
        MarkTreaties none = new MarkTreaties();
        due.is("22 no treaties", none.tear(0, 20), 0);
        MarkTreaties eight = Whole.full();
        due.is("22 gold there already", eight.tear(eight.now(2), 0), 0);
        due.is("22 more than asked", eight.tear(eight.now(2) - 1, 0), Due.NONE);
        MarkTreaties three = Due.from("dynasty 0 1 mark 0; dynasty 0 1 mark 1; dynasty 0 1 mark 0; dynasty 0 1 mark 1");
        due.is("22 the least of one", three.tear(22, 1), 1);
        due.is("22 fewest ahead of least", three.tear(20, 1), 2);
        due.is("22 two", three.tear(13, 1), 2 + 8);
    }

    private static void fits() {
        MarkTreaties x = Due.from("treaty 0 1; up 4095");
        int[] forty = new int[40];
        java.util.Arrays.fill(forty, -1);
        Due.row(x, 0, 8, forty);
        due.is("23 forty of any", x.fits(0, 0), 4096);
        x.sheet(1, 8, 0);
        due.is("23 an empty sheet", x.fits(1, 0), 4096);
        Due.row(x, 1, 8, 1, 1);
        due.is("23 one mark alone", x.fits(1, 0), 1);
        Due.row(x, 1, 8, 1, 0);
        due.is("23 all but one", x.fits(1, 0), 4095);
        x.write(0, 8, 0);
        x.write(0, 39, 0);
        due.is("23 behind the first 8 none is asked", x.fits(0, 0), 4096);
        x.write(0, 7, 0);
        due.is("23 the 8th is: broken again, or never held", x.fits(0, 0), 4095);
        x.write(0, 7, 1);
        due.is("23 the 8th is", x.fits(0, 0), 1);
        x.change(0, 0, 5);
        due.is("23 a blank holds", x.fits(0, 0), 4096);
        x.write(0, 0, 0);
        due.is("23 but not now", x.fits(0, 0), 0);
        x.write(0, 0, -2);
        due.is("23 neither 0 nor 1", x.fits(0, 0), 0);
        MarkTreaties truce = Due.from("truce 0 1; up 3; event 3 11; yard 0");
        Due.row(truce, 0, 16, 1, 1, 1, 1, 1);
        due.is("23 11 fades in the third year, and gets up in the fourth", truce.fits(0, 0), 4096);
        truce.event(3, 12);
        truce.event(2, 11);
        due.is("23 it gets up in the third: with 0 and 1 it is one too many", truce.fits(0, 0), 4096 - 512);
        truce.event(2, 12);
        truce.event(3, 5);
        // 5 weighs in the fourth year if one of the six above it, all of them asleep, fades in its stead.
        due.is("23 a greater one that sleeps fades", truce.fits(0, 0), 4096 - 8 * 63);
        MarkTreaties old = Due.from("treaty 0 1 held 19; event 1 5; yard 0");
        Due.row(old, 0, 16, 1, 1, 1);
        due.is("23 it fades in the first year, 5 gets up in the second", old.fits(0, 0), 4096 - 32 * 63);
        MarkTreaties once = Due.from("treaty 0 1; up 1; event 1 0");
        Due.row(once, 0, 8, 1, 1, 1);
        due.is("23 up in the first year alone", once.fits(0, 0), 2048);
        once.event(1, 12);
        once.event(0, 0);
        once.event(2, 0);
        due.is("23 up in a later year than is asked", once.fits(0, 0), 4096);
    }

    private static void kinds() {
        MarkTreaties x = Due.from("treaty 0 1 mark 4095");
        int[] forty = new int[40];
        java.util.Arrays.fill(forty, -1);
        Due.row(x, 0, 16, forty);
        due.is("24 forty of any", x.kinds(0, 0), 127);
        x.sheet(1, 8, 0);
        due.is("24 an empty sheet", x.kinds(1, 0), 127);
        x.write(0, 0, 4095);
        due.is("24 now", x.kinds(0, 0), 127);
        x.write(0, 39, 4095);
        due.is("24 the last: what fades behind 40, or never", x.kinds(0, 0), 2 + 16);
        x.write(0, 39, 2047);
        due.is("24 the last: once", x.kinds(0, 0), 1);
        x.write(0, 39, 1023);
        due.is("24 the last: twice", x.kinds(0, 0), 4 + 8);
        x.write(0, 39, 0);
        due.is("24 the last: all twelve", x.kinds(0, 0), 32 + 64);
        x.write(0, 39, -2);
        due.is("24 no mark", x.kinds(0, 0), 0);
    }

    private static void wakings() {
        MarkTreaties x = Whole.full();
        MarkTreaties y = Whole.full();
        for (int i = 0; i < 20; i++) {
            y.wakings(1);
        }
        due.is("25 twenty at once", x.wakings(20), y.now(1));
        due.is("25 as one by one", Whole.told(x).equals(Whole.told(y)) ? 1 : 0, 1);
        MarkTreaties z = Whole.full();
        due.is("25 years", z.now(0), 2);
        z.wakings(20);
        due.is("25 twenty years", z.now(0), 22);
        // The figure comes to the yard ahead of the year: a treaty that is renewed in it gets that mark.
        MarkTreaties renewed = Due.from("truce 0 1 torn");
        due.is("25 renewed", renewed.wakings(1), 1);
        due.is("25 on the yard as it is by then", renewed.of(0, 3), renewed.seen(0));
        due.is("25 which has changed", renewed.seen(0) != 1 ? 1 : 0, 1);
        // The event is told ahead of the year, too: z 1 draws 10 by 13, then 8 by 12.
        MarkTreaties woken = Due.from("treaty 0 1 mark 4095");
        woken.wakings(1);
        due.is("25 the event of that year", woken.of(0, 4), woken.listed(0) == 12 ? 1 : 0);
    }

    private static void odds() {
        long[] twelve = {1, 12, 144};
        MarkTreaties x = Due.from("treaty 0 1 mark 4094; treaty 0 1 mark 0; treaty 0 1 mark 4095; treaty 0 1 mark 63");
        for (int n = 0; n < 3; n++) {
            due.is("26 one of twelve, above", x.odds(0, n, 0), 1);
            due.is("26 one of twelve, below", x.odds(0, n, 1), twelve[n]);
        }
        due.is("26 the greatest below", x.odds(0, 17, 1), 2218611106740436992L);
        due.is("26 an empty mark, above", x.odds(1, 17, 0), 1);
        due.is("26 an empty mark, below", x.odds(1, 17, 1), 1);
        due.is("26 a full mark, above", x.odds(2, 17, 0), 0);
        due.is("26 a full mark, below", x.odds(2, 17, 1), 1);
        due.is("26 a full mark, no draw, above", x.odds(2, 0, 0), 1);
        due.is("26 a full mark, no draw, below", x.odds(2, 0, 1), 1);
        due.is("26 half, above", x.odds(3, 17, 0), 1);
        due.is("26 half, below", x.odds(3, 17, 1), 131072);
        int[][] lowest = {{1, 11, 12}, {3, 5, 6}, {7, 3, 4}, {15, 2, 3}, {31, 7, 12}, {127, 5, 12}, {255, 1, 3}, {511, 1, 4},
            {1023, 1, 6}};
        for (int[] row : lowest) {
            x.change(0, 3, row[0]);
            due.is("26 in lowest terms, above, mark " + row[0], x.odds(0, 1, 0), row[1]);
            due.is("26 in lowest terms, below, mark " + row[0], x.odds(0, 1, 1), row[2]);
            due.is("26 of two draws, above, mark " + row[0], x.odds(0, 2, 0), row[1] * row[1]);
            due.is("26 of two draws, below, mark " + row[0], x.odds(0, 2, 1), row[2] * row[2]);
        }
    }

    private static void seed() {
        MarkTreaties x = new MarkTreaties();
        due.is("27 the least", x.seed(Integer.MIN_VALUE), 1);
        due.is("27 the greatest", x.seed(Integer.MAX_VALUE), Integer.MIN_VALUE);
        due.is("27 0", x.seed(0), Integer.MAX_VALUE);
        due.is("27 what is as a finding", x.seed(-1000007), 0);
        due.is("27 is none", x.count(6), -1000007);
        due.is("27 and isn't counted", x.status(-1), 0);
    }

    private static void feed() {
        MarkTreaties x = new MarkTreaties();
        due.is("28 the lowest byte of four", x.feed(0x79617275, 1), 1);
        due.is("28 the lowest three, the highest first", x.feed(0xff702033, 3), 4);
        due.is("28 the lowest two", x.feed(0xffff3030, 2), 6);
        due.is("28 up 300", x.text(), 1);
        due.is("28 is so", x.seen(1), 300);
        due.is("28 four", x.feed(0x75702038, 4), 4);
        due.is("28 up 8", x.text(), 1);
        due.is("28 is so, too", x.seen(1), 8);
        due.is("28 a byte above 127", x.feed(-1, 4), 4);
        due.is("28 begins no token", x.text(), -1);
    }

    private static void wipe() {
        MarkTreaties x = new MarkTreaties();
        due.is("29 empty", x.wipe(), 0);
        Due.feed(x, "u".repeat(120));
        due.is("29 full", x.wipe(), 120);
        Due.feed(x, "up 1");
        due.is("29 room again, and nothing of old", x.text(), 1);
        Due.feed(x, "u".repeat(120));
        x.wipe();
        due.is("29 nothing of old behind a word", Due.read(x, "lease 0 1 torn"), 1);
        Due.feed(x, "9".repeat(120));
        x.wipe();
        due.is("29 nothing of old behind a number", Due.read(x, "lease 0 1 held 1"), 1);
        due.is("29 held", x.of(1, 5), 1);
    }

    private static void text() {
        MarkTreaties x = new MarkTreaties();
        due.is("30 an empty tape", x.text(), -1);
        due.is("30 once more", x.text(), -1);
        due.is("30 nothing but blanks, 120 of them", Due.read(x, " ".repeat(120)), -121);
        due.is("30 a fault in the last byte", Due.read(x, "up 1" + " ".repeat(115) + "!"), -120);
        due.is("30 a word in the last bytes", Due.read(x, "lease 0 1" + " ".repeat(107) + "torn"), 1);
        due.is("30 is read", x.of(0, 4), 0);
        due.is("30 a number in the last bytes", Due.read(x, "lease 0 1 held" + " ".repeat(102) + "9999"), 1);
        due.is("30 is read, too", x.of(1, 5), 9999);
        due.is("30 a sign in the last byte", Due.read(x, "up 1" + " ".repeat(115) + ";"), -121);
        due.is("30 a fault in the first", Due.read(x, "!" + " ".repeat(119)), -1);
        due.is("30 no finding", x.status(-1), 0);
        due.is("30 as many items as can be", Due.read(x, "up0;".repeat(29) + "up 7"), 30);
        due.is("30 the last is so", x.seen(1), 7);
        due.is("30 the tape is empty", x.text(), -1);
        due.is("30 and nothing changed", x.seen(1), 7);
    }

    private static void hold() {
        MarkTreaties x = Whole.full();
        due.is("31 the last treaty in the last spot", x.hold(9, 7), 1);
        due.is("31 there it is", x.as(9, 0), 7);
        due.is("31 one treaty in two spots", x.hold(0, 7), 1);
        due.is("31 both hold", x.count(7), 2);
        due.is("31 another one comes", x.hold(0, 0), 1);
        due.is("31 for the other", x.as(0, 0), 0);
        due.is("31 nothing", x.hold(9, -1), 1);
        due.is("31 nothing again", x.hold(9, -1), 1);
        due.is("31 one holds", x.count(7), 1);
        due.is("31 nothing without treaties", new MarkTreaties().hold(0, -1), 1);
        due.is("31 no treaty without treaties", new MarkTreaties().hold(0, 0), Due.BEYOND);
    }

    private static void as() {
        String[] under = {"0", "01", "02", "023", "0234", "05", "016"};
        MarkTreaties x = Due.from("treaty 0 1");
        x.hold(9, 0);
        for (int kind = 0; kind < 7; kind++) {
            x.change(0, 0, kind);
            for (int asked = 0; asked < 7; asked++) {
                boolean is = under[kind].indexOf('0' + asked) >= 0;
                due.is("32 " + kind + " as " + asked, x.as(9, asked), is ? 0 : Due.KIND);
            }
        }
    }

    private static void sheet() {
        MarkTreaties x = Due.from("treaty 0 1 mark 5");
        for (int bits : new int[] {8, 16, 32}) {
            due.is("33 none, bits " + bits, x.sheet(0, bits, 0), 0);
            due.is("33 it is not missing", x.judge(0), 0);
            due.is("33 one, bits " + bits, x.sheet(0, bits, 1), 1);
            x.write(0, 0, 9);
            due.is("33 forty, bits " + bits, x.sheet(0, bits, 40), 40);
            due.is("33 all 0", x.kinds(0, 0), 0);
            x.change(0, 3, 0);
            due.is("33 all of forty are 0", x.kinds(0, 0), 127);
            x.change(0, 3, 5);
        }
        due.is("33 missing, n 0", x.sheet(0, 0, 0), 0);
        due.is("33 it is", x.judge(0), Due.MISSING);
        due.is("33 missing, n 40", x.sheet(1, 0, 40), 0);
        due.is("33 that is, too", x.judge(1), Due.MISSING);
    }

    /** What a sheet of so many bits makes of a number, told by judge(), of one that HELD so long. */
    private static void written(int bits, int v, int held) {
        MarkTreaties x = Due.from("treaty 0 1");
        x.change(0, 5, held);
        Due.row(x, 0, bits, v);
        due.is("34 " + v + " in " + bits + " bits is " + held, x.judge(0), 0);
    }

    private static void write() {
        written(8, 127, 127);
        written(8, 256, 0);
        written(8, -256 + 5, 5);
        written(8, Integer.MIN_VALUE, 0);
        written(8, 0x7fffff07, 7);
        written(16, 9999, 9999);
        written(16, 65536, 0);
        written(16, -65536 + 127, 127);
        written(16, 0x7fff0102, 258);
        written(32, 9999, 9999);
        MarkTreaties x = Due.from("treaty 0 1 mark 0");
        int[][] any = {{8, 255}, {8, -1}, {8, 511}, {16, 65535}, {16, -1}, {32, -1}};
        for (int[] row : any) {
            Due.row(x, 0, row[0], row[1]);
            due.is("34 " + row[1] + " in " + row[0] + " bits is -1", x.kinds(0, 0), 127);
        }
        int[][] none = {{8, 127}, {8, 128}, {16, 255}, {16, 32768}, {32, 255}, {32, 65535}, {32, Integer.MAX_VALUE}};
        for (int[] row : none) {
            Due.row(x, 0, row[0], row[1]);
            due.is("34 " + row[1] + " in " + row[0] + " bits is not -1", x.kinds(0, 0), 0);
        }
    }

    private static void copy() {
        MarkTreaties x = new MarkTreaties();
        for (int t = 0; t < 8; t++) {
            x.treaty(0, 0, 1);
        }
        x.sheet(0, 32, 40);
        x.sheet(1, 32, 40);
        for (int i = 0; i < 40; i++) {
            x.write(0, i, 100 + i);
        }
        due.is("35 all forty", x.copy(0, 0, 1, 0, 40), 40);
        due.is("35 all but one over itself", x.copy(1, 0, 1, 1, 39), 39);
        due.is("35 the last eight", x.copy(1, 32, 0, 0, 8), 8);
        x.load(0);
        for (int t = 0; t < 8; t++) {
            due.is("35 as they all were, " + t, x.of(t, 3), 131 + t);
        }
        due.is("35 back over itself", x.copy(1, 1, 1, 0, 39), 39);
        x.copy(1, 32, 0, 0, 8);
        x.load(0);
        for (int t = 0; t < 8; t++) {
            due.is("35 as they all were then, " + t, x.of(t, 3), 132 + t - (t == 7 ? 1 : 0));
        }
        due.is("35 none at the ends", x.copy(0, 40, 1, 40, 0), 0);
        due.is("35 none behind an end", x.copy(0, 41, 1, 40, 0), Due.BEYOND);
        due.is("35 none behind the other end", x.copy(0, 40, 1, 41, 0), Due.BEYOND);
        due.is("35 one too many", x.copy(0, 0, 1, 0, 41), Due.BEYOND);
        x.sheet(2, 32, 0);
        due.is("35 none of an empty one", x.copy(2, 0, 2, 0, 0), 0);
        due.is("35 nor one", x.copy(2, 0, 0, 0, 1), Due.BEYOND);
        due.is("35 nor to it", x.copy(0, 0, 2, 0, 1), Due.BEYOND);
        x.sheet(3, 16, 0);
        due.is("35 other bits, though none are copied", x.copy(2, 0, 3, 0, 0), Due.KIND);
    }

    private static void load() {
        MarkTreaties x = Whole.full();
        x.sheet(0, 32, 40);
        for (int i = 0; i < 40; i++) {
            x.write(0, i, 4095 - i);
        }
        due.is("36 as many as there are treaties", x.load(0), 8);
        due.is("36 the greatest", x.of(0, 3), 4095);
        due.is("36 the last", x.of(7, 3), 4088);
        x.write(0, 0, 0);
        x.write(0, 7, 4096);
        due.is("36 all but the last", x.load(0), 7);
        due.is("36 the least", x.of(0, 3), 0);
        due.is("36 the last stays", x.of(7, 3), 4088);
        x.write(0, 0, -1);
        x.write(0, 1, 7);
        due.is("36 none", x.load(0), 0);
        due.is("36 none behind it", x.of(1, 3), 4094);
        x.sheet(0, 32, 0);
        due.is("36 an empty sheet", x.load(0), 0);
        Due.row(x, 0, 8, 9);
        due.is("36 one number", x.load(0), 1);
        due.is("36 no second", x.of(1, 3), 4094);
        MarkTreaties none = new MarkTreaties();
        none.sheet(0, 8, 1);
        due.is("36 no treaties", none.load(0), 0);
        due.is("36 no finding", none.status(-1), 0);
        MarkTreaties torn = Due.from("treaty 0 1 torn");
        Due.row(torn, 0, 8, 9);
        due.is("36 of one that isn't in force, too", torn.load(0), 1);
        due.is("36 so it is", torn.of(0, 3), 9);
    }

    private static void judge() {
        MarkTreaties x = new MarkTreaties();
        x.sheet(0, 16, 0);
        due.is("37 an empty sheet, no treaties", x.judge(0), 0);
        x.sheet(0, 16, 1);
        due.is("37 a number, no treaties", x.judge(0), 1);
        for (int t = 0; t < 8; t++) {
            x.treaty(0, 0, 1);
            x.change(t, 5, 9999 - t);
        }
        due.is("37 the first isn't so", x.judge(0), 1);
        Due.row(x, 0, 16, 9999, 9998, 9997, 9996, 9995, 9994, 9993, 9992);
        due.is("37 all eight", x.judge(0), 0);
        x.write(0, 7, 9991);
        due.is("37 the last isn't so", x.judge(0), 8);
        x.write(0, 3, -1);
        due.is("37 -1 is not any here", x.judge(0), 4);
        Due.row(x, 0, 16, 9999, 9998, 9997, 9996, 9995, 9994, 9993, 9992, 0);
        due.is("37 there is no ninth", x.judge(0), 9);
        due.is("37 no finding", x.status(-1), 0);
    }

    private static void image() {
        MarkTreaties x = new MarkTreaties();
        due.is("38 of a new object", x.image(), 1);
        due.is("38 once more", x.image(), 1);
        x.treaty(0, 0, 1);
        due.is("39 back to none", x.undo(), 0);
        due.is("39 none", x.count(1), 0);
        MarkTreaties full = Whole.full();
        full.image();
        full.wipe();
        full.go(60);
        full.wakings(20);
        for (int t = 0; t < 8; t++) {
            full.change(t, 0, 6 - full.of(t, 0));
            full.change(t, 3, 0);
            full.hold(t, t);
        }
        full.set(0, 5);
        full.set(1, 6);
        full.event(3, 4);
        full.seed(9);
        full.undo();
        MarkTreaties again = Whole.full();
        again.image();
        again.wipe();
        due.is("39 all of eight treaties and the rest", Whole.told(full).equals(Whole.told(again)) ? 1 : 0, 1);
    }

    private static void undo() {
        MarkTreaties x = new MarkTreaties();
        due.is("39 nothing is kept", x.undo(), Due.NONE);
        x.go(7);
        x.image();
        due.is("39 at once", x.undo(), 7);
        for (int i = 0; i < 3; i++) {
            x.go(60);
            due.is("39 it stays", x.undo(), 7);
        }
        x.go(1);
        x.image();
        x.go(1);
        due.is("39 the latest", x.undo(), 8);
        due.is("39 the latest, not the one ahead", x.undo(), 8);
        x.feed('u', 1);
        x.sheet(2, 8, 3);
        x.undo();
        due.is("38 not the tape", x.count(5), 1);
        due.is("38 not sheets", x.judge(2), 1);
        x.image();
        x.wipe();
        x.sheet(2, 0, 0);
        x.undo();
        due.is("38 the tape stays empty", x.count(5), 0);
        due.is("38 a sheet stays missing", x.judge(2), Due.MISSING);
        due.is("42 findings stay, too", x.status(-1), 2);
    }

    private static void forget() {
        MarkTreaties x = new MarkTreaties();
        due.is("40 nothing", x.forget(), 0);
        x.image();
        x.image();
        due.is("40 something", x.forget(), 1);
        due.is("40 nothing more, though two were made", x.forget(), 0);
        x.image();
        due.is("39 kept anew", x.undo(), 0);
        due.is("40 what is undone is kept still", x.forget(), 1);
        due.is("40 no finding", x.status(-1), 0);
    }

    private static void count() {
        MarkTreaties x = Whole.full();
        for (int spot = 0; spot < 10; spot++) {
            x.hold(spot, 7);
        }
        x.seed(Integer.MIN_VALUE);
        due.is("41 years", x.count(0), 2);
        due.is("41 eight treaties", x.count(1), 8);
        due.is("41 in force", x.count(2), Integer.bitCount(x.now(1)));
        due.is("41 a full tape", x.count(5), 120);
        due.is("41 z at least", x.count(6), Integer.MIN_VALUE);
        due.is("41 all spots", x.count(7), 10);
        MarkTreaties blanks = new MarkTreaties();
        for (int t = 0; t < 8; t++) {
            blanks.treaty(5, 0, 1);
        }
        due.is("41 all eight in force", blanks.count(2), 8);
    }

    private static void status() {
        MarkTreaties x = new MarkTreaties();
        for (int which = -1; which < 7; which++) {
            due.is("42 none at first, " + which, x.status(which), 0);
        }
        due.is("42 another one", x.status(7), Due.BEYOND);
        due.is("42 is counted from then on", x.status(0), 1);
        due.is("42 below", x.status(-2), Due.BEYOND);
        due.is("42 is counted, too", x.status(-1), 2);
        x.odds(0, 0, 0);
        due.is("42 one in longs, too", x.status(0), 3);
        x.text();
        x.seed(-1000001);
        x.seed(1);
        x.now(7);
        due.is("42 faults, seeds and -1 are none", x.status(-1), 3);
        x.image();
        x.undo();
        x.forget();
        x.undo();
        due.is("42 ever", x.status(0), 3);
        due.is("42 NONE", x.status(3), 1);
        due.is("42 all", x.status(-1), 4);
    }
}
