/** Promises 23 to 27: by told years, wakings. */
public final class ToldTests {
    private static final Due due = new Due();

    public static void main(String[] args) {
        fits();
        kinds();
        wakings();
        odds();
        seed();
        due.end();
    }

    private static void fits() {
        MarkTreaties x = Due.from("treaty 0 1; up 3; event 1 2");
        due.is("23 missing", x.fits(0, 0), Due.MISSING);
        due.is("23 missing is asked ahead of the treaty", x.fits(0, 9), Due.MISSING);
        due.is("23 sheet above", x.fits(4, 0), Due.BEYOND);
        due.is("23 sheet below", x.fits(-1, 0), Due.BEYOND);
        Due.row(x, 0, 8);
        due.is("23 treaty", x.fits(0, 1), Due.BEYOND);
        due.is("23 empty", x.fits(0, 0), 4096);
        Due.row(x, 0, 8, 1, 1);
        due.is("23 two asleep", x.fits(0, 0), 1024);
        Due.row(x, 0, 8, 1, 0);
        due.is("23 one of two", x.fits(0, 0), 3072);
        Due.row(x, 0, 8, 0);
        due.is("23 now it is", x.fits(0, 0), 0);
        Due.row(x, 0, 16, -1, -1, 1);
        due.is("23 three asleep", x.fits(0, 0), 512);
        Due.row(x, 0, 32, 1, 1, 0);
        due.is("23 the third", x.fits(0, 0), 512);
        Due.row(x, 0, 32, 1, 2);
        due.is("23 neither", x.fits(0, 0), 0);
        Due.row(x, 0, 32, 1, -1, -1, -1, -1, -1, -1, -1, 5);
        due.is("23 the ninth is not asked", x.fits(0, 0), 4096);
        Due.row(x, 0, 32, 1, 1, 1, 1, 1, 1, 1, 0);
        due.is("23 the eighth is", x.fits(0, 0), 0);
        due.is("23 nothing changes", x.of(0, 3) + x.now(0), 1);
        x.change(0, 4, 0);
        Due.row(x, 0, 8, 0, 0, 0, 0, 0, 1, 0);
        due.is("23 on the yard it breaks", x.fits(0, 0), 4096);
        x.set(0, 0);
        due.is("23 on an empty one not", x.fits(0, 0), 0);
    }

    private static void kinds() {
        MarkTreaties x = Due.from("treaty 0 1 mark 3 held 14");
        due.is("24 missing", x.kinds(3, 0), Due.MISSING);
        due.is("24 sheet above", x.kinds(4, 0), Due.BEYOND);
        due.is("24 sheet below", x.kinds(-1, 0), Due.BEYOND);
        Due.row(x, 3, 8);
        due.is("24 treaty", x.kinds(3, 1), Due.BEYOND);
        due.is("24 empty", x.kinds(3, 0), 127);
        Due.row(x, 3, 8, 3);
        due.is("24 now", x.kinds(3, 0), 127);
        Due.row(x, 3, 8, 1);
        due.is("24 now not", x.kinds(3, 0), 0);
        Due.row(x, 3, 16, -1, 1);
        due.is("24 fades at 15", x.kinds(3, 0), 4 + 8 + 32 + 64);
        Due.row(x, 3, 16, 3, 3);
        due.is("24 doesn't", x.kinds(3, 0), 1 + 2 + 16);
        Due.row(x, 3, 16, 3, 1, 1, 1);
        due.is("24 one alone", x.kinds(3, 0), 4 + 8 + 64);
        int[] forty = new int[40];
        java.util.Arrays.fill(forty, -1);
        forty[39] = 3;
        Due.row(x, 3, 32, forty);
        due.is("24 the fortieth is asked, too", x.kinds(3, 0), 16);
        MarkTreaties y = Due.from("treaty 0 1 mark 6; yard 1; up 2; event 0 2");
        Due.row(y, 0, 8, 6, 6, 1);
        due.is("24 broken by two, renewed at once", y.kinds(0, 0), 0);
        Due.row(y, 0, 8, 6, 6, 6, 6, 1);
        due.is("24 renewed behind three", y.kinds(0, 0), 4);
        Due.row(y, 0, 8, 6, 6, 6, 6, 6, 6, 1);
        due.is("24 renewed behind five", y.kinds(0, 0), 1);
        Due.row(y, 0, 8, 6, 6, 6, 6, 6, 6, 6);
        due.is("24 not renewed yet, or holding", y.kinds(0, 0), 2 + 8 + 16);
        due.is("24 nothing changes", x.of(0, 0) + x.of(0, 5), 14);
    }

    private static void wakings() {
        MarkTreaties x = Due.from("blank 0 1; treaty 0 1 mark 0; treaty 2 3 mark 4095");
        due.is("25 n 0", x.wakings(0), Due.BEYOND);
        due.is("25 n above", x.wakings(21), Due.BEYOND);
        due.is("25 no draw", x.count(6), 1);
        int z = 1;
        int yard = 1;
        int up = 0;
        int[] list = {12, 12, 12, 12, 12, 12};
        int[] counts = {1, 3, 20};
        int year = 0;
        for (int n : counts) {
            for (int i = 0; i < n; i++) {
                z = z * 1103515245 + 12345;
                list[year % 6] = (z >>> 8) % 13;
                up ^= list[year % 6] < 12 ? 1 << list[year % 6] : 0;
                z = z * 1103515245 + 12345;
                yard ^= 1 << (z >>> 8) % 12;
                year++;
            }
            due.is("25 in force", x.wakings(n) & 3, 3);
            due.is("25 z", x.count(6), z);
            due.is("25 yard", x.seen(0), yard);
            due.is("25 up", x.seen(1), up);
            due.is("25 year", x.now(0), year);
            for (int i = 0; i < 6; i++) {
                due.is("25 list " + i, x.listed(i), list[i]);
            }
        }
        due.is("25 as now", x.wakings(1), x.now(1));
    }

    private static void odds() {
        MarkTreaties x = Due.from("treaty 0 1 mark 0; treaty 0 1 mark 7; treaty 0 1 mark 4095; treaty 0 1 mark 1");
        long[][] told = {{0, 5, 1, 1}, {1, 2, 9, 16}, {1, 1, 3, 4}, {1, 0, 1, 1}, {2, 0, 1, 1}, {2, 1, 0, 1}, {2, 17, 0, 1},
            {3, 17, 505447028499293771L, 2218611106740436992L}, {3, 1, 11, 12}};
        for (long[] row : told) {
            due.is("26 above " + row[0] + " " + row[1], x.odds((int) row[0], (int) row[1], 0), row[2]);
            due.is("26 below " + row[0] + " " + row[1], x.odds((int) row[0], (int) row[1], 1), row[3]);
        }
        due.is("26 treaty", x.odds(4, 0, 0), Due.BEYOND);
        due.is("26 n above", x.odds(0, 18, 0), Due.BEYOND);
        due.is("26 n below", x.odds(0, -1, 0), Due.BEYOND);
        due.is("26 what above", x.odds(0, 0, 2), Due.BEYOND);
        due.is("26 what below", x.odds(0, 0, -1), Due.BEYOND);
        due.is("26 counted", x.status(0), 5);
        due.is("26 no draw", x.count(6), 1);
    }

    private static void seed() {
        MarkTreaties x = new MarkTreaties();
        due.is("27 was", x.seed(-1000001), 1);
        due.is("27 was then", x.seed(Integer.MIN_VALUE), -1000001);
        due.is("27 is", x.count(6), Integer.MIN_VALUE);
        due.is("27 a low number is no finding", x.status(-1), 0);
    }
}
