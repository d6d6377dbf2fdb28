/** Promises 31 to 37: spots and sheets. */
public final class SheetTests {
    private static final Due due = new Due();

    public static void main(String[] args) {
        holdAndAs();
        sheet();
        write();
        copy();
        load();
        judge();
        due.end();
    }

    private static void holdAndAs() {
        boolean[][] isA = new boolean[7][7];
        int[][] under = {{0, 0}, {1, 0, 1}, {2, 0, 2}, {3, 0, 2, 3}, {4, 0, 2, 3, 4}, {5, 0, 5}, {6, 0, 1, 6}};
        for (int[] row : under) {
            for (int i = 1; i < row.length; i++) {
                isA[row[0]][row[i]] = true;
            }
        }
        MarkTreaties x = Due.from("up 0; treaty 0 1; peace 0 1; trade 0 1; lease 0 1; dynasty 0 1; blank 0 1; truce 0 1");
        for (int t = 0; t < 7; t++) {
            due.is("31 holds", x.hold(9 - t, t), 1);
            for (int kind = 0; kind < 7; kind++) {
                due.is("32 " + t + " as " + kind, x.as(9 - t, kind), isA[t][kind] ? t : Due.KIND);
            }
        }
        due.is("31 count", x.count(7), 7);
        due.is("32 nothing", x.as(0, 0), Due.MISSING);
        due.is("31 nothing", x.hold(9, -1), 1);
        due.is("32 nothing then", x.as(9, 0), Due.MISSING);
        due.is("31 nothing where nothing is", x.hold(9, -1), 1);
        due.is("31 spot above", x.hold(10, 0), Due.BEYOND);
        due.is("31 spot below", x.hold(-1, 0), Due.BEYOND);
        due.is("31 treaty above", x.hold(0, 7), Due.BEYOND);
        due.is("31 treaty below", x.hold(0, -2), Due.BEYOND);
        due.is("32 spot above", x.as(10, 0), Due.BEYOND);
        due.is("32 spot below", x.as(-1, 0), Due.BEYOND);
        due.is("32 kind above", x.as(0, 7), Due.BEYOND);
        due.is("32 kind below", x.as(0, -1), Due.BEYOND);
        x.change(4, 0, 6);
        due.is("32 as it is now", x.as(5, 1), 4);
        due.is("32 as it was", x.as(5, 2), Due.KIND);
    }

    private static void sheet() {
        MarkTreaties x = new MarkTreaties();
        due.is("33 eight", x.sheet(0, 8, 40), 40);
        due.is("33 sixteen", x.sheet(1, 16, 0), 0);
        due.is("33 thirty-two", x.sheet(3, 32, 5), 5);
        due.is("33 missing", x.sheet(2, 0, 5), 0);
        due.is("33 it is missing", x.load(2), Due.MISSING);
        due.is("33 an empty one is not", x.load(1), 0);
        due.is("33 sheet above", x.sheet(4, 8, 1), Due.BEYOND);
        due.is("33 sheet below", x.sheet(-1, 8, -1), Due.BEYOND);
        due.is("33 bits", x.sheet(0, 64, 1), Due.BEYOND);
        due.is("33 bits ahead of size", x.sheet(0, 1, -1), Due.BEYOND);
        due.is("33 size", x.sheet(0, 8, -1), Due.SIZE);
        due.is("33 size with bits 0", x.sheet(0, 0, -1), Due.SIZE);
        due.is("33 n above", x.sheet(0, 8, 41), Due.BEYOND);
        due.is("33 it stays as it was", x.write(0, 39, 1), 1);
        due.is("33 missing again", x.sheet(0, 0, 0), 0);
        due.is("33 is missing again", x.write(0, 0, 1), Due.MISSING);
        MarkTreaties y = Due.from("treaty 0 1 mark 5");
        Due.row(y, 0, 32, 7);
        y.sheet(0, 32, 1);
        due.is("33 all are 0", y.load(0), 1);
        due.is("33 all are 0, told", y.of(0, 3), 0);
    }

    private static void written(int bits, int v, int want) {
        MarkTreaties x = Due.from("treaty 0 1 mark 5");
        Due.row(x, 0, bits, v);
        boolean isMark = want >= 0 && want <= 4095;
        due.is("34 loads " + v + " of " + bits, x.load(0), isMark ? 1 : 0);
        due.is("34 is " + v + " of " + bits, x.of(0, 3), isMark ? want : 5);
    }

    private static void write() {
        written(8, 127, 127);
        written(8, 128, -128);
        written(8, 256 + 3, 3);
        written(8, -1, -1);
        written(16, 4095, 4095);
        written(16, 65536 + 9, 9);
        written(16, 32768, -32768);
        written(32, 65536, 65536);
        written(32, Integer.MIN_VALUE, Integer.MIN_VALUE);
        MarkTreaties x = new MarkTreaties();
        x.sheet(0, 8, 3);
        due.is("34 sheet above", x.write(4, 0, 0), Due.BEYOND);
        due.is("34 sheet below", x.write(-1, 0, 0), Due.BEYOND);
        due.is("34 missing", x.write(1, -1, 0), Due.MISSING);
        due.is("34 number above", x.write(0, 3, 0), Due.BEYOND);
        due.is("34 number below", x.write(0, -1, 0), Due.BEYOND);
        due.is("34 last", x.write(0, 2, 0), 1);
    }

    /** The numbers of a sheet, told by loading them as marks. */
    private static void marks(String what, MarkTreaties x, int s, int... want) {
        due.is(what, x.load(s), want.length);
        for (int i = 0; i < want.length; i++) {
            due.is(what + " " + i, x.of(i, 3), want[i]);
        }
    }

    private static void copy() {
        MarkTreaties x = new MarkTreaties();
        for (int t = 0; t < 5; t++) {
            x.treaty(0, 0, 1);
        }
        Due.row(x, 0, 16, 1, 2, 3, 4, 5);
        Due.row(x, 1, 16, 10, 20, 30);
        Due.row(x, 2, 32, 7, 7);
        due.is("35 copies", x.copy(0, 2, 1, 1, 2), 2);
        marks("35 target", x, 1, 10, 3, 4);
        marks("35 source", x, 0, 1, 2, 3, 4, 5);
        due.is("35 forward over itself", x.copy(0, 0, 0, 1, 4), 4);
        marks("35 as they all were", x, 0, 1, 1, 2, 3, 4);
        due.is("35 back over itself", x.copy(0, 1, 0, 0, 4), 4);
        marks("35 as they all were then", x, 0, 1, 2, 3, 4, 4);
        Due.row(x, 3, 16, 9, 9, 9);
        due.is("35 a whole one", x.copy(1, 0, 3, 0, 3), 3);
        marks("35 the whole of it", x, 3, 10, 3, 4);
        x.sheet(3, 0, 0);
        due.is("35 none at the end", x.copy(0, 5, 1, 3, 0), 0);
        due.is("35 none behind the end", x.copy(0, 6, 1, 0, 0), Due.BEYOND);
        due.is("35 sheet", x.copy(4, 0, 0, 0, 0), Due.BEYOND);
        due.is("35 other sheet", x.copy(0, 0, -1, 0, 0), Due.BEYOND);
        due.is("35 missing", x.copy(3, 0, 0, 0, 0), Due.MISSING);
        due.is("35 other missing", x.copy(0, -1, 3, 0, 0), Due.MISSING);
        due.is("35 bits", x.copy(0, -1, 2, 0, 1), Due.KIND);
        due.is("35 from", x.copy(0, -1, 1, 0, 1), Due.BEYOND);
        due.is("35 to", x.copy(0, 0, 1, -1, 1), Due.BEYOND);
        due.is("35 n", x.copy(0, 0, 1, 0, -1), Due.BEYOND);
        due.is("35 not so many", x.copy(0, 4, 1, 0, 2), Due.BEYOND);
        due.is("35 not so many there", x.copy(0, 0, 1, 2, 2), Due.BEYOND);
        due.is("35 far more", x.copy(0, 1, 1, 1, Integer.MAX_VALUE), Due.BEYOND);
        due.is("35 far on", x.copy(0, Integer.MAX_VALUE, 1, Integer.MAX_VALUE, 1), Due.BEYOND);
        marks("35 findings copy none", x, 1, 10, 3, 4);
    }

    private static void load() {
        MarkTreaties x = Due.from("treaty 0 1; treaty 0 1; treaty 0 1");
        Due.row(x, 0, 32, 4095, 0, 9, 8);
        due.is("36 as many as treaties", x.load(0), 3);
        due.is("36 first", x.of(0, 3), 4095);
        due.is("36 last", x.of(2, 3), 9);
        Due.row(x, 0, 32, 6, 4096, 7);
        due.is("36 ends above", x.load(0), 1);
        due.is("36 what came", x.of(0, 3), 6);
        due.is("36 what didn't", x.of(1, 3), 0);
        due.is("36 nor behind it", x.of(2, 3), 9);
        Due.row(x, 0, 8, -1);
        due.is("36 ends below", x.load(0), 0);
        due.is("36 sheet above", x.load(4), Due.BEYOND);
        due.is("36 sheet below", x.load(-1), Due.BEYOND);
        due.is("36 missing", x.load(1), Due.MISSING);
        Due.row(x, 0, 8);
        due.is("36 empty", x.load(0), 0);
    }

    private static void judge() {
        MarkTreaties x = Due.from("treaty 0 1 held 5; treaty 0 1; treaty 0 1 held 9999");
        Due.row(x, 0, 16, 5, 0, 9999);
        due.is("37 so", x.judge(0), 0);
        Due.row(x, 0, 16, 5);
        due.is("37 fewer", x.judge(0), 0);
        Due.row(x, 0, 16);
        due.is("37 empty", x.judge(0), 0);
        Due.row(x, 0, 16, 4, 1);
        due.is("37 the first isn't", x.judge(0), 1);
        Due.row(x, 0, 16, 5, 0, 1);
        due.is("37 the third isn't", x.judge(0), 3);
        Due.row(x, 0, 16, 5, 0, 9999, 0);
        due.is("37 no fourth", x.judge(0), 4);
        due.is("37 sheet above", x.judge(4), Due.BEYOND);
        due.is("37 sheet below", x.judge(-1), Due.BEYOND);
        due.is("37 missing", x.judge(1), Due.MISSING);
    }
}
