/** Promises 28 to 30: the tape and its texts. */
public final class TextTests {
    private static final Due due = new Due();

    public static void main(String[] args) {
        feedAndWipe();
        items();
        terms();
        tokens();
        faults();
        ninth();
        nothingChanges();
        due.end();
    }

    private static void feedAndWipe() {
        MarkTreaties x = new MarkTreaties();
        due.is("28 n 0", x.feed('a', 0), Due.BEYOND);
        due.is("28 n 5", x.feed('a', 5), Due.BEYOND);
        due.is("28 n below", x.feed('a', -1), Due.BEYOND);
        due.is("28 two of four", x.feed(0x78787570, 2), 2);
        due.is("28 three", x.feed(0x7a203335, 3), 5);
        due.is("41 bytes", x.count(5), 5);
        due.is("28 highest first", x.text(), 1);
        due.is("28 up 35", x.seen(1), 35);
        for (int i = 1; i <= 29; i++) {
            due.is("28 four", x.feed(0x20202020, 4), 4 * i);
        }
        due.is("28 three more", x.feed(0x202020, 3), 119);
        due.is("28 full", x.feed(0x2020, 2), Due.FULL);
        due.is("28 beyond is asked first", x.feed(0, 5), Due.BEYOND);
        due.is("28 the last", x.feed(0x20, 1), 120);
        due.is("28 full then", x.feed(0x20, 1), Due.FULL);
        due.is("29 had", x.wipe(), 120);
        due.is("29 had none", x.wipe(), 0);
        due.is("29 has none", x.count(5), 0);
    }

    private static void text(String text, int want) {
        MarkTreaties x = new MarkTreaties();
        due.is("30 '" + text + "'", Due.read(x, text), want);
        due.is("30 the tape is empty", x.count(5), 0);
        due.is("30 no finding", x.status(-1), 0);
    }

    private static void items() {
        for (int kind = 0; kind < 7; kind++) {
            MarkTreaties x = Due.from(Model.WORDS[kind] + " 4 5");
            due.is("30 kind", x.of(0, 0), kind);
            due.is("30 first", x.of(0, 1), 4);
            due.is("30 other", x.of(0, 2), 5);
        }
        MarkTreaties x = new MarkTreaties();
        due.is("30 items", Due.read(x, "yard 4095; up 0; event 0 12; event 5 0; treaty 0 5; yard 2; peace 5 0"), 7);
        due.is("30 yard", x.seen(0), 2);
        due.is("30 list", x.listed(5), 0);
        due.is("30 the yard as it was told ahead", x.of(0, 3), 4095);
        due.is("30 the yard as it was told then", x.of(1, 3), 2);
        due.is("30 more items", Due.read(x, "up 5;event 5 3"), 2);
        due.is("30 up", x.seen(1), 5);
        due.is("30 list then", x.listed(5), 3);
    }

    private static void terms() {
        MarkTreaties x = Due.from("lease 0 1 mark 0 held 9999 torn; lease 0 1 held 0; lease 0 1 torn; lease 0 1 mark 4095");
        long[][] told = {{0, 0, 9999, 0, 0}, {1, 1, 0, 0, 1}, {1, 0, 0, 0, 0}, {4095, 1, 0, 0, 0}};
        for (int t = 0; t < 4; t++) {
            due.is("30 mark", x.of(t, 3), told[t][0]);
        }
        due.is("30 force", x.now(1), 2 + 8);
        due.is("30 held", x.of(0, 5), 9999);
        due.is("30 waits", x.of(0, 6), 0);
        text("lease 0 1 held 1 mark 1", -18);
        text("lease 0 1 torn mark 1", -16);
        text("lease 0 1 torn torn", -16);
        text("lease 0 1 mark 1 mark 1", -18);
        text("lease 0 1 mark", -15);
        text("lease 0 1 mark torn", -16);
        text("lease 0 1 held;", -15);
        text("lease 0 1 mark 4096", -16);
        text("lease 0 1 held 10000", -16);
    }

    private static void tokens() {
        text("up1", 1);
        text("  up  0000004095  ", 1);
        text("lease0 1mark2held3torn;up1", 2);
        text("up 4294967297", -4);
        text("up 18446744073709551617", -4);
        text("up\t1", -3);
        text("up 1\n", -5);
        text("Up 1", -1);
        text("upp 1", -1);
        text("u p 1", -1);
        text("upz 1", -1);
        text("upa 1", -1);
        text("xeace 0 1", -1);
        text("up 1z", -5);
        text("up 1`", -5);
        text("up 1{", -5);
        text("up 1/", -5);
        text("up 1:", -5);
        text("up 1,up 1", -5);
        text("up -1", -4);
        text("up 1" + (char) 233, -5);
        text("up 1" + (char) 0, -5);
        text("up 1.0", -5);
    }

    private static void faults() {
        text("", -1);
        text("up 1;up 1;up 1;up 1;up 1;up 1;up 1;up 1;up 1;up 1;up 1;up 1;up 1;up 1;up 1;up 1;up 1;up 1;up 1;up 1;up 1;up1;up1;up1", 24);
        text("   ", -4);
        text(";", -1);
        text("7", -1);
        text("up", -3);
        text("up ", -4);
        text("up 1;", -6);
        text("up 1; ", -7);
        text("up 1;;up 1", -6);
        text("up 1 2", -6);
        text("up 1 up 1", -6);
        text("up up", -4);
        text("up 4096", -4);
        text("yard 4096", -6);
        text("yard", -5);
        text("mark 1", -1);
        text("held 1", -1);
        text("torn", -1);
        text("event 6 0", -7);
        text("event 5 13", -9);
        text("event 5", -8);
        text("event ;", -7);
        text("treaty", -7);
        text("treaty 0", -9);
        text("treaty 6 0", -8);
        text("treaty 0 6", -10);
        text("treaty 3 3", -10);
        text("treaty 0 0", -10);
        text("treaty 0;", -9);
        text("treaty 0 1 2", -12);
        text("treaty 0 1 held 1 2", -19);
    }

    private static void ninth() {
        MarkTreaties x = new MarkTreaties();
        for (int t = 0; t < 7; t++) {
            x.treaty(0, 0, 1);
        }
        due.is("30 a ninth", Due.read(x, "up 3; peace 0 1; peace 0 0 x"), -1 - 17);
        due.is("30 none came", x.count(1), 7);
        due.is("30 nor what was told ahead", x.seen(1), 0);
        due.is("30 an eighth", Due.read(x, "up 3; peace 0 1"), 2);
        due.is("30 a ninth at once", Due.read(x, "peace"), -1);
        due.is("30 others may come", Due.read(x, "up 4"), 1);
    }

    private static void nothingChanges() {
        MarkTreaties x = new MarkTreaties();
        due.is("30 fault", Due.read(x, "yard 3; up 3; event 0 3; treaty 0 1; up"), -1 - 39);
        due.is("30 yard", x.seen(0), 1);
        due.is("30 up", x.seen(1), 0);
        due.is("30 list", x.listed(0), 12);
        due.is("30 treaties", x.count(1), 0);
        due.is("30 no findings", x.status(-1), 0);
    }
}
