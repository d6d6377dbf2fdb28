/** The limits that stand under "Terms" 1 to 3, one after the other, each at its ends; and how findings are told. */
public final class TermsTests {
    private static final Due due = new Due();

    public static void main(String[] args) {
        findings();
        powers();
        figuresAndSets();
        theList();
        goldAtMost();
        goldStopsAtMost();
        treaties();
        kinds();
        bearsAtItsEnds();
        years();
        heldAtMost();
        waitsAtMost();
        brokenAtMost();
        wars();
        draws();
        drawsOfBothEnds();
        tape();
        everyByte();
        tokens();
        numbers();
        items();
        faults();
        ninthTreaty();
        spots();
        sheets();
        due.end();
    }

    private static void findings() {
        MarkTreaties x = Whole.full();
        due.is("BEYOND is LOW", x.seen(2), -1000001);
        due.is("BEYOND in longs, too", x.odds(8, 0, 0), -1000001L);
        due.is("FULL is LOW - 1", x.treaty(0, 0, 1), -1000002);
        x.hold(0, 0);
        due.is("KIND is LOW - 2", x.as(0, 1), -1000003);
        x.forget();
        due.is("NONE is LOW - 3", x.undo(), -1000004);
        due.is("MISSING is LOW - 5", x.load(2), -1000006);
        due.is("SIZE is LOW - 6", x.sheet(0, 8, -1), -1000007);
        due.is("each is counted", x.status(-1), 7);
        due.is("the least of several: a figure", x.yardFor(0), 0);
        due.is("the least of several: a kind", x.kindFor(0, 0), 0);
    }

    private static void powers() {
        for (int first = 0; first < 6; first++) {
            for (int other = 0; other < 6; other++) {
                MarkTreaties x = new MarkTreaties();
                due.is("POWERS 0 to 5, not the same", x.treaty(0, first, other), first == other ? Due.BEYOND : 0);
                due.is("none is made of one and the same", x.count(1), first == other ? 0 : 1);
            }
        }
    }

    private static void figuresAndSets() {
        for (int figure = 0; figure < 12; figure++) {
            MarkTreaties x = new MarkTreaties();
            x.set(0, 1 << figure);
            x.treaty(0, 0, 1);
            x.event(0, figure);
            due.is("a MARK is THE YARD at first", x.of(0, 3), 1 << figure);
            due.is("FIGURES 0 to 11 get up", x.breaks(0), 1);
            x.go(1);
            due.is("and are UP", x.seen(1), 1 << figure);
            due.is("of the MARK", x.of(0, 12), 1);
        }
        MarkTreaties x = new MarkTreaties();
        x.set(0, 0);
        x.treaty(0, 0, 1);
        x.set(0, 4095);
        x.treaty(5, 0, 1);
        due.is("an empty set", x.of(0, 3), 0);
        due.is("a full set", x.of(1, 3), 4095);
        x.set(1, 4095);
        due.is("none of an empty MARK is UP", x.of(0, 12), 0);
        due.is("all of a full MARK are UP", x.of(1, 12), 12);
        due.is("an empty MARK never breaks, nor a BLANK with all UP", x.now(5), 0);
        due.is("all FIGURES in MARKS", x.now(6), 4095);
        x.set(0, 3);
        due.is("a MARK stays as THE YARD was", x.of(1, 3), 4095);
    }

    private static void theList() {
        for (int place = 0; place < 6; place++) {
            MarkTreaties x = new MarkTreaties();
            x.event(place, 11);
            int up = 0;
            for (int year = 0; year < 25; year++) {
                x.go(1);
                up ^= year % 6 == place ? 2048 : 0;
                due.is("YEAR modulo 6 is " + place + ", year " + year, x.seen(1), up);
            }
        }
        MarkTreaties x = new MarkTreaties();
        x.set(1, 4095);
        x.event(0, 0);
        x.event(1, 12);
        x.event(2, 11);
        x.go(1);
        due.is("one that is UP lies down", x.seen(1), 4094);
        x.go(1);
        due.is("12: nothing", x.seen(1), 4094);
        x.go(1);
        due.is("the last lies down", x.seen(1), 2046);
    }

    /** Eight dynasties with full marks yield 240 gold a year. */
    private static MarkTreaties rich() {
        MarkTreaties x = new MarkTreaties();
        x.set(0, 4095);
        for (int t = 0; t < 8; t++) {
            x.treaty(4, 0, 1);
        }
        for (int i = 0; i < 6; i++) {
            x.go(60);
        }
        return x;
    }

    private static void goldAtMost() {
        MarkTreaties x = rich();
        x.go(56);
        due.is("GOLD below its limit", x.now(2), 416 * 240);
        due.is("gold() up to the limit", x.gold(1), 99999);
        due.is("GOLD is 99999 at most", x.go(1), 255);
        due.is("told by now()", x.now(2), 99999);
        due.is("told by count()", x.count(3), 99999);
        x.go(60);
        due.is("and stays", x.now(2), 99999);
        due.is("gold() at the limit", x.gold(0), 99999);
        due.is("gold() far on", x.gold(100), 99999);
        due.is("tear() at the limit", x.tear(99999, 20), 0);
        due.is("tear() below the limit", x.tear(99998, 0), Due.NONE);
        due.is("all yards bring as much", x.yardFor(60), 0);
    }

    private static void goldStopsAtMost() {
        MarkTreaties x = rich();
        x.go(56);
        for (int t = 0; t < 8; t++) {
            x.change(t, 0, 0);
        }
        x.change(0, 4, 0);
        x.change(0, 0, 4);
        // Now 99840, seven treaties of 1 each: 159 more behind 22 years and 5 of the next one's seven.
        x.go(22);
        due.is("GOLD one year ahead of its limit", x.now(2), 99994);
        due.is("tear() lets two go", x.tear(99999, 1), 0);
        due.is("tear() of one below the limit", x.tear(99998, 1), 2 + 4 + 8);
        x.go(1);
        due.is("GOLD stops within a year", x.now(2), 99999);
    }

    private static void treaties() {
        MarkTreaties x = new MarkTreaties();
        for (int t = 0; t < 8; t++) {
            due.is("TREATIES 0, 1, ..", x.treaty(t % 7, 0, 1), t);
            due.is("how many", x.count(1), t + 1);
        }
        due.is("at most 8", x.treaty(0, 0, 1), Due.FULL);
        due.is("still 8", x.count(1), 8);
        due.is("the eighth can be asked", x.of(7, 0), 0);
        due.is("all in FORCE", x.now(1), 255);
        due.is("no ninth", x.of(8, 0), Due.BEYOND);
    }

    private static void kinds() {
        // BEARS, FADES, YIELDS, RENEWS, with an empty, a full mark; old is HELD 10 and more.
        long[][] empty = {{0, 20, 1, 5}, {0, 40, 2, 10}, {1, 15, 1, 3}, {2, 15, 3, 3}, {2, 0, 6, 0}, {12, 1, 0, 6},
            {2, 3, 0, 1}};
        long[][] full = {{0, 20, 1, 5}, {0, 40, 1, 10}, {1, 15, 13, 3}, {2, 15, 15, 3}, {2, 0, 30, 0}, {12, 1, 0, 6},
            {2, 3, 0, 1}};
        int[] old = {0, 1, 1, 2, 2, 12, 3};
        for (int kind = 0; kind < 7; kind++) {
            MarkTreaties x = new MarkTreaties();
            x.treaty(kind, 0, 1);
            x.change(0, 5, 9);
            for (int i = 0; i < 4; i++) {
                x.change(0, 3, 0);
                due.is("empty mark, kind " + kind + " what " + (8 + i), x.of(0, 8 + i), empty[kind][i]);
                x.change(0, 3, 4095);
                due.is("full mark, kind " + kind + " what " + (8 + i), x.of(0, 8 + i), full[kind][i]);
            }
            x.change(0, 5, 10);
            due.is("HELD 10 YEARS or more, kind " + kind, x.of(0, 8), old[kind]);
            x.change(0, 5, 9999);
            due.is("HELD as long as can be, kind " + kind, x.of(0, 8), old[kind]);
        }
    }

    /** As many up as a kind bears: it holds; one more: it breaks. */
    private static void bearsAtItsEnds() {
        int[][] borne = {{0, 0, 0}, {1, 9, 0}, {1, 10, 1}, {2, 0, 1}, {3, 0, 2}, {4, 0, 2}, {6, 9, 2}, {6, 10, 3}};
        for (int[] row : borne) {
            MarkTreaties x = new MarkTreaties();
            x.set(0, 2047);
            x.treaty(row[0], 0, 1);
            x.change(0, 5, row[1]);
            x.set(1, (1 << row[2]) - 1);
            due.is("as many as are borne, kind " + row[0], x.now(5), 0);
            x.set(1, (1 << row[2] + 1) - 1);
            due.is("one more than is borne, kind " + row[0], x.now(5), 1);
            due.is("it breaks", x.go(1), 0);
            due.is("once", x.of(0, 7), 1);
        }
        MarkTreaties x = Due.from("dynasty 0 1 mark 2048; dynasty 0 1 mark 1; up 2048");
        due.is("FIGURE 11 in the MARK and UP: 0 are borne", x.now(5), 1);
        x.set(1, 1);
        due.is("FIGURE 11 in the MARK, not UP", x.of(0, 8), 2);
        x.set(1, 2049);
        due.is("FIGURE 11 UP, not in the MARK", x.now(5), 1);
        x = Due.from("blank 0 1 mark 4095; up 4095");
        due.is("a BLANK bears all 12", x.go(1), 1);
    }

    private static void years() {
        MarkTreaties x = new MarkTreaties();
        due.is("YEAR 0 at first", x.now(0), 0);
        x.go(1);
        due.is("YEAR is one more", x.now(0), 1);
        x.go(60);
        due.is("60 of them", x.now(0), 61);
        x.wakings(20);
        due.is("20 of them", x.now(0), 81);
        MarkTreaties y = Due.from("treaty 0 1 mark 1 held 9; trade 0 1 mark 1; truce 0 1 torn; up 1");
        y.change(0, 6, 3);
        y.go(1);
        long[] broken = {1, 0, 0, 0, 1};
        for (int i = 0; i < 5; i++) {
            due.is("breaks: MARK, FORCE, HELD, WAITS, BROKEN " + i, y.of(0, 3 + i), broken[i]);
        }
        due.is("GOLD of the one that holds", y.now(2), 2);
        due.is("renewed in that YEAR, it yields nothing yet", y.of(2, 4), 1);
        due.is("HELD of the one that is renewed", y.of(2, 5), 0);
        due.is("the one that broke waits from the next YEAR on", y.ahead(0, 6, 1), 1);
    }

    private static void heldAtMost() {
        MarkTreaties x = Due.from("treaty 0 1 mark 7 held 9998; truce 0 1 mark 7 held 9998; blank 0 1 mark 7 held 9999; "
                + "lease 0 1 mark 7 held 9999");
        x.go(1);
        due.is("HELD 9999", x.of(0, 5), 9999);
        due.is("9999 is a multiple of 3", x.of(1, 3), 3);
        due.is("and of 1", x.of(2, 3), 3);
        x.go(1);
        due.is("HELD is 9999 at most", x.of(0, 5), 9999);
        due.is("when() at most", x.when(0, 9999), 0);
        due.is("9999 is no multiple of 20", x.of(0, 3), 7);
        due.is("nor of 15", x.of(3, 3), 7);
        due.is("9999 is a multiple of 3 again", x.of(1, 3), 1);
        x.go(3);
        due.is("nothing is gone of an empty MARK", x.of(1, 3), 0);
        due.is("nor of another one", x.of(2, 3), 0);
        MarkTreaties y = Due.from("treaty 0 1 mark 4095 held 19; peace 0 1 mark 2049 held 39; trade 0 1 mark 1 held 14");
        y.go(1);
        due.is("the greatest FIGURE is gone: 11", y.of(0, 3), 2047);
        due.is("not the next one", y.of(1, 3), 1);
        due.is("the last one", y.of(2, 3), 0);
        y.go(19);
        due.is("none till the next multiple", y.of(0, 3), 2047);
        y.go(1);
        due.is("the next multiple", y.of(0, 3), 1023);
        MarkTreaties z = Due.from("treaty 0 1 mark 3");
        due.is("HELD 0 fades nothing", z.go(1), 1);
        due.is("nor HELD 1", z.of(0, 3), 3);
    }

    private static void waitsAtMost() {
        MarkTreaties x = Due.from("dynasty 0 1 torn; treaty 0 1 torn; peace 0 1 torn; truce 0 1 torn; trade 0 1 torn");
        x.change(0, 6, 9998);
        x.change(1, 6, 3);
        x.change(2, 6, 9999);
        x.change(4, 6, 1);
        due.is("RENEWS or more: 9999, and 1", x.go(1), 4 + 8);
        due.is("WAITS 9999", x.of(0, 6), 9999);
        due.is("one YEAR less than it RENEWS", x.of(1, 6), 4);
        due.is("RENEWS", x.go(1), 2 + 4 + 8 + 16);
        due.is("WAITS is 9999 at most", x.of(0, 6), 9999);
        due.is("RENEWS 0: never", x.of(0, 4), 0);
        due.is("WAITS 0 then", x.of(1, 6), 0);
        MarkTreaties y = Due.from("treaty 0 1; yard 9");
        y.change(0, 6, 50);
        y.go(1);
        due.is("WAITS of one in FORCE stays", y.of(0, 6), 50);
        y.change(0, 4, 0);
        y.go(1);
        due.is("and counts when it isn't", y.of(0, 4), 1);
        due.is("on THE YARD as it is then", y.of(0, 3), 9);
    }

    private static void brokenAtMost() {
        MarkTreaties x = Due.from("treaty 0 1 mark 1; treaty 0 1 mark 1; up 1");
        x.change(0, 7, 9998);
        x.change(1, 7, 9999);
        x.go(1);
        due.is("BROKEN 9999", x.of(0, 7), 9999);
        due.is("BROKEN is 9999 at most", x.of(1, 7), 9999);
        due.is("it broke all the same", x.now(1), 0);
        due.is("of all together", x.now(3), 19998);
        due.is("ahead() at most", x.ahead(1, 7, 100), 9999);
        for (int t = 2; t < 8; t++) {
            x.treaty(0, 0, 1);
            x.change(t, 7, 9999);
        }
        due.is("of all eight together", x.now(3), 79992);
        due.is("in count(), too", x.count(4), 79992);
    }

    private static void wars() {
        MarkTreaties x = Due.from("treaty 0 1 torn; treaty 0 2 torn; treaty 3 0 torn; treaty 4 0 torn; treaty 0 5 torn; "
                + "blank 0 5");
        due.is("none with one of two in FORCE, four others", x.wars(0), 2 + 4 + 8 + 16);
        x.change(5, 4, 0);
        due.is("all five others", x.wars(0), 62);
        due.is("five pairs", x.now(4), 5);
        due.is("none without treaties", x.wars(1), 1);
        due.is("none without any", new MarkTreaties().now(4), 0);
        x.change(5, 1, 1);
        due.is("other POWERS, another WAR", x.wars(1), 1 + 32);
        due.is("six pairs", x.now(4), 6);
    }

    private static void draws() {
        int[] seeds = {0, 1, -1, Integer.MIN_VALUE, Integer.MAX_VALUE, 1 << 20, -12345, 987654321};
        for (int seed : seeds) {
            MarkTreaties x = new MarkTreaties();
            x.seed(seed);
            long z = seed;
            long[] got = new long[2];
            for (int i = 0; i < 2; i++) {
                // Written with longs: an int is what is left by 2 to the 32nd.
                z = Math.floorMod(z * 1103515245L + 12345L, 1L << 32);
                got[i] = z / 256;
            }
            x.wakings(1);
            due.is("z wraps, seed " + seed, x.count(6), z >= 1L << 31 ? z - (1L << 32) : z);
            due.is("z >>> 8 is never below 0: EVENT", x.listed(0), got[0] % 13);
            due.is("z >>> 8 is never below 0: FIGURE", x.seen(0), 1 ^ 1 << got[1] % 12);
        }
    }

    /** Seeds are looked for till draws have told each rest. */
    private static void drawsOfBothEnds() {
        boolean[] events = new boolean[13];
        boolean[] figures = new boolean[12];
        for (int seed = 0; seed < 200; seed++) {
            MarkTreaties x = new MarkTreaties();
            x.set(0, 4095);
            x.seed(seed);
            x.wakings(1);
            events[x.listed(0)] = true;
            figures[Integer.numberOfTrailingZeros(4095 ^ x.seen(0))] = true;
            due.is("one FIGURE is gone from THE YARD", Integer.bitCount(x.seen(0)), 11);
            due.is("who is UP", x.seen(1), x.listed(0) == 12 ? 0 : 1 << x.listed(0));
        }
        for (int i = 0; i < 13; i++) {
            due.is("EVENT " + i + " is drawn", events[i] ? 1 : 0, 1);
            due.is("FIGURE " + i + " is drawn", i == 12 || figures[i] ? 1 : 0, 1);
        }
    }

    private static void tape() {
        MarkTreaties x = new MarkTreaties();
        due.is("THE TAPE is empty at first", x.count(5), 0);
        for (int i = 1; i <= 120; i++) {
            due.is("a byte more", x.feed(' ', 1), i);
        }
        due.is("at most 120", x.feed(' ', 1), Due.FULL);
        due.is("still 120", x.count(5), 120);
        due.is("all 120 are read", x.text(), -121);
        MarkTreaties y = new MarkTreaties();
        Due.feed(y, " ".repeat(117));
        due.is("four don't come behind 117", y.feed(0x75702035, 4), Due.FULL);
        due.is("nor a part of them", y.count(5), 117);
        due.is("three do", y.feed(0x757035, 3), 120);
        due.is("and are read to the last byte", y.text(), 1);
        due.is("up 5", y.seen(1), 5);
        Due.feed(y, "up 4");
        due.is("it is empty again, and has room", y.count(5), 4);
    }

    /** Each byte as a whole text, and right behind one. */
    private static void everyByte() {
        for (int b = 0; b < 256; b++) {
            MarkTreaties x = new MarkTreaties();
            x.feed(b, 1);
            due.is("byte " + b + " alone", x.text(), b == ' ' ? -2 : -1);
            Due.feed(x, "up 1");
            x.feed(b, 1);
            boolean isDigit = b >= '0' && b <= '9';
            due.is("byte " + b + " behind", x.text(), isDigit || b == ' ' ? 1 : b == ';' ? -6 : -5);
            due.is("byte " + b + " tells", x.seen(1), isDigit ? 10 + b - '0' : b == ' ' ? 1 : 0);
            Due.feed(x, "up");
            x.feed(b, 1);
            Due.feed(x, "777");
            boolean isLetter = b >= 'a' && b <= 'z';
            // 3777 is a set of figures, 4777 is none.
            boolean isSet = b == ' ' || b >= '0' && b <= '3';
            due.is("byte " + b + " between", x.text(), isSet ? 1 : isLetter ? -1 : -3);
        }
    }

    private static void text(String what, String text, int want) {
        MarkTreaties x = new MarkTreaties();
        due.is(what + ": '" + text + "'", Due.read(x, text), want);
        due.is(what + ", no finding", x.status(-1), 0);
        due.is(what + ", the tape is empty", x.count(5), 0);
    }

    private static void tokens() {
        text("no blanks", "treaty0 1mark2held3torn;up4;yard5;event0 1", 4);
        text("many blanks", "   treaty  0   1  mark  2  held  3  torn  ;  up   4 ", 2);
        text("a WORD as long as can be", "upyard 1", -1);
        text("a WORD as long as can be, behind", "treaty 0 1 marktorn 1", -12);
        text("a NUMBER as long as can be", "treaty 01", -10);
        text("a blank within a WORD", "ya rd 1", -1);
        text("a blank within a NUMBER", "up 1 2", -6);
        text("signs side by side", "up 1;;up 2", -6);
        text("a letter above z", "up 1{", -5);
        text("a letter below a", "up 1`", -5);
        text("a digit above 9", "up 1:", -5);
        text("a digit below 0", "up 1/", -5);
        text("a great letter", "UP 1", -1);
        text("a tab is no blank", "up\t1", -3);
        text("an end of line is no blank", "up 1\n", -5);
    }

    private static void numbers() {
        text("9999 at most", "treaty 0 1 held 9999", 1);
        text("10000", "treaty 0 1 held 10000", -17);
        text("99990", "treaty 0 1 held 99990", -17);
        text("one that would wrap to 1", "treaty 0 1 held 4294967297", -17);
        text("one that would wrap to 0", "up 18446744073709551616", -4);
        text("one of very many digits", "up 1" + "0".repeat(110), -4);
        text("zeros ahead", "up " + "0".repeat(110) + "1", 1);
        text("a mark at most", "treaty 0 1 mark 4095", 1);
        text("a mark above", "treaty 0 1 mark 4096", -17);
        text("the yard at most", "yard 4095", 1);
        text("the yard above", "yard 4096", -6);
        text("up at most", "up 4095", 1);
        text("up above", "up 4096", -4);
        text("a place at most", "event 5 0", 1);
        text("a place above", "event 6 0", -7);
        text("an event at most", "event 0 12", 1);
        text("an event above", "event 0 13", -9);
        text("powers at most", "treaty 5 4", 1);
        text("first above", "treaty 6 4", -8);
        text("other above", "treaty 4 6", -10);
        text("other isn't first", "treaty 4 4", -10);
        text("other isn't first, by value", "treaty 4 04", -10);
        text("all at least", "treaty 0 1 mark 0 held 0;up 0;yard 0;event 0 0", 4);
        text("below 0", "up -1", -4);
    }

    private static void items() {
        text("none", "", -1);
        text("one", "up 1", 1);
        text("two", "up 1;up 2", 2);
        text("no last one", "up 1;up 2;", -11);
        text("no first one", ";up 1", -1);
        String[] words = {"treaty", "peace", "trade", "lease", "dynasty", "blank", "truce"};
        for (int kind = 0; kind < 7; kind++) {
            MarkTreaties x = new MarkTreaties();
            x.set(0, 77);
            x.set(1, 5);
            due.is(words[kind], Due.read(x, words[kind] + " 5 0"), 1);
            long[] told = {kind, 5, 0, 77, 1, 0, 0, 0};
            for (int what = 0; what < 8; what++) {
                due.is(words[kind] + " what " + what, x.of(0, what), told[what]);
            }
        }
        String[] terms = {"", " mark 9", " held 8", " torn", " mark 9 held 8", " mark 9 torn", " held 8 torn",
            " mark 9 held 8 torn"};
        for (String term : terms) {
            MarkTreaties x = new MarkTreaties();
            due.is("lease" + term, Due.read(x, "lease 1 2" + term), 1);
            due.is("mark or THE YARD", x.of(0, 3), term.contains("mark") ? 9 : 1);
            due.is("held or 0", x.of(0, 5), term.contains("held") ? 8 : 0);
            due.is("torn or not", x.of(0, 4), term.contains("torn") ? 0 : 1);
        }
        MarkTreaties x = new MarkTreaties();
        due.is("item by item", Due.read(x, "truce 0 1;yard 6;truce 0 1;yard 5;truce 0 1 mark 2;yard 4;event 3 2;event 3 1"), 8);
        due.is("THE YARD ahead", x.of(0, 3), 1);
        due.is("THE YARD as told by then", x.of(1, 3), 6);
        due.is("a mark of its own", x.of(2, 3), 2);
        due.is("THE YARD as told last", x.seen(0), 4);
        due.is("the EVENT as told last", x.listed(3), 1);
        due.is("as many as there is room for", Due.read(x, "up1;".repeat(29) + "up 2"), 30);
        due.is("the last one is so", x.seen(1), 2);
    }

    private static void faults() {
        text("it ends too early, none", " ", -2);
        text("it ends too early, up", "up", -3);
        text("it ends too early, up and blanks", "up   ", -6);
        text("it ends too early, event", "event 1", -8);
        text("it ends too early, powers", "lease", -6);
        text("it ends too early, other", "lease 1", -8);
        text("it ends too early, mark", "lease 1 2 mark", -15);
        text("it ends too early, held", "lease 1 2 held ", -16);
        text("it ends too early, behind a sign", "lease 1 2; ", -12);
        text("a NUMBER where a WORD must stand", "3 up", -1);
        text("a WORD where a NUMBER must stand", "up up", -4);
        text("a sign where a NUMBER must stand", "event 1;", -8);
        text("a sign where a WORD must stand", "up 1; ;", -7);
        text("a NUMBER too many", "yard 1 1", -8);
        text("a WORD too many", "yard 1 torn", -8);
        text("held ahead of mark", "lease 1 2 held 1 mark 1", -18);
        text("torn ahead of held", "lease 1 2 torn held 1", -16);
        text("mark twice", "lease 1 2 mark 1 mark 1", -18);
        text("torn twice", "lease 1 2 torn torn", -16);
        text("mark without treaty", "mark 1", -1);
        text("no byte that begins a TOKEN", "yard 1 ?", -8);
        text("the first of several", "yard ? ?;up up", -6);
        text("the end behind the fault is not asked", "up 5000;", -4);
        MarkTreaties x = Whole.furnished();
        x.wipe();
        long status = x.status(-1);
        due.is("a fault", Due.read(x, "yard 9;up 9;event 0 9;peace 0 1 mark 9 held 9;up 9999"), -1 - 49);
        due.is("is no finding", x.status(-1), status);
        due.is("empties THE TAPE", x.count(5), 0);
        Due.feed(x, "up 99");
        due.is("and changes nothing else", Whole.told(x).equals(Whole.told(Whole.furnished())) ? 1 : 0, 1);
    }

    private static void ninthTreaty() {
        for (int before = 0; before <= 8; before++) {
            MarkTreaties x = new MarkTreaties();
            for (int t = 0; t < before; t++) {
                x.treaty(0, 0, 1);
            }
            String nine = "lease 0 1;".repeat(9);
            due.is("the WORD of a 9th, behind " + before, Due.read(x, nine + "up 1"), -1 - 10 * (8 - before));
            due.is("none of them came", x.count(1), before);
            String fitting = "lease 0 1;".repeat(8 - before) + "up 1";
            due.is("up to 8, behind " + before, Due.read(x, fitting), 9 - before);
            due.is("all came", x.count(1), 8);
        }
        MarkTreaties x = Whole.full();
        x.wipe();
        due.is("its own, though it ends too early", Due.read(x, "up 3;  truce"), -1 - 7);
        due.is("its own, though its powers are wrong", Due.read(x, "truce 9 9"), -1);
        due.is("no FULL", x.status(1), 0);
    }

    private static void spots() {
        MarkTreaties x = Due.from("treaty 0 1; peace 0 1");
        for (int spot = 0; spot < 10; spot++) {
            due.is("nothing at first, " + spot, x.as(spot, 0), Due.MISSING);
            due.is("how many hold something", x.count(7), spot);
            due.is("SPOTS 0 to 9", x.hold(spot, spot % 2), 1);
        }
        due.is("all ten", x.count(7), 10);
        for (int spot = 0; spot < 10; spot++) {
            due.is("each holds its own", x.as(spot, 0), spot % 2);
        }
        for (int spot = 0; spot < 10; spot++) {
            x.hold(spot, -1);
            due.is("nothing again", x.count(7), 9 - spot);
        }
    }

    private static void sheets() {
        MarkTreaties x = Due.from("treaty 0 1");
        for (int s = 0; s < 4; s++) {
            due.is("MISSING at first, " + s, x.judge(s), Due.MISSING);
            due.is("at most 40 numbers", x.sheet(s, 32, 40), 40);
            due.is("the last of them", x.write(s, 39, s), 1);
            due.is("none behind it", x.write(s, 40, s), Due.BEYOND);
            x.write(s, 0, 100 + s);
        }
        for (int s = 0; s < 4; s++) {
            x.load(s);
            due.is("each has its own numbers, " + s, x.of(0, 3), 100 + s);
            x.copy(s, 39, s, 0, 1);
            x.load(s);
            due.is("to the last, " + s, x.of(0, 3), s);
        }
    }
}
