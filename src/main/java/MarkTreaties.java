/** Treaties whose watermarks are the real text; see DOC.md for its numbered promises. */
public final class MarkTreaties {
    private static final int LOW = -1000001;

    private static final int BEYOND = 0;
    private static final int FULL = 1;
    private static final int KIND = 2;
    private static final int NONE = 3;
    private static final int STATE = 4;
    private static final int MISSING = 5;
    private static final int SIZE = 6;
    private static final int FINDINGS = 7;

    private static final int POWERS = 6;
    private static final int FIGURES = 12;
    private static final int ALL_FIGURES = 4095;
    private static final int LAST_FIGURE = 2048;
    private static final int PLACES = 6;
    private static final int NOTHING = 12;
    private static final int TREATIES = 8;
    private static final int SPOTS = 10;
    private static final int SHEETS = 4;
    private static final int NUMBERS = 40;
    private static final int BYTES = 120;
    private static final int MOST_GOLD = 99999;
    private static final int LAST_YEAR = 99999;
    private static final int MOST_YEARS = 9999;
    private static final int FORESEEN = 200;
    private static final int LULLED_YEARS = 12;
    private static final int ASKED_OF_FITS = 8;
    private static final int ANY = -1;
    private static final int WHAT_MARK = 3;
    private static final int WHAT_FORCE = 4;

    private static final int TREATY = 0;
    private static final int PEACE = 1;
    private static final int TRADE = 2;
    private static final int LEASE = 3;
    private static final int DYNASTY = 4;
    private static final int BLANK = 5;
    private static final int TRUCE = 6;
    private static final int ALL_KINDS = 7;

    /** The kind right above each kind; -1 above TREATY. */
    private static final int[] ABOVE = {-1, TREATY, TREATY, TRADE, LEASE, TREATY, PEACE};

    private final World world = new World();
    private final World kept = new World();
    private boolean isKept = false;
    /** What only might be is played in these, so that asking makes no objects. */
    private final World trial = new World();
    private final Treaty alone = new Treaty();
    private final int[] ups = new int[FORESEEN];
    private final Strains strains = new Strains();
    private final int[] gains = new int[TREATIES];
    private final int[] tornGains = new int[TREATIES];
    private final Reader reader = new Reader();
    private final Sheet[] sheets = new Sheet[SHEETS];
    private final int[] findings = new int[FINDINGS];

    public MarkTreaties() {
        for (int s = 0; s < SHEETS; s++) {
            sheets[s] = new Sheet();
        }
    }

    // ---- chancellery, treaties

    public int set(int what, int figures) {
        if (!isWithin(what, 1) || !isWithin(figures, ALL_FIGURES)) {
            return finding(BEYOND);
        }
        int was = figuresOf(what);
        if (what == 0) {
            world.yard = figures;
        } else {
            world.up = figures;
        }
        return was;
    }

    public int seen(int what) {
        return isWithin(what, 1) ? figuresOf(what) : finding(BEYOND);
    }

    public int event(int i, int figure) {
        if (!isWithin(i, PLACES - 1) || !isWithin(figure, NOTHING)) {
            return finding(BEYOND);
        }
        int was = world.list[i];
        world.list[i] = figure;
        return was;
    }

    public int listed(int i) {
        return isWithin(i, PLACES - 1) ? world.list[i] : finding(BEYOND);
    }

    public int treaty(int kind, int first, int other) {
        if (!isWithin(kind, ALL_KINDS - 1) || !isPair(first, other)) {
            return finding(BEYOND);
        }
        if (world.size >= TREATIES) {
            return finding(FULL);
        }
        world.sign(kind, first, other);
        return world.size - 1;
    }

    public int of(int treaty, int what) {
        if (!isTreaty(treaty) || !isWithin(what, 12)) {
            return finding(BEYOND);
        }
        return world.treaties[treaty].tell(what, world.up);
    }

    public int change(int treaty, int what, int v) {
        if (!isTreaty(treaty) || !isWithin(what, 7)) {
            return finding(BEYOND);
        }
        Treaty changed = world.treaties[treaty];
        if (!changed.takes(what, v)) {
            return finding(BEYOND);
        }
        int was = changed.tell(what, world.up);
        changed.alter(what, v);
        return was;
    }

    public int wars(int power) {
        if (!isWithin(power, POWERS - 1)) {
            return finding(BEYOND);
        }
        long pairs = world.pairsAtWar();
        int enemies = 0;
        for (int other = 0; other < POWERS; other++) {
            if (other != power && (pairs & pair(power, other)) != 0) {
                enemies |= 1 << other;
            }
        }
        return enemies;
    }

    // ---- years

    public int go(int n) {
        if (n < 1 || n > 60) {
            return finding(BEYOND);
        }
        if (world.year + n > LAST_YEAR) {
            return finding(STATE);
        }
        world.passYears(n);
        return world.inForce();
    }

    public int now(int what) {
        switch (what) {
            case 0: return world.year;
            case 1: return world.inForce();
            case 2: return world.gold;
            case 3: return world.allBroken();
            case 4: return Long.bitCount(world.pairsAtWar());
            case 5: return world.breaking();
            case 6: return world.marksInForce();
            case 7: return world.longestHeld();
            default: return finding(BEYOND);
        }
    }

    // ---- what will be (nothing changes)

    public int ahead(int treaty, int what, int n) {
        boolean isAsked = what >= 3 && what <= 7 || what == 10;
        if (!isTreaty(treaty) || !isAsked || !isWithin(n, 100)) {
            return finding(BEYOND);
        }
        foreseeUps(n);
        tryAlone(treaty);
        alone.liveYears(ups, n, world.yard);
        return alone.tell(what, world.up);
    }

    public int gold(int n) {
        if (!isWithin(n, 100)) {
            return finding(BEYOND);
        }
        trial.become(world);
        trial.passYears(n);
        return trial.gold;
    }

    public int breaks(int treaty) {
        if (!isTreaty(treaty)) {
            return finding(BEYOND);
        }
        foreseeUps(FORESEEN);
        tryAlone(treaty);
        int before = alone.broken;
        for (int n = 1; n <= FORESEEN; n++) {
            alone.live(ups[n - 1], world.yard);
            if (alone.broken > before) {
                return n;
            }
        }
        return finding(NONE);
    }

    public int war(int a, int b) {
        if (!isPair(a, b)) {
            return finding(BEYOND);
        }
        long asked = pair(a, b);
        trial.become(world);
        for (int n = 0; n <= FORESEEN; n++) {
            if ((trial.pairsAtWar() & asked) != 0) {
                return n;
            }
            trial.pass();
        }
        return finding(NONE);
    }

    public int peace() {
        trial.become(world);
        for (int n = 0; n <= FORESEEN; n++) {
            if (trial.pairsAtWar() == 0) {
                return n;
            }
            trial.pass();
        }
        return finding(NONE);
    }

    public int when(int treaty, int v) {
        if (!isTreaty(treaty) || !isWithin(v, MOST_YEARS)) {
            return finding(BEYOND);
        }
        foreseeUps(FORESEEN);
        tryAlone(treaty);
        for (int n = 0; n <= FORESEEN; n++) {
            if (alone.held >= v) {
                return n;
            }
            if (n < FORESEEN) {
                alone.live(ups[n], world.yard);
            }
        }
        return finding(NONE);
    }

    // ---- how to keep the peace

    public int yardFor(int n) {
        if (!isWithin(n, 60)) {
            return finding(BEYOND);
        }
        int best = 0;
        int most = -1;
        for (int figure = 0; figure < FIGURES; figure++) {
            trial.become(world);
            trial.yard = 1 << figure;
            trial.passYears(n);
            if (trial.gold > most) {
                most = trial.gold;
                best = figure;
            }
        }
        return best;
    }

    public int kindFor(int treaty, int n) {
        if (!isTreaty(treaty) || !isWithin(n, 60)) {
            return finding(BEYOND);
        }
        foreseeUps(n);
        int best = 0;
        int least = MOST_YEARS + 1;
        for (int kind = 0; kind < ALL_KINDS; kind++) {
            tryAlone(treaty);
            alone.kind = kind;
            alone.liveYears(ups, n, world.yard);
            if (alone.broken < least) {
                least = alone.broken;
                best = kind;
            }
        }
        return best;
    }

    public int strike(int treaty, int n) {
        if (!isTreaty(treaty) || !isWithin(n, 60)) {
            return finding(BEYOND);
        }
        foreseeUps(n);
        int saving = 0;
        for (int figure = 0; figure < FIGURES; figure++) {
            tryAlone(treaty);
            alone.mark &= ~(1 << figure);
            alone.liveYears(ups, n, world.yard);
            if (alone.force == 1) {
                saving |= 1 << figure;
            }
        }
        return saving;
    }

    public int lull(int n) {
        if (!isWithin(n, LULLED_YEARS)) {
            return finding(BEYOND);
        }
        foreseeStrains(n);
        int best = -1;
        int fewest = FIGURES + 1;
        for (int figures = 0; figures <= ALL_FIGURES; figures++) {
            int many = Integer.bitCount(figures);
            if (many < fewest && strains.areEasedBy(figures)) {
                fewest = many;
                best = figures;
            }
        }
        return best < 0 ? finding(NONE) : best;
    }

    public int tear(int v, int n) {
        if (!isWithin(v, MOST_GOLD) || !isWithin(n, 20)) {
            return finding(BEYOND);
        }
        foreseeGains(n);
        int best = -1;
        int fewest = TREATIES + 1;
        for (int torn = 0; torn < 1 << world.size; torn++) {
            int many = Integer.bitCount(torn);
            if (many < fewest && goldWithTorn(torn) <= v) {
                fewest = many;
                best = torn;
            }
        }
        return best < 0 ? finding(NONE) : best;
    }

    // ---- by told years

    public int fits(int s, int treaty) {
        int wrong = faultOfSheetAndTreaty(s, treaty);
        if (wrong >= 0) {
            return finding(wrong);
        }
        int asked = sheets[s].lastTold(ASKED_OF_FITS);
        foreseeUps(asked);
        int weighing = figuresWeighing(treaty, asked);
        int fitting = 0;
        for (int mark = 0; mark <= weighing; mark++) {
            if ((mark & ~weighing) == 0 && fitsMark(sheets[s], asked, treaty, mark)) {
                fitting++;
            }
        }
        // The other figures may be in a mark or not, as they like.
        return fitting << FIGURES - Integer.bitCount(weighing);
    }

    public int kinds(int s, int treaty) {
        int wrong = faultOfSheetAndTreaty(s, treaty);
        if (wrong >= 0) {
            return finding(wrong);
        }
        int asked = sheets[s].lastTold(NUMBERS);
        foreseeUps(asked);
        int fitting = 0;
        for (int kind = 0; kind < ALL_KINDS; kind++) {
            tryAlone(treaty);
            alone.kind = kind;
            if (followsSheet(sheets[s], asked, WHAT_MARK)) {
                fitting |= 1 << kind;
            }
        }
        return fitting;
    }

    // ---- wakings

    public int wakings(int n) {
        if (n < 1 || n > 20) {
            return finding(BEYOND);
        }
        if (world.year + n > LAST_YEAR) {
            return finding(STATE);
        }
        for (int i = 0; i < n; i++) {
            world.list[world.year % PLACES] = world.draw() % (NOTHING + 1);
            world.yard ^= 1 << world.draw() % FIGURES;
            world.pass();
        }
        return world.inForce();
    }

    public long odds(int treaty, int n, int what) {
        if (!isTreaty(treaty) || !isWithin(n, 17) || !isWithin(what, 1)) {
            return finding(BEYOND);
        }
        int missed = FIGURES - Integer.bitCount(world.treaties[treaty].mark);
        int shared = sharedDivisor(missed, FIGURES);
        // A power of a fraction in lowest terms is in lowest terms, too.
        return power((what == 0 ? missed : FIGURES) / shared, n);
    }

    public int seed(int v) {
        int was = world.z;
        world.z = v;
        return was;
    }

    // ---- texts

    public int feed(int bytes, int n) {
        if (n < 1 || n > 4) {
            return finding(BEYOND);
        }
        if (reader.length + n > BYTES) {
            return finding(FULL);
        }
        for (int i = n - 1; i >= 0; i--) {
            reader.take((byte) (bytes >>> 8 * i));
        }
        return reader.length;
    }

    public int wipe() {
        int had = reader.length;
        reader.length = 0;
        return had;
    }

    public int text() {
        trial.become(world);
        int items = reader.readInto(trial);
        reader.length = 0;
        if (items >= 0) {
            world.become(trial);
        }
        return items;
    }

    // ---- spots, sheets

    public int hold(int spot, int treaty) {
        if (!isWithin(spot, SPOTS - 1) || treaty != -1 && !isTreaty(treaty)) {
            return finding(BEYOND);
        }
        world.spots[spot] = treaty;
        return 1;
    }

    public int as(int spot, int kind) {
        if (!isWithin(spot, SPOTS - 1) || !isWithin(kind, ALL_KINDS - 1)) {
            return finding(BEYOND);
        }
        int held = world.spots[spot];
        if (!isTreaty(held)) {
            return finding(MISSING);
        }
        return world.treaties[held].isA(kind) ? held : finding(KIND);
    }

    public int sheet(int s, int bits, int n) {
        if (!isSheet(s) || bits != 0 && bits != 8 && bits != 16 && bits != 32) {
            return finding(BEYOND);
        }
        if (n < 0) {
            return finding(SIZE);
        }
        if (n > NUMBERS) {
            return finding(BEYOND);
        }
        sheets[s].begin(bits, n);
        return sheets[s].length;
    }

    public int write(int s, int i, int v) {
        if (!isSheet(s)) {
            return finding(BEYOND);
        }
        if (sheets[s].isMissing()) {
            return finding(MISSING);
        }
        if (!isWithin(i, sheets[s].length - 1)) {
            return finding(BEYOND);
        }
        sheets[s].put(i, v);
        return 1;
    }

    public int copy(int s, int from, int t, int to, int n) {
        if (!isSheet(s) || !isSheet(t)) {
            return finding(BEYOND);
        }
        Sheet source = sheets[s];
        Sheet target = sheets[t];
        if (source.isMissing() || target.isMissing()) {
            return finding(MISSING);
        }
        if (source.bits != target.bits) {
            return finding(KIND);
        }
        if (!source.hasRange(from, n) || !target.hasRange(to, n)) {
            return finding(BEYOND);
        }
        System.arraycopy(source.numbers, from, target.numbers, to, n);
        return n;
    }

    public int load(int s) {
        int wrong = faultOfSheet(s);
        if (wrong >= 0) {
            return finding(wrong);
        }
        int most = Math.min(sheets[s].length, world.size);
        for (int i = 0; i < most; i++) {
            if (!isWithin(sheets[s].numbers[i], ALL_FIGURES)) {
                return i;
            }
            world.treaties[i].mark = sheets[s].numbers[i];
        }
        return most;
    }

    public int judge(int s) {
        int wrong = faultOfSheet(s);
        if (wrong >= 0) {
            return finding(wrong);
        }
        for (int i = 0; i < sheets[s].length; i++) {
            if (!isTreaty(i) || world.treaties[i].held != sheets[s].numbers[i]) {
                return 1 + i;
            }
        }
        return 0;
    }

    // ---- images

    public int image() {
        kept.become(world);
        isKept = true;
        return 1;
    }

    public int undo() {
        if (!isKept) {
            return finding(NONE);
        }
        world.become(kept);
        return world.year;
    }

    public int forget() {
        int had = isKept ? 1 : 0;
        isKept = false;
        return had;
    }

    public int count(int what) {
        switch (what) {
            case 0: return world.year;
            case 1: return world.size;
            case 2: return Integer.bitCount(world.inForce());
            case 3: return world.gold;
            case 4: return world.allBroken();
            case 5: return reader.length;
            case 6: return world.z;
            case 7: return world.spotsHolding();
            default: return finding(BEYOND);
        }
    }

    public int status(int which) {
        if (which == -1) {
            int all = 0;
            for (int i = 0; i < FINDINGS; i++) {
                all += findings[i];
            }
            return all;
        }
        return isWithin(which, FINDINGS - 1) ? findings[which] : finding(BEYOND);
    }

    // ---- what the acts share

    private int finding(int which) {
        if (isWithin(which, FINDINGS - 1)) {
            findings[which]++;
        }
        return LOW - which;
    }

    private static boolean isWithin(int v, int most) {
        return v >= 0 && v <= most;
    }

    private static boolean isPair(int a, int b) {
        return isWithin(a, POWERS - 1) && isWithin(b, POWERS - 1) && a != b;
    }

    /** A pair of powers as one bit, whichever of them is told first. */
    private static long pair(int a, int b) {
        return 1L << Math.min(a, b) * POWERS + Math.max(a, b);
    }

    private boolean isTreaty(int treaty) {
        return isWithin(treaty, world.size - 1);
    }

    private boolean isSheet(int s) {
        return isWithin(s, SHEETS - 1);
    }

    private int figuresOf(int what) {
        return what == 0 ? world.yard : world.up;
    }

    /** The finding that a sheet calls for, or -1. */
    private int faultOfSheet(int s) {
        if (!isSheet(s)) {
            return BEYOND;
        }
        return sheets[s].isMissing() ? MISSING : -1;
    }

    private int faultOfSheetAndTreaty(int s, int treaty) {
        int wrong = faultOfSheet(s);
        if (wrong >= 0) {
            return wrong;
        }
        return isTreaty(treaty) ? -1 : BEYOND;
    }

    /** A treaty may be tried without the others: what befalls it hangs on none of them. */
    private void tryAlone(int treaty) {
        if (isTreaty(treaty)) {
            alone.become(world.treaties[treaty]);
        }
    }

    /** Who will be up in each of the next years: that hangs on no treaty. */
    private void foreseeUps(int n) {
        int up = world.up;
        int year = world.year;
        for (int i = 0; i < n && i < FORESEEN; i++) {
            up = toggled(up, world.list[year % PLACES]);
            ups[i] = up;
            year = Math.min(year + 1, LAST_YEAR);
        }
    }

    /** Which figures of its mark now may make out whether a treaty is in force in the next years. */
    private int figuresWeighing(int treaty, int n) {
        tryAlone(treaty);
        if (alone.force == 0 || alone.kind == BLANK) {
            return 0;
        }
        // Which figure fades hangs on those that sleep, too.
        if (alone.fadesWithin(n)) {
            return ALL_FIGURES;
        }
        int weighing = 0;
        for (int i = 0; i < n && i < FORESEEN; i++) {
            weighing |= ups[i];
        }
        return weighing;
    }

    private boolean fitsMark(Sheet told, int asked, int treaty, int mark) {
        tryAlone(treaty);
        alone.mark = mark;
        return followsSheet(told, asked, WHAT_FORCE);
    }

    /** Whether what is told of the treaty alone, now and year by year, is as a sheet has it. */
    private boolean followsSheet(Sheet told, int asked, int what) {
        for (int i = 0; i < asked; i++) {
            if (isWithin(i - 1, FORESEEN - 1)) {
                alone.live(ups[i - 1], world.yard);
            }
            if (!told.allows(i, alone.tell(what, world.up))) {
                return false;
            }
        }
        return true;
    }

    /**
     * Until a treaty breaks, its marks don't hang on who is up: so a life with all asleep tells them, and lulled
     * figures only lack among those that would be up.
     */
    private void foreseeStrains(int n) {
        strains.size = 0;
        foreseeUps(n);
        for (int t = 0; t < world.size; t++) {
            tryAlone(t);
            for (int i = 0; i < n; i++) {
                strains.addOf(alone, ups[i]);
                alone.live(0, world.yard);
            }
        }
    }

    private void foreseeGains(int n) {
        foreseeUps(n);
        for (int t = 0; t < world.size; t++) {
            tryAlone(t);
            gains[t] = alone.liveYears(ups, n, world.yard);
            tryAlone(t);
            alone.force = 0;
            alone.waits = 0;
            tornGains[t] = alone.liveYears(ups, n, world.yard);
        }
    }

    /** Gold never gets less, so its limit may be asked once, at the end. */
    private int goldWithTorn(int torn) {
        int gold = world.gold;
        for (int t = 0; t < world.size; t++) {
            gold += (torn >> t & 1) == 1 ? tornGains[t] : gains[t];
        }
        return Math.min(gold, MOST_GOLD);
    }

    private static int toggled(int up, int figure) {
        return figure < FIGURES ? up ^ 1 << figure : up;
    }

    /** The greatest number up to below (which divides itself) that divides both. */
    private static int sharedDivisor(int above, int below) {
        for (int d = below; d > 1; d--) {
            if (above % d == 0 && below % d == 0) {
                return d;
            }
        }
        return 1;
    }

    private static long power(int base, int n) {
        long product = 1;
        for (int i = 0; i < n; i++) {
            product *= base;
        }
        return product;
    }

    /** A treaty between two powers on marked paper. */
    private static final class Treaty {
        private int kind;
        private int first;
        private int other;
        private int mark;
        private int force;
        private int held;
        private int waits;
        private int broken;

        private void begin(int ofKind, int between, int and, int onMark) {
            kind = ofKind;
            first = between;
            other = and;
            mark = onMark;
            force = 1;
            held = 0;
            waits = 0;
            broken = 0;
        }

        private void become(Treaty model) {
            kind = model.kind;
            first = model.first;
            other = model.other;
            mark = model.mark;
            force = model.force;
            held = model.held;
            waits = model.waits;
            broken = model.broken;
        }

        private int tell(int what, int up) {
            switch (what) {
                case 0: return kind;
                case 1: return first;
                case 2: return other;
                case 3: return mark;
                case 4: return force;
                case 5: return held;
                case 6: return waits;
                case 7: return broken;
                case 8: return bears(up);
                case 9: return fades();
                case 10: return yields();
                case 11: return renews();
                default: return Integer.bitCount(mark & up);
            }
        }

        private boolean takes(int what, int v) {
            switch (what) {
                case 0: return isWithin(v, ALL_KINDS - 1);
                case 1: return isPair(v, other);
                case 2: return isPair(first, v);
                case 3: return isWithin(v, ALL_FIGURES);
                case 4: return isWithin(v, 1);
                default: return isWithin(v, MOST_YEARS);
            }
        }

        private void alter(int what, int v) {
            switch (what) {
                case 0: kind = v; break;
                case 1: first = v; break;
                case 2: other = v; break;
                case 3: mark = v; break;
                case 4: force = v; break;
                case 5: held = v; break;
                case 6: waits = v; break;
                default: broken = v; break;
            }
        }

        /** Whether its kind is the one told or under it. */
        private boolean isA(int asked) {
            int above = kind;
            for (int i = 0; i < ALL_KINDS && isWithin(above, ALL_KINDS - 1); i++) {
                if (above == asked) {
                    return true;
                }
                above = ABOVE[above];
            }
            return false;
        }

        private int bears(int up) {
            int borneByPeace = held >= 10 ? 1 : 0;
            switch (kind) {
                case PEACE: return borneByPeace;
                case TRUCE: return borneByPeace + 2;
                case TRADE: return 1;
                case LEASE: return 2;
                case DYNASTY: return (mark & up & LAST_FIGURE) != 0 ? 0 : 2;
                case BLANK: return FIGURES;
                default: return 0;
            }
        }

        private int fades() {
            switch (kind) {
                case PEACE: return 40;
                case TRUCE: return 3;
                case TRADE: return 15;
                case LEASE: return 15;
                case DYNASTY: return 0;
                case BLANK: return 1;
                default: return 20;
            }
        }

        private int yields() {
            switch (kind) {
                case PEACE: return mark == 0 ? 2 : 1;
                case TRUCE: return 0;
                case TRADE: return 1 + Integer.bitCount(mark);
                case LEASE: return 3 + Integer.bitCount(mark);
                case DYNASTY: return 2 * (3 + Integer.bitCount(mark));
                case BLANK: return 0;
                default: return 1;
            }
        }

        private int renews() {
            switch (kind) {
                case PEACE: return 10;
                case TRUCE: return 1;
                case TRADE: return 3;
                case LEASE: return 3;
                case DYNASTY: return 0;
                case BLANK: return 6;
                default: return 5;
            }
        }

        private boolean isOverborne(int up) {
            return Integer.bitCount(mark & up) > bears(up);
        }

        /** One year of it; answers the gold that it brings. */
        private int live(int up, int yard) {
            if (force == 0) {
                await(yard);
                return 0;
            }
            if (isOverborne(up)) {
                force = 0;
                broken = Math.min(broken + 1, MOST_YEARS);
                held = 0;
                waits = 0;
                return 0;
            }
            int brings = yields();
            held = Math.min(held + 1, MOST_YEARS);
            fade();
            return brings;
        }

        /** Years of it, as figures are up in each; answers the gold that they bring. */
        private int liveYears(int[] ups, int n, int yard) {
            int brings = 0;
            for (int i = 0; i < n && i < ups.length; i++) {
                brings += live(ups[i], yard);
            }
            return brings;
        }

        private void await(int yard) {
            waits = Math.min(waits + 1, MOST_YEARS);
            int renewal = renews();
            if (renewal > 0 && waits >= renewal) {
                force = 1;
                mark = yard;
                held = 0;
                waits = 0;
            }
        }

        private void fade() {
            if (isToFade(held)) {
                mark &= ~Integer.highestOneBit(mark);
            }
        }

        private boolean isToFade(int years) {
            int every = fades();
            return every > 0 && years % every == 0;
        }

        private boolean fadesWithin(int n) {
            for (int i = 1; i <= n; i++) {
                if (isToFade(Math.min(held + i, MOST_YEARS))) {
                    return true;
                }
            }
            return false;
        }
    }

    /** All that an image keeps. */
    private static final class World {
        private int yard = 1;
        private int up = 0;
        private final int[] list = new int[PLACES];
        private int gold = 0;
        private int year = 0;
        private int z = 1;
        private final Treaty[] treaties = new Treaty[TREATIES];
        private int size = 0;
        private final int[] spots = new int[SPOTS];

        private World() {
            for (int i = 0; i < PLACES; i++) {
                list[i] = NOTHING;
            }
            for (int t = 0; t < TREATIES; t++) {
                treaties[t] = new Treaty();
            }
            for (int spot = 0; spot < SPOTS; spot++) {
                spots[spot] = -1;
            }
        }

        private void become(World model) {
            yard = model.yard;
            up = model.up;
            System.arraycopy(model.list, 0, list, 0, PLACES);
            gold = model.gold;
            year = model.year;
            z = model.z;
            size = model.size;
            for (int t = 0; t < size && t < TREATIES; t++) {
                treaties[t].become(model.treaties[t]);
            }
            System.arraycopy(model.spots, 0, spots, 0, SPOTS);
        }

        /** Signs a new treaty on paper that is made now, if there is room. */
        private void sign(int kind, int first, int other) {
            if (size < TREATIES) {
                treaties[size].begin(kind, first, other, yard);
                size++;
            }
        }

        private int draw() {
            z = z * 1103515245 + 12345;
            return z >>> 8;
        }

        private void passYears(int n) {
            for (int i = 0; i < n; i++) {
                pass();
            }
        }

        private void pass() {
            up = toggled(up, list[year % PLACES]);
            for (int t = 0; t < size; t++) {
                gold = Math.min(gold + treaties[t].live(up, yard), MOST_GOLD);
            }
            year = Math.min(year + 1, LAST_YEAR);
        }

        private int inForce() {
            int found = 0;
            for (int t = 0; t < size; t++) {
                found |= treaties[t].force << t;
            }
            return found;
        }

        private int breaking() {
            int found = 0;
            for (int t = 0; t < size; t++) {
                if (treaties[t].force == 1 && treaties[t].isOverborne(up)) {
                    found |= 1 << t;
                }
            }
            return found;
        }

        private int marksInForce() {
            int found = 0;
            for (int t = 0; t < size; t++) {
                if (treaties[t].force == 1) {
                    found |= treaties[t].mark;
                }
            }
            return found;
        }

        private int longestHeld() {
            int found = -1;
            int longest = -1;
            for (int t = 0; t < size; t++) {
                if (treaties[t].force == 1 && treaties[t].held > longest) {
                    longest = treaties[t].held;
                    found = t;
                }
            }
            return found;
        }

        private int allBroken() {
            int sum = 0;
            for (int t = 0; t < size; t++) {
                sum += treaties[t].broken;
            }
            return sum;
        }

        private int spotsHolding() {
            int holding = 0;
            for (int spot = 0; spot < SPOTS; spot++) {
                if (spots[spot] >= 0) {
                    holding++;
                }
            }
            return holding;
        }

        private long pairsAtWar() {
            long bound = 0;
            long safe = 0;
            for (int t = 0; t < size; t++) {
                long both = pair(treaties[t].first, treaties[t].other);
                bound |= both;
                if (treaties[t].force == 1) {
                    safe |= both;
                }
            }
            return bound & ~safe;
        }
    }

    /** What treaties would have to bear, year by year: figures that are up, and how many of them are borne. */
    private static final class Strains {
        private static final int MOST = 2 * TREATIES * LULLED_YEARS;
        private final int[] figures = new int[MOST];
        private final int[] borne = new int[MOST];
        private int size = 0;

        private void addOf(Treaty treaty, int up) {
            if (treaty.force == 0) {
                return;
            }
            int awake = treaty.mark & up;
            if (treaty.kind == DYNASTY) {
                // The last figure breaks a dynasty by itself; what it bears is told for that one asleep.
                add(awake & LAST_FIGURE, 0);
            }
            add(awake, treaty.bears(0));
        }

        private void add(int awake, int bears) {
            if (Integer.bitCount(awake) > bears && size < MOST) {
                figures[size] = awake;
                borne[size] = bears;
                size++;
            }
        }

        private boolean areEasedBy(int lulled) {
            for (int i = 0; i < size; i++) {
                if (Integer.bitCount(figures[i] & ~lulled) > borne[i]) {
                    return false;
                }
            }
            return true;
        }
    }

    /** A row of numbers of so many bits; of 0 bits if it is missing. */
    private static final class Sheet {
        private int bits = 0;
        private int length = 0;
        private final int[] numbers = new int[NUMBERS];

        private boolean isMissing() {
            return bits == 0;
        }

        private void begin(int ofBits, int n) {
            bits = ofBits;
            length = ofBits == 0 ? 0 : Math.min(n, NUMBERS);
            for (int i = 0; i < NUMBERS; i++) {
                numbers[i] = 0;
            }
        }

        private void put(int i, int v) {
            if (isWithin(i, length - 1)) {
                numbers[i] = bits == 8 ? (byte) v : bits == 16 ? (short) v : v;
            }
        }

        private boolean allows(int i, int v) {
            return !isWithin(i, length - 1) || numbers[i] == ANY || numbers[i] == v;
        }

        private boolean hasRange(int from, int n) {
            return from >= 0 && n >= 0 && n <= length && from <= length - n;
        }

        /** How many of the first numbers must be asked: those behind the last that isn't any need not. */
        private int lastTold(int most) {
            for (int i = Math.min(length, most); i > 0; i--) {
                if (numbers[i - 1] != ANY) {
                    return i;
                }
            }
            return 0;
        }
    }

    /** The tape and the one who reads it, a token ahead. */
    private static final class Reader {
        private static final int END = 0;
        private static final int WORD = 1;
        private static final int NUMBER = 2;
        private static final int SEMICOLON = 3;
        private static final int ODD = 4;

        private final byte[] tape = new byte[BYTES];
        private int length = 0;
        private int token = END;
        private int begin = 0;
        private int end = 0;
        private int value = 0;

        private void take(byte next) {
            if (length < BYTES) {
                tape[length] = next;
                length++;
            }
        }

        /** Makes so all that the tape tells: how many items, or -1 less the fault. */
        private int readInto(World world) {
            end = 0;
            advance();
            for (int items = 1; items <= BYTES; items++) {
                if (!readItem(world)) {
                    break;
                }
                if (token == END) {
                    return items;
                }
                if (token != SEMICOLON) {
                    break;
                }
                advance();
            }
            return -1 - begin;
        }

        // What is read into a world of a text with a fault stays: that world is thrown away.

        private boolean readItem(World world) {
            int kind = kindTold();
            if (kind >= 0) {
                return readPowers(world, kind) && readTerms(world);
            }
            if (isWord("yard")) {
                advance();
                world.yard = value;
                return passNumber(ALL_FIGURES);
            }
            if (isWord("up")) {
                advance();
                world.up = value;
                return passNumber(ALL_FIGURES);
            }
            return isWord("event") && readEvent(world);
        }

        private boolean readEvent(World world) {
            advance();
            int place = value;
            if (!passNumber(PLACES - 1)) {
                return false;
            }
            if (isWithin(place, PLACES - 1)) {
                world.list[place] = value;
            }
            return passNumber(NOTHING);
        }

        private boolean readPowers(World world, int kind) {
            if (world.size >= TREATIES) {
                return false;
            }
            advance();
            int first = value;
            if (!passNumber(POWERS - 1)) {
                return false;
            }
            int other = value;
            if (other == first || !passNumber(POWERS - 1)) {
                return false;
            }
            world.sign(kind, first, other);
            return true;
        }

        private boolean readTerms(World world) {
            if (!isWithin(world.size - 1, TREATIES - 1)) {
                return false;
            }
            Treaty signed = world.treaties[world.size - 1];
            if (isWord("mark")) {
                advance();
                signed.mark = value;
                if (!passNumber(ALL_FIGURES)) {
                    return false;
                }
            }
            if (isWord("held")) {
                advance();
                signed.held = value;
                if (!passNumber(MOST_YEARS)) {
                    return false;
                }
            }
            if (isWord("torn")) {
                advance();
                signed.force = 0;
            }
            return true;
        }

        private int kindTold() {
            if (isWord("treaty")) {
                return TREATY;
            }
            if (isWord("peace")) {
                return PEACE;
            }
            if (isWord("trade")) {
                return TRADE;
            }
            if (isWord("lease")) {
                return LEASE;
            }
            if (isWord("dynasty")) {
                return DYNASTY;
            }
            if (isWord("blank")) {
                return BLANK;
            }
            return isWord("truce") ? TRUCE : -1;
        }

        private boolean isWord(String word) {
            if (token != WORD || end - begin != word.length()) {
                return false;
            }
            for (int i = 0; i < word.length() && begin + i < BYTES; i++) {
                if (tape[begin + i] != word.charAt(i)) {
                    return false;
                }
            }
            return true;
        }

        private boolean passNumber(int most) {
            if (token != NUMBER || value > most) {
                return false;
            }
            advance();
            return true;
        }

        private void advance() {
            begin = end;
            while (begin < length && tape[begin] == ' ') {
                begin++;
            }
            end = begin;
            value = 0;
            if (begin >= length) {
                token = END;
            } else if (isLetter(tape[begin])) {
                token = WORD;
                advanceLetters();
            } else if (isDigit(tape[begin])) {
                token = NUMBER;
                advanceDigits();
            } else {
                token = tape[begin] == ';' ? SEMICOLON : ODD;
                end++;
            }
        }

        private void advanceLetters() {
            while (end < length && isLetter(tape[end])) {
                end++;
            }
        }

        private void advanceDigits() {
            while (end < length && isDigit(tape[end])) {
                // It stops growing above the limit, so that no row of digits wraps round to a number.
                if (value <= MOST_YEARS) {
                    value = value * 10 + tape[end] - '0';
                }
                end++;
            }
        }

        private static boolean isLetter(int sign) {
            return sign >= 'a' && sign <= 'z';
        }

        private static boolean isDigit(int sign) {
            return sign >= '0' && sign <= '9';
        }
    }
}
