import java.util.ArrayList;
import java.util.List;
import java.util.function.Consumer;

/**
 * The document over again, as slowly and plainly as can be: every question is asked of a whole copy of the
 * chancellery, every set is tried. ModelTests holds the program against it.
 */
final class Model {
    static final int LOW = -1000001;
    static final int BEYOND = LOW, FULL = LOW - 1, KIND = LOW - 2, NONE = LOW - 3, STATE = LOW - 4,
            MISSING = LOW - 5, SIZE = LOW - 6;
    static final String[] WORDS = {"treaty", "peace", "trade", "lease", "dynasty", "blank", "truce"};

    static final class Pact {
        int kind, first, other, mark, force = 1, held, waits, broken;

        Pact twin() {
            Pact p = new Pact();
            p.kind = kind; p.first = first; p.other = other; p.mark = mark;
            p.force = force; p.held = held; p.waits = waits; p.broken = broken;
            return p;
        }

        int bears(int k, int up) {
            return switch (k) {
                case 0 -> 0;
                case 1 -> bears(0, up) + (held >= 10 ? 1 : 0);
                case 2 -> bears(0, up) + 1;
                case 3 -> 2 * bears(2, up);
                case 4 -> ((mark & up) >> 11 & 1) == 1 ? 0 : bears(3, up);
                case 5 -> 12;
                default -> bears(1, up) + 2;
            };
        }

        int fades(int k) {
            return switch (k) {
                case 0 -> 20;
                case 1 -> 2 * fades(0);
                case 2 -> fades(0) - 5;
                case 3 -> fades(2);
                case 4 -> 0;
                case 5 -> 1;
                default -> 3;
            };
        }

        int yields(int k) {
            return switch (k) {
                case 0 -> 1;
                case 1 -> yields(0) + (mark == 0 ? 1 : 0);
                case 2 -> yields(0) + figures(mark);
                case 3 -> yields(2) + 2;
                case 4 -> 2 * yields(3);
                default -> 0;
            };
        }

        int renews(int k) {
            return switch (k) {
                case 0 -> 5;
                case 1 -> renews(0) + 5;
                case 2 -> renews(0) - 2;
                case 3 -> renews(2);
                case 4 -> 0;
                case 5 -> renews(0) + 1;
                default -> 1;
            };
        }

        int what(int w, int up) {
            int[] all = {kind, first, other, mark, force, held, waits, broken, bears(kind, up), fades(kind),
                yields(kind), renews(kind), figures(mark & up)};
            return all[w];
        }
    }

    static final class State {
        int yard = 1, up, gold, year, z = 1, breaksSeen;
        int[] list = {12, 12, 12, 12, 12, 12};
        int[] spots = {-1, -1, -1, -1, -1, -1, -1, -1, -1, -1};
        List<Pact> pacts = new ArrayList<>();

        State twin() {
            State s = new State();
            s.yard = yard; s.up = up; s.gold = gold; s.year = year; s.z = z;
            s.list = list.clone();
            s.spots = spots.clone();
            for (Pact p : pacts) s.pacts.add(p.twin());
            return s;
        }

        State years(int n) {
            for (int i = 0; i < n; i++) year();
            return this;
        }

        void year() {
            int e = list[year % 6];
            if (e < 12) up ^= 1 << e;
            for (Pact p : pacts) {
                if (p.force == 1 && figures(p.mark & up) > p.bears(p.kind, up)) {
                    p.force = 0;
                    p.broken = Math.min(9999, p.broken + 1);
                    p.held = 0;
                    p.waits = 0;
                    breaksSeen++;
                } else if (p.force == 1) {
                    gold = Math.min(99999, gold + p.yields(p.kind));
                    p.held = Math.min(9999, p.held + 1);
                    int f = p.fades(p.kind);
                    if (f != 0 && p.held % f == 0) {
                        for (int g = 11; g >= 0; g--) {
                            if ((p.mark >> g & 1) == 1) {
                                p.mark -= 1 << g;
                                break;
                            }
                        }
                    }
                } else {
                    p.waits = Math.min(9999, p.waits + 1);
                    int r = p.renews(p.kind);
                    if (r > 0 && p.waits >= r) {
                        p.force = 1;
                        p.mark = yard;
                        p.held = 0;
                        p.waits = 0;
                    }
                }
            }
            year = Math.min(99999, year + 1);
        }

        boolean atWar(int a, int b) {
            boolean any = false;
            for (Pact p : pacts) {
                if (p.first == a && p.other == b || p.first == b && p.other == a) {
                    any = true;
                    if (p.force == 1) return false;
                }
            }
            return any;
        }

        int warCount() {
            int c = 0;
            for (int a = 0; a < 6; a++) for (int b = a + 1; b < 6; b++) if (atWar(a, b)) c++;
            return c;
        }

        int inForce() {
            int s = 0;
            for (int t = 0; t < pacts.size(); t++) if (pacts.get(t).force == 1) s |= 1 << t;
            return s;
        }

        int draw() {
            z = z * 1103515245 + 12345;
            return z >>> 8;
        }
    }

    State now = new State();
    State kept = null;
    List<Integer> tape = new ArrayList<>();
    int[][] sheets = new int[4][];
    int[] bits = new int[4];
    int[] told = new int[7];

    static int figures(int set) {
        int c = 0;
        for (int f = 0; f < 12; f++) c += set >> f & 1;
        return c;
    }

    private int find(int finding) {
        told[LOW - finding]++;
        return finding;
    }

    private static boolean out(int v, int least, int most) {
        return v < least || v > most;
    }

    private boolean noPact(int t) {
        return out(t, 0, now.pacts.size() - 1);
    }

    private State behind(int n, Consumer<State> change) {
        State s = now.twin();
        change.accept(s);
        return s.years(n);
    }

    int set(int what, int figures) {
        if (out(what, 0, 1) || out(figures, 0, 4095)) return find(BEYOND);
        int was = what == 0 ? now.yard : now.up;
        if (what == 0) now.yard = figures; else now.up = figures;
        return was;
    }

    int seen(int what) {
        return what == 0 ? now.yard : what == 1 ? now.up : find(BEYOND);
    }

    int event(int i, int figure) {
        if (out(i, 0, 5) || out(figure, 0, 12)) return find(BEYOND);
        int was = now.list[i];
        now.list[i] = figure;
        return was;
    }

    int listed(int i) {
        return out(i, 0, 5) ? find(BEYOND) : now.list[i];
    }

    int treaty(int kind, int first, int other) {
        if (out(kind, 0, 6) || out(first, 0, 5) || out(other, 0, 5) || first == other) return find(BEYOND);
        if (now.pacts.size() == 8) return find(FULL);
        return sign(now, kind, first, other);
    }

    private static int sign(State s, int kind, int first, int other) {
        Pact p = new Pact();
        p.kind = kind;
        p.first = first;
        p.other = other;
        p.mark = s.yard;
        s.pacts.add(p);
        return s.pacts.size() - 1;
    }

    int of(int t, int what) {
        return noPact(t) || out(what, 0, 12) ? find(BEYOND) : now.pacts.get(t).what(what, now.up);
    }

    int change(int t, int what, int v) {
        if (noPact(t) || out(what, 0, 7)) return find(BEYOND);
        int[] most = {6, 5, 5, 4095, 1, 9999, 9999, 9999};
        Pact p = now.pacts.get(t);
        if (out(v, 0, most[what]) || what == 1 && v == p.other || what == 2 && v == p.first) return find(BEYOND);
        int was = p.what(what, now.up);
        switch (what) {
            case 0 -> p.kind = v;
            case 1 -> p.first = v;
            case 2 -> p.other = v;
            case 3 -> p.mark = v;
            case 4 -> p.force = v;
            case 5 -> p.held = v;
            case 6 -> p.waits = v;
            default -> p.broken = v;
        }
        return was;
    }

    int wars(int power) {
        if (out(power, 0, 5)) return find(BEYOND);
        int s = 0;
        for (int b = 0; b < 6; b++) if (b != power && now.atWar(power, b)) s |= 1 << b;
        return s;
    }

    int go(int n) {
        if (out(n, 1, 60)) return find(BEYOND);
        if (now.year + n > 99999) return find(STATE);
        return now.years(n).inForce();
    }

    int now(int what) {
        int answer = 0;
        switch (what) {
            case 0: return now.year;
            case 1: return now.inForce();
            case 2: return now.gold;
            case 3:
                for (Pact p : now.pacts) answer += p.broken;
                return answer;
            case 4: return now.warCount();
            case 5:
                for (int t = 0; t < now.pacts.size(); t++) {
                    Pact p = now.pacts.get(t);
                    if (p.force == 1 && figures(p.mark & now.up) > p.bears(p.kind, now.up)) answer |= 1 << t;
                }
                return answer;
            case 6:
                for (Pact p : now.pacts) if (p.force == 1) answer |= p.mark;
                return answer;
            case 7:
                answer = -1;
                for (int t = now.pacts.size() - 1; t >= 0; t--) {
                    Pact p = now.pacts.get(t);
                    if (p.force == 1 && (answer < 0 || p.held >= now.pacts.get(answer).held)) answer = t;
                }
                return answer;
            default: return find(BEYOND);
        }
    }

    int ahead(int t, int what, int n) {
        if (noPact(t) || out(what, 3, 7) && what != 10 || out(n, 0, 100)) return find(BEYOND);
        State s = behind(n, x -> { });
        return s.pacts.get(t).what(what, s.up);
    }

    int gold(int n) {
        return out(n, 0, 100) ? find(BEYOND) : behind(n, x -> { }).gold;
    }

    int breaks(int t) {
        if (noPact(t)) return find(BEYOND);
        State s = now.twin();
        for (int n = 1; n <= 200; n++) {
            s.year();
            if (s.pacts.get(t).broken > now.pacts.get(t).broken) return n;
        }
        return find(NONE);
    }

    int war(int a, int b) {
        if (out(a, 0, 5) || out(b, 0, 5) || a == b) return find(BEYOND);
        State s = now.twin();
        for (int n = 0; n <= 200; n++, s.year()) if (s.atWar(a, b)) return n;
        return find(NONE);
    }

    int peace() {
        State s = now.twin();
        for (int n = 0; n <= 200; n++, s.year()) if (s.warCount() == 0) return n;
        return find(NONE);
    }

    int when(int t, int v) {
        if (noPact(t) || out(v, 0, 9999)) return find(BEYOND);
        State s = now.twin();
        for (int n = 0; n <= 200; n++, s.year()) if (s.pacts.get(t).held >= v) return n;
        return find(NONE);
    }

    int yardFor(int n) {
        if (out(n, 0, 60)) return find(BEYOND);
        int best = -1, most = -1;
        for (int f = 11; f >= 0; f--) {
            int yard = 1 << f;
            int gold = behind(n, s -> s.yard = yard).gold;
            if (gold >= most) {
                most = gold;
                best = f;
            }
        }
        return best;
    }

    int kindFor(int t, int n) {
        if (noPact(t) || out(n, 0, 60)) return find(BEYOND);
        int best = -1, least = 99999;
        for (int k = 6; k >= 0; k--) {
            int kind = k;
            int broken = behind(n, s -> s.pacts.get(t).kind = kind).pacts.get(t).broken;
            if (broken <= least) {
                least = broken;
                best = k;
            }
        }
        return best;
    }

    int strike(int t, int n) {
        if (noPact(t) || out(n, 0, 60)) return find(BEYOND);
        int set = 0;
        for (int f = 0; f < 12; f++) {
            int without = 4095 - (1 << f);
            if (behind(n, s -> s.pacts.get(t).mark &= without).pacts.get(t).force == 1) set |= 1 << f;
        }
        return set;
    }

    int lull(int n) {
        if (out(n, 0, 12)) return find(BEYOND);
        for (int many = 0; many <= 12; many++) {
            for (int set = 0; set < 4096; set++) {
                int asleep = set;
                if (figures(set) == many && behind(n, s -> {
                    s.up &= ~asleep;
                    for (int i = 0; i < 6; i++) {
                        if (s.list[i] < 12 && (asleep >> s.list[i] & 1) == 1) s.list[i] = 12;
                    }
                }).breaksSeen == 0) return set;
            }
        }
        return find(NONE);
    }

    int tear(int v, int n) {
        if (out(v, 0, 99999) || out(n, 0, 20)) return find(BEYOND);
        for (int many = 0; many <= now.pacts.size(); many++) {
            for (int set = 0; set < 1 << now.pacts.size(); set++) {
                int torn = set;
                if (figures(set) == many && behind(n, s -> {
                    for (int t = 0; t < s.pacts.size(); t++) {
                        if ((torn >> t & 1) == 1) {
                            s.pacts.get(t).force = 0;
                            s.pacts.get(t).waits = 0;
                        }
                    }
                }).gold <= v) return set;
            }
        }
        return find(NONE);
    }

    private boolean noSheet(int s) {
        return out(s, 0, 3);
    }

    int fits(int s, int t) {
        if (noSheet(s)) return find(BEYOND);
        if (sheets[s] == null) return find(MISSING);
        if (noPact(t)) return find(BEYOND);
        int fit = 0;
        for (int m = 0; m < 4096; m++) {
            State x = now.twin();
            x.pacts.get(t).mark = m;
            boolean so = true;
            for (int i = 0; i < 8 && i < sheets[s].length; i++, x.year()) {
                so &= sheets[s][i] == -1 || sheets[s][i] == x.pacts.get(t).force;
            }
            if (so) fit++;
        }
        return fit;
    }

    int kinds(int s, int t) {
        if (noSheet(s)) return find(BEYOND);
        if (sheets[s] == null) return find(MISSING);
        if (noPact(t)) return find(BEYOND);
        int set = 0;
        for (int k = 0; k < 7; k++) {
            State x = now.twin();
            x.pacts.get(t).kind = k;
            boolean so = true;
            for (int i = 0; i < sheets[s].length; i++, x.year()) {
                so &= sheets[s][i] == -1 || sheets[s][i] == x.pacts.get(t).mark;
            }
            if (so) set |= 1 << k;
        }
        return set;
    }

    int wakings(int n) {
        if (out(n, 1, 20)) return find(BEYOND);
        if (now.year + n > 99999) return find(STATE);
        for (int i = 0; i < n; i++) {
            int first = now.draw();
            int second = now.draw();
            now.list[now.year % 6] = first % 13;
            now.yard ^= 1 << (second % 12);
            now.year();
        }
        return now.inForce();
    }

    long odds(int t, int n, int what) {
        if (noPact(t) || out(n, 0, 17) || out(what, 0, 1)) return find(BEYOND);
        java.math.BigInteger above = java.math.BigInteger.valueOf(12 - figures(now.pacts.get(t).mark)).pow(n);
        java.math.BigInteger below = java.math.BigInteger.valueOf(12).pow(n);
        java.math.BigInteger g = above.gcd(below);
        return (what == 0 ? above : below).divide(g).longValueExact();
    }

    int seed(int v) {
        int was = now.z;
        now.z = v;
        return was;
    }

    int feed(int bytes, int n) {
        if (out(n, 1, 4)) return find(BEYOND);
        if (tape.size() + n > 120) return find(FULL);
        for (int i = n - 1; i >= 0; i--) tape.add(bytes >> 8 * i & 255);
        return tape.size();
    }

    int wipe() {
        int had = tape.size();
        tape.clear();
        return had;
    }

    /** The first place at which a text can't go on, thrown through the levels of its grammar. */
    private static final class Fault extends RuntimeException {
        private static final long serialVersionUID = 1;
        final int place;

        Fault(int place) {
            super(null, null, false, false);
            this.place = place;
        }
    }

    private record Token(String text, int place) {
        boolean isNumber() {
            return !text.isEmpty() && Character.isDigit(text.charAt(0));
        }
    }

    private List<Token> tokens() {
        StringBuilder all = new StringBuilder();
        for (int b : tape) all.append((char) b);
        List<Token> found = new ArrayList<>();
        java.util.regex.Matcher m = java.util.regex.Pattern.compile("[a-z]+|[0-9]+|[^ ]", java.util.regex.Pattern.DOTALL)
                .matcher(all);
        while (m.find()) found.add(new Token(m.group(), m.start()));
        found.add(new Token("", all.length()));
        return found;
    }

    private static int number(List<Token> tokens, int most, int but) {
        Token t = tokens.get(0);
        if (!t.isNumber()) throw new Fault(t.place);
        java.math.BigInteger v = new java.math.BigInteger(t.text);
        if (v.compareTo(java.math.BigInteger.valueOf(most)) > 0 || v.intValue() == but) throw new Fault(t.place);
        tokens.remove(0);
        return v.intValue();
    }

    private static boolean word(List<Token> tokens, String word) {
        if (!tokens.get(0).text.equals(word)) return false;
        tokens.remove(0);
        return true;
    }

    private static void item(State s, List<Token> tokens) {
        int kind = java.util.Arrays.asList(WORDS).indexOf(tokens.get(0).text);
        if (kind >= 0) {
            if (s.pacts.size() == 8) throw new Fault(tokens.get(0).place);
            tokens.remove(0);
            int first = number(tokens, 5, -1);
            int other = number(tokens, 5, first);
            Pact p = s.pacts.get(sign(s, kind, first, other));
            if (word(tokens, "mark")) p.mark = number(tokens, 4095, -1);
            if (word(tokens, "held")) p.held = number(tokens, 9999, -1);
            if (word(tokens, "torn")) p.force = 0;
        } else if (word(tokens, "yard")) {
            s.yard = number(tokens, 4095, -1);
        } else if (word(tokens, "up")) {
            s.up = number(tokens, 4095, -1);
        } else if (word(tokens, "event")) {
            int place = number(tokens, 5, -1);
            s.list[place] = number(tokens, 12, -1);
        } else {
            throw new Fault(tokens.get(0).place);
        }
    }

    int text() {
        List<Token> tokens = tokens();
        tape.clear();
        State s = now.twin();
        try {
            int items = 0;
            do {
                item(s, tokens);
                items++;
            } while (word(tokens, ";"));
            if (!tokens.get(0).text.isEmpty()) throw new Fault(tokens.get(0).place);
            now = s;
            return items;
        } catch (Fault f) {
            return -1 - f.place;
        }
    }

    int hold(int spot, int t) {
        if (out(spot, 0, 9) || t != -1 && noPact(t)) return find(BEYOND);
        now.spots[spot] = t;
        return 1;
    }

    int as(int spot, int kind) {
        if (out(spot, 0, 9) || out(kind, 0, 6)) return find(BEYOND);
        int t = now.spots[spot];
        if (t < 0) return find(MISSING);
        int[][] within = {{0}, {1, 0}, {2, 0}, {3, 2, 0}, {4, 3, 2, 0}, {5, 0}, {6, 1, 0}};
        for (int k : within[now.pacts.get(t).kind]) if (k == kind) return t;
        return find(KIND);
    }

    int sheet(int s, int b, int n) {
        if (noSheet(s) || b != 0 && b != 8 && b != 16 && b != 32) return find(BEYOND);
        if (n < 0) return find(SIZE);
        if (n > 40) return find(BEYOND);
        sheets[s] = b == 0 ? null : new int[n];
        bits[s] = b;
        return b == 0 ? 0 : n;
    }

    int write(int s, int i, int v) {
        if (noSheet(s)) return find(BEYOND);
        if (sheets[s] == null) return find(MISSING);
        if (out(i, 0, sheets[s].length - 1)) return find(BEYOND);
        sheets[s][i] = v << 32 - bits[s] >> 32 - bits[s];
        return 1;
    }

    int copy(int s, int from, int t, int to, int n) {
        if (noSheet(s) || noSheet(t)) return find(BEYOND);
        if (sheets[s] == null || sheets[t] == null) return find(MISSING);
        if (bits[s] != bits[t]) return find(KIND);
        if (from < 0 || to < 0 || n < 0 || (long) from + n > sheets[s].length || (long) to + n > sheets[t].length) {
            return find(BEYOND);
        }
        int[] were = sheets[s].clone();
        for (int i = 0; i < n; i++) sheets[t][to + i] = were[from + i];
        return n;
    }

    int load(int s) {
        if (noSheet(s)) return find(BEYOND);
        if (sheets[s] == null) return find(MISSING);
        int came = 0;
        for (int m : sheets[s]) {
            if (out(m, 0, 4095) || noPact(came)) break;
            now.pacts.get(came).mark = m;
            came++;
        }
        return came;
    }

    int judge(int s) {
        if (noSheet(s)) return find(BEYOND);
        if (sheets[s] == null) return find(MISSING);
        for (int i = 0; i < sheets[s].length; i++) {
            if (noPact(i) || now.pacts.get(i).held != sheets[s][i]) return 1 + i;
        }
        return 0;
    }

    int image() {
        kept = now.twin();
        return 1;
    }

    int undo() {
        if (kept == null) return find(NONE);
        now = kept.twin();
        return now.year;
    }

    int forget() {
        int had = kept == null ? 0 : 1;
        kept = null;
        return had;
    }

    int count(int what) {
        int holding = 0;
        for (int t : now.spots) if (t >= 0) holding++;
        return switch (what) {
            case 0 -> now.year;
            case 1 -> now.pacts.size();
            case 2 -> figures(now.inForce());
            case 3 -> now.gold;
            case 4 -> now(3);
            case 5 -> tape.size();
            case 6 -> now.z;
            case 7 -> holding;
            default -> find(BEYOND);
        };
    }

    int status(int which) {
        if (which == -1) return java.util.Arrays.stream(told).sum();
        return out(which, 0, 6) ? find(BEYOND) : told[which];
    }
}
