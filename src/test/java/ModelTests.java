import java.lang.reflect.Method;
import java.util.ArrayList;
import java.util.List;
import java.util.Random;

/** Long runs of calls, the same in every run of the test, on the program and on the slow model at once. */
public final class ModelTests {
    private static final int RUNS = 400;
    private static final int CALLS = 400;
    private static final String[] NAMES = {"set", "seen", "event", "listed", "treaty", "of", "change", "wars", "go",
        "now", "ahead", "gold", "breaks", "war", "peace", "when", "yardFor", "kindFor", "strike", "lull", "tear",
        "fits", "kinds", "wakings", "odds", "seed", "feed", "wipe", "text", "hold", "as", "sheet", "write", "copy",
        "load", "judge", "image", "undo", "forget", "count", "status"};
    /** What the model answers slowly is asked seldom. */
    private static final List<String> SLOW = List.of("lull", "fits", "tear", "yardFor");

    private final Random random;
    private final int run;
    private final MarkTreaties program = new MarkTreaties();
    private final Model model = new Model();
    private final List<String> calls = new ArrayList<>();
    private boolean differs = false;

    private ModelTests(int run) {
        this.run = run;
        random = new Random(run * 7919L + 17);
    }

    public static void main(String[] args) throws Exception {
        int wrong = 0;
        for (int run = 0; run < RUNS && wrong < 5; run++) {
            if (!new ModelTests(run).agrees()) {
                wrong++;
            }
        }
        wrong += everySlip("dynasty 4 5 mark 2051 held 120 torn;yard 9; up 10 ;event 3 11");
        wrong += everySlip("up 4095;event 5 12;lease 0 1mark0;truce 5 0 held 9999;peace 1 2torn");
        System.out.println(wrong == 0 ? "program and model agree" : wrong + " runs differ");
        if (wrong != 0) {
            System.exit(1);
        }
    }

    /** A text cut off at each place, and with each byte in each place. */
    private static int everySlip(String text) {
        int wrong = 0;
        for (int at = 0; at <= text.length(); at++) {
            wrong += readsAlike(text.substring(0, at));
            for (int b = 0; b < 256 && at < text.length(); b++) {
                wrong += readsAlike(text.substring(0, at) + (char) b + text.substring(at + 1));
            }
        }
        return wrong;
    }

    private static int readsAlike(String text) {
        MarkTreaties program = new MarkTreaties();
        Model model = new Model();
        for (int i = 0; i < text.length(); i++) {
            program.feed(text.charAt(i), 1);
            model.feed(text.charAt(i), 1);
        }
        int want = model.text();
        boolean isAlike = program.text() == want && program.count(1) == model.count(1)
                && program.seen(0) == model.seen(0) && program.seen(1) == model.seen(1);
        for (int i = 0; i < 6; i++) {
            isAlike &= program.listed(i) == model.listed(i);
        }
        for (int t = 0; t < model.count(1); t++) {
            for (int what = 0; what < 8; what++) {
                isAlike &= program.of(t, what) == model.of(t, what);
            }
        }
        if (!isAlike) {
            System.out.println("a text is read otherwise, due is " + want + ": " + text);
        }
        return isAlike ? 0 : 1;
    }

    private boolean agrees() throws Exception {
        furnish();
        while (calls.size() < CALLS && !differs) {
            String name = NAMES[random.nextInt(NAMES.length)];
            if (SLOW.contains(name) && random.nextInt(3) != 0) {
                continue;
            }
            if (name.equals("forget") && random.nextInt(4) != 0) {
                continue;
            }
            if (name.equals("text")) {
                feedText();
            }
            if (name.equals("fits") || name.equals("kinds")) {
                tellYears(name.equals("fits") ? 4 : 3);
            }
            if (name.equals("judge") && random.nextBoolean()) {
                tellHeld();
            }
            call(name, arguments(name));
        }
        return !differs;
    }

    private void furnish() throws Exception {
        int treaties = random.nextInt(9);
        call("set", 0, random.nextInt(4096));
        for (int t = 0; t < treaties; t++) {
            call("treaty", random.nextInt(7), random.nextInt(3), 3 + random.nextInt(3));
            if (random.nextInt(3) == 0) {
                call("change", t, 3, random.nextInt(4096) & random.nextInt(4096));
            }
        }
        for (int i = 0; i < 6; i++) {
            if (random.nextInt(3) != 0) {
                call("event", i, random.nextInt(13));
            }
        }
        call("set", 0, 1 << random.nextInt(12));
    }

    private int upTo(int most) {
        int kind = random.nextInt(30);
        if (kind == 0) {
            return -1 - random.nextInt(3);
        }
        if (kind == 1) {
            return most + 1 + random.nextInt(3);
        }
        if (kind == 2) {
            return random.nextInt();
        }
        return kind == 3 ? most : kind == 4 ? 0 : random.nextInt(most + 1);
    }

    private int someTreaty() {
        int most = model.now.pacts.size() - 1;
        return upTo(Math.max(most, 0));
    }

    private int some(int... choices) {
        return choices[random.nextInt(choices.length)];
    }

    private int[] arguments(String name) {
        switch (name) {
            case "set": return new int[] {upTo(1), upTo(4095)};
            case "seen": return new int[] {upTo(1)};
            case "event": return new int[] {upTo(5), upTo(12)};
            case "listed": case "wars": return new int[] {upTo(5)};
            case "treaty": return new int[] {upTo(6), upTo(5), upTo(5)};
            case "of": return new int[] {someTreaty(), upTo(12)};
            case "change": return changeArguments();
            case "go": return new int[] {some(1, 1, 2, 3, upTo(60))};
            case "now": case "count": return new int[] {upTo(7)};
            case "ahead": return new int[] {someTreaty(), some(3, 4, 5, 6, 7, 10, upTo(12)), upTo(100)};
            case "gold": return new int[] {upTo(100)};
            case "breaks": return new int[] {someTreaty()};
            case "war": return new int[] {upTo(5), upTo(5)};
            case "when": return new int[] {someTreaty(), some(upTo(9999), upTo(40), upTo(250))};
            case "yardFor": return new int[] {upTo(60)};
            case "kindFor": case "strike": return new int[] {someTreaty(), upTo(60)};
            case "lull": return new int[] {upTo(12)};
            case "tear": return new int[] {tearGold(), upTo(20)};
            case "fits": case "kinds": return new int[] {some(0, 0, 0, 0, 0, upTo(3)), someTreaty()};
            case "wakings": return new int[] {some(1, 2, upTo(20))};
            case "odds": return new int[] {someTreaty(), upTo(17), upTo(1)};
            case "seed": return new int[] {random.nextInt()};
            case "feed": return new int[] {random.nextInt(), some(1, 2, 3, 4, 0, 5, -1)};
            case "hold": return new int[] {upTo(9), some(-1, someTreaty(), someTreaty(), someTreaty())};
            case "as": return new int[] {upTo(9), upTo(6)};
            case "sheet": return new int[] {upTo(3), some(8, 16, 16, 32, 32, 0, 9, 64, -8), upTo(40)};
            case "write": return new int[] {upTo(3), upTo(some(3, 39)), some(random.nextInt(), upTo(4095), -1, upTo(9))};
            case "copy": return new int[] {upTo(3), upTo(9), upTo(3), upTo(9), upTo(9)};
            case "load": case "judge": return new int[] {upTo(3)};
            case "status": return new int[] {some(-1, upTo(6))};
            default: return new int[0];
        }
    }

    private int[] changeArguments() {
        int what = upTo(7);
        int[] most = {6, 5, 5, 4095, 1, 9999, 9999, 9999};
        int v = upTo(what >= 0 && what < 8 ? most[what] : 5);
        if (what >= 5 && random.nextBoolean()) {
            v = random.nextInt(45);
        }
        return new int[] {someTreaty(), what, v};
    }

    private int tearGold() {
        return random.nextInt(3) == 0 ? upTo(99999) : Math.min(model.now.gold + random.nextInt(150), 99999);
    }

    /** Puts into sheet 0 what will be of a treaty, with a gap or a slip here and there. */
    private void tellYears(int what) throws Exception {
        if (model.now.pacts.isEmpty() || random.nextInt(4) == 0) {
            return;
        }
        int t = random.nextInt(model.now.pacts.size());
        int n = random.nextInt(13);
        call("sheet", 0, some(8, 16, 32, 32), n);
        Model.State s = model.now.twin();
        for (int i = 0; i < n; i++, s.year()) {
            int v = s.pacts.get(t).what(what, s.up);
            call("write", 0, i, random.nextInt(4) == 0 ? -1 : random.nextInt(30) == 0 ? v + 1 : v);
        }
    }

    private void tellHeld() throws Exception {
        int n = random.nextInt(10);
        call("sheet", 0, 16, n);
        for (int i = 0; i < n && i < model.now.pacts.size(); i++) {
            call("write", 0, i, model.now.pacts.get(i).held + (random.nextInt(8) == 0 ? 1 : 0));
        }
    }

    private void feedText() throws Exception {
        if (random.nextInt(5) == 0) {
            return;
        }
        call("wipe");
        byte[] text = someText().getBytes(java.nio.charset.StandardCharsets.ISO_8859_1);
        int end = Math.min(text.length, 120);
        for (int i = 0; i < end; ) {
            int n = Math.min(4, end - i);
            int bytes = random.nextInt();
            for (int k = 0; k < n; k++) {
                bytes = bytes << 8 | text[i + k] & 255;
            }
            call("feed", bytes, n);
            i += n;
        }
    }

    private String someText() {
        StringBuilder text = new StringBuilder();
        int items = 1 + random.nextInt(4);
        for (int i = 0; i < items; i++) {
            text.append(i == 0 ? "" : gap() + ";" + gap()).append(someItem());
        }
        if (random.nextInt(3) == 0 && text.length() > 0) {
            int at = random.nextInt(text.length());
            String slips = " ;09azkM\t\u0000\u00e9";
            text.setCharAt(at, slips.charAt(random.nextInt(slips.length())));
        }
        if (random.nextInt(12) == 0) {
            text.setLength(random.nextInt(text.length() + 1));
        }
        return text.toString();
    }

    private String gap() {
        return some(0, 0, 1) == 0 ? "" : "  ".substring(random.nextInt(2));
    }

    private String someItem() {
        switch (random.nextInt(9)) {
            case 0: return "yard" + gap() + number(4095);
            case 1: return "up " + number(4095);
            case 2: return "event" + gap() + number(5) + " " + number(12);
            default: break;
        }
        StringBuilder item = new StringBuilder(Model.WORDS[random.nextInt(7)]);
        item.append(gap()).append(number(5)).append(" ").append(number(5)).append(gap());
        if (random.nextBoolean()) {
            item.append("mark").append(gap()).append(number(4095)).append(gap());
        }
        if (random.nextBoolean()) {
            item.append("held").append(gap()).append(number(9999)).append(gap());
        }
        return item.append(random.nextInt(3) == 0 ? "torn" : "").toString();
    }

    private String number(int most) {
        String zeros = random.nextInt(8) == 0 ? "000000".substring(random.nextInt(6)) : "";
        int v = random.nextInt(25) == 0 ? most + 1 + random.nextInt(10) : random.nextInt(most + 1);
        return random.nextInt(80) == 0 ? "4294967297" : zeros + v;
    }

    private void call(String name, int... arguments) throws Exception {
        Class<?>[] types = new Class<?>[arguments.length];
        Object[] values = new Object[arguments.length];
        StringBuilder words = new StringBuilder(name).append('(');
        for (int i = 0; i < arguments.length; i++) {
            types[i] = int.class;
            values[i] = arguments[i];
            words.append(i == 0 ? "" : ", ").append(arguments[i]);
        }
        Method ours = MarkTreaties.class.getMethod(name, types);
        Method due = Model.class.getDeclaredMethod(name, types);
        long got = ((Number) ours.invoke(program, values)).longValue();
        long want = ((Number) due.invoke(model, values)).longValue();
        calls.add(words.append(") = ").append(got).toString());
        if (got != want && !differs) {
            differs = true;
            System.out.println("run " + run + ", call " + calls.size() + ": due is " + want);
            for (String made : calls) {
                System.out.println("  " + made);
            }
        }
    }
}
