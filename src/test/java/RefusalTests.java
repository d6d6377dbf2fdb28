import java.util.Arrays;
import java.util.List;
import java.util.function.Supplier;

/**
 * Promises 2 to 42, act by act: each argument at both ends of what it may be, one beyond each, and as far beyond as can
 * be; each finding that an act tells; the order in which it asks them. Of every refused call: the finding, that it is
 * counted once, and that nothing else changes.
 */
public final class RefusalTests {
    private static final Due due = new Due();
    private static final int MIN = Integer.MIN_VALUE;
    private static final int MAX = Integer.MAX_VALUE;
    private static final List<Long> FURNISHED = Whole.told(Whole.furnished());
    private static final List<Long> FULL = Whole.told(Whole.full());

    public static void main(String[] args) {
        chancellery();
        treaties();
        years();
        whatWillBe();
        keepingPeace();
        toldYears();
        wakings();
        texts();
        spots();
        sheets();
        copies();
        images();
        due.end();
    }

    private static void refused(int promise, long finding, String name, int... arguments) {
        refused(promise, Whole::furnished, FURNISHED, finding, name, arguments);
    }

    private static void refusedByFull(int promise, long finding, String name, int... arguments) {
        refused(promise, Whole::full, FULL, finding, name, arguments);
    }

    private static void refused(int promise, Supplier<MarkTreaties> base, List<Long> told, long finding, String name,
            int... arguments) {
        String words = promise + " " + name + Arrays.toString(arguments);
        MarkTreaties x = base.get();
        long[] want = Whole.status(x);
        long all = x.status(-1) + 1;
        want[(int) (Due.BEYOND - finding)]++;
        due.is(words, Due.call(x, name, arguments), finding);
        long[] got = Whole.status(x);
        due.is(words + " is counted " + Arrays.toString(got), Arrays.equals(got, want) ? 1 : 0, 1);
        due.is(words + " is counted once among all", x.status(-1), all);
        due.is(words + " changes nothing else", told.equals(Whole.told(x)) ? 1 : 0, 1);
    }

    private static void taken(int promise, String name, int... arguments) {
        MarkTreaties x = Whole.furnished();
        Due.call(x, name, arguments);
        due.is(promise + " " + name + Arrays.toString(arguments) + " is taken", x.status(0), 0);
    }

    /** An argument may be least to most, and is BEYOND elsewhere; the others are as told. */
    private static void range(int promise, String name, int which, int least, int most, int... arguments) {
        for (int v : new int[] {least, most}) {
            int[] within = arguments.clone();
            within[which] = v;
            taken(promise, name, within);
        }
        for (int v : new int[] {least - 1, most + 1, MIN, MAX}) {
            int[] beyond = arguments.clone();
            beyond[which] = v;
            refused(promise, Due.BEYOND, name, beyond);
        }
    }

    private static void chancellery() {
        range(2, "set", 0, 0, 1, 0, 5);
        range(2, "set", 1, 0, 4095, 0, 0);
        range(2, "set", 1, 0, 4095, 1, 0);
        range(3, "seen", 0, 0, 1, 0);
        range(4, "event", 0, 0, 5, 0, 1);
        range(4, "event", 1, 0, 12, 2, 0);
        range(5, "listed", 0, 0, 5, 0);
        range(9, "wars", 0, 0, 5, 0);
    }

    private static void treaties() {
        range(6, "treaty", 0, 0, 6, 0, 1, 2);
        range(6, "treaty", 1, 0, 5, 0, 0, 3);
        range(6, "treaty", 2, 0, 5, 0, 3, 0);
        for (int power = 0; power < 6; power++) {
            refused(6, Due.BEYOND, "treaty", 0, power, power);
        }
        refusedByFull(6, Due.FULL, "treaty", 0, 0, 1);
        refusedByFull(6, Due.BEYOND, "treaty", 7, 0, 1);
        refusedByFull(6, Due.BEYOND, "treaty", 0, -1, 1);
        refusedByFull(6, Due.BEYOND, "treaty", 0, 0, 6);
        refusedByFull(6, Due.BEYOND, "treaty", 0, 1, 1);
        range(7, "of", 0, 0, 2, 0, 0);
        range(7, "of", 1, 0, 12, 0, 0);
        refusedByFull(7, Due.BEYOND, "of", 8, 0);
        range(8, "change", 0, 0, 2, 0, 3, 0);
        range(8, "change", 1, 0, 7, 1, 0, 1);
        int[] most = {6, 5, 5, 4095, 1, 9999, 9999, 9999};
        for (int what = 0; what < 8; what++) {
            // Treaty 1 is between powers 2 and 5, treaty 2 between 3 and 1.
            range(8, "change", 2, 0, most[what], 2, what, 0);
        }
        refused(8, Due.BEYOND, "change", 1, 1, 5);
        refused(8, Due.BEYOND, "change", 1, 2, 2);
        taken(8, "change", 1, 1, 2);
        taken(8, "change", 1, 2, 5);
    }

    private static void years() {
        range(10, "go", 0, 1, 60, 1);
        range(11, "now", 0, 0, 7, 0);
    }

    private static void whatWillBe() {
        range(12, "ahead", 0, 0, 2, 0, 3, 1);
        range(12, "ahead", 1, 3, 7, 0, 3, 1);
        range(12, "ahead", 1, 10, 10, 0, 3, 1);
        for (int what : new int[] {0, 1, 12}) {
            refused(12, Due.BEYOND, "ahead", 0, what, 1);
        }
        range(12, "ahead", 2, 0, 100, 0, 3, 0);
        range(13, "gold", 0, 0, 100, 0);
        range(14, "breaks", 0, 0, 2, 0);
        refused(14, Due.NONE, "breaks", 1);
        range(15, "war", 0, 0, 5, 0, 3);
        range(15, "war", 1, 0, 5, 3, 0);
        for (int power = 0; power < 6; power++) {
            refused(15, Due.BEYOND, "war", power, power);
        }
        refused(15, Due.NONE, "war", 4, 5);
        // The dynasty is torn, and never renewed.
        refused(16, Due.NONE, "peace");
        range(17, "when", 0, 0, 2, 0, 0);
        range(17, "when", 1, 0, 9999, 0, 0);
        refused(17, Due.NONE, "when", 1, 1);
    }

    private static void keepingPeace() {
        range(18, "yardFor", 0, 0, 60, 0);
        range(19, "kindFor", 0, 0, 2, 0, 1);
        range(19, "kindFor", 1, 0, 60, 0, 0);
        range(20, "strike", 0, 0, 2, 0, 1);
        range(20, "strike", 1, 0, 60, 0, 0);
        range(21, "lull", 0, 0, 12, 0);
        range(22, "tear", 0, 0, 99999, 0, 0);
        range(22, "tear", 1, 0, 20, 99999, 0);
        refused(22, Due.NONE, "tear", 0, 0);
    }

    private static void toldYears() {
        int promise = 23;
        for (String name : new String[] {"fits", "kinds"}) {
            range(promise, name, 0, 0, 3, 0, 0);
            range(promise, name, 1, 0, 2, 0, 0);
            refused(promise, Due.MISSING, name, 2, 0);
            refused(promise, Due.MISSING, name, 2, 3);
            refused(promise, Due.MISSING, name, 2, -1);
            refused(promise, Due.BEYOND, name, 4, 3);
            promise++;
        }
    }

    private static void wakings() {
        range(25, "wakings", 0, 1, 20, 1);
        range(26, "odds", 0, 0, 2, 0, 1, 0);
        range(26, "odds", 1, 0, 17, 0, 0, 1);
        range(26, "odds", 2, 0, 1, 0, 1, 0);
        for (int v : new int[] {0, MIN, MAX, -1000001}) {
            taken(27, "seed", v);
        }
    }

    private static void texts() {
        range(28, "feed", 1, 1, 4, 0x20202020, 1);
        for (int n = 1; n <= 4; n++) {
            refusedByFull(28, Due.FULL, "feed", 0x20202020, n);
        }
        refusedByFull(28, Due.BEYOND, "feed", 0x20202020, 5);
        refusedByFull(28, Due.BEYOND, "feed", 0x20202020, 0);
    }

    private static void spots() {
        range(31, "hold", 0, 0, 9, 0, 0);
        range(31, "hold", 1, -1, 2, 0, 0);
        range(32, "as", 0, 0, 9, 0, 0);
        range(32, "as", 1, 0, 6, 2, 0);
        refused(32, Due.MISSING, "as", 1, 0);
        refused(32, Due.BEYOND, "as", 1, 7);
        refused(32, Due.KIND, "as", 2, 1);
        refused(32, Due.KIND, "as", 9, 3);
    }

    private static void sheets() {
        range(33, "sheet", 0, 0, 3, 0, 8, 1);
        for (int bits : new int[] {0, 8, 16, 32}) {
            taken(33, "sheet", 0, bits, 0);
            taken(33, "sheet", 0, bits, 40);
            refused(33, Due.SIZE, "sheet", 0, bits, -1);
            refused(33, Due.SIZE, "sheet", 0, bits, MIN);
        }
        for (int bits : new int[] {8, 16, 32}) {
            refused(33, Due.BEYOND, "sheet", 0, bits, 41);
            refused(33, Due.BEYOND, "sheet", 0, bits, MAX);
        }
        for (int bits : new int[] {-1, 1, 4, 7, 9, 15, 17, 24, 31, 33, 64, MIN, MAX, -8, -16, -32}) {
            refused(33, Due.BEYOND, "sheet", 0, bits, 1);
            refused(33, Due.BEYOND, "sheet", 0, bits, -1);
        }
        refused(33, Due.BEYOND, "sheet", 4, 8, -1);
        range(34, "write", 0, 0, 3, 0, 0, 5);
        range(34, "write", 1, 0, 2, 0, 0, 5);
        range(34, "write", 1, 0, 1, 1, 0, 5);
        refused(34, Due.MISSING, "write", 2, 0, 5);
        refused(34, Due.MISSING, "write", 2, -1, 5);
        refused(34, Due.MISSING, "write", 2, 40, 5);
        int promise = 36;
        for (String name : new String[] {"load", "judge"}) {
            range(promise, name, 0, 0, 3, 0);
            refused(promise, Due.MISSING, name, 2);
            promise++;
        }
    }

    private static void copies() {
        range(35, "copy", 0, 0, 3, 0, 0, 0, 0, 0);
        range(35, "copy", 2, 0, 3, 0, 0, 0, 0, 0);
        // Sheet 0 has three numbers.
        range(35, "copy", 1, 0, 2, 0, 0, 0, 0, 1);
        range(35, "copy", 1, 0, 3, 0, 0, 0, 0, 0);
        range(35, "copy", 3, 0, 2, 0, 0, 0, 0, 1);
        range(35, "copy", 3, 0, 3, 0, 0, 0, 0, 0);
        range(35, "copy", 4, 0, 3, 0, 0, 0, 0, 0);
        range(35, "copy", 4, 0, 1, 0, 2, 0, 0, 0);
        range(35, "copy", 4, 0, 1, 0, 0, 0, 2, 0);
        refused(35, Due.BEYOND, "copy", 0, MAX, 0, 0, MAX);
        refused(35, Due.BEYOND, "copy", 0, 0, 0, MAX, MAX);
        refused(35, Due.BEYOND, "copy", 0, MIN, 0, MIN, MIN);
        refused(35, Due.BEYOND, "copy", 2, 0, 4, 0, 0);
        refused(35, Due.BEYOND, "copy", -1, 0, 2, 0, 0);
        refused(35, Due.MISSING, "copy", 2, 0, 0, 0, 0);
        refused(35, Due.MISSING, "copy", 0, 0, 2, 0, 0);
        refused(35, Due.MISSING, "copy", 2, 0, 2, 0, 0);
        refused(35, Due.MISSING, "copy", 0, -1, 2, -1, -1);
        refused(35, Due.KIND, "copy", 0, 0, 1, 0, 1);
        refused(35, Due.KIND, "copy", 1, 0, 0, 0, 0);
        refused(35, Due.KIND, "copy", 3, 0, 1, 0, 1);
        refused(35, Due.KIND, "copy", 0, -1, 1, -1, -1);
        refused(35, Due.KIND, "copy", 0, 40, 3, 40, 40);
    }

    private static void images() {
        MarkTreaties x = Whole.furnished();
        x.forget();
        due.is("39 nothing is kept any more", x.undo(), Due.NONE);
        due.is("39 is counted", x.status(3), 1);
        due.is("39 and alone", x.status(-1), 1);
        range(41, "count", 0, 0, 7, 0);
        range(42, "status", 0, -1, 6, 0);
    }
}
