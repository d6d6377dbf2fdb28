/** Counts answers that are not as due, and ends a test with exit code 1 if there was one. */
final class Due {
    static final long BEYOND = -1000001;
    static final long FULL = -1000002;
    static final long KIND = -1000003;
    static final long NONE = -1000004;
    static final long STATE = -1000005;
    static final long MISSING = -1000006;
    static final long SIZE = -1000007;

    private int asked = 0;
    private int wrong = 0;

    void is(String what, long got, long want) {
        asked++;
        if (got != want) {
            wrong++;
            System.out.println(what + ": answered " + got + ", due is " + want);
        }
    }

    /** Feeds a text, four bytes a call: an object is promised for 512 calls alone. */
    static void feed(MarkTreaties x, String text) {
        for (int i = 0; i < text.length(); i += 4) {
            int n = Math.min(4, text.length() - i);
            int bytes = 0;
            for (int k = 0; k < n; k++) {
                bytes = bytes << 8 | text.charAt(i + k) & 255;
            }
            if (x.feed(bytes, n) < 0) {
                throw new IllegalArgumentException("no room for " + text);
            }
        }
    }

    /** Feeds a text, which must have room, and reads it. */
    static int read(MarkTreaties x, String text) {
        feed(x, text);
        return x.text();
    }

    /** A new object of which a text is so; a text that has a fault stops the test. */
    static MarkTreaties from(String text) {
        MarkTreaties x = new MarkTreaties();
        if (read(x, text) < 0) {
            throw new IllegalArgumentException(text);
        }
        return x;
    }

    /** Makes a call of the face by its name. */
    static long call(MarkTreaties x, String name, int... arguments) {
        Class<?>[] types = new Class<?>[arguments.length];
        Object[] values = new Object[arguments.length];
        for (int i = 0; i < arguments.length; i++) {
            types[i] = int.class;
            values[i] = arguments[i];
        }
        try {
            return ((Number) MarkTreaties.class.getMethod(name, types).invoke(x, values)).longValue();
        } catch (ReflectiveOperationException thrown) {
            throw new IllegalStateException(name + java.util.Arrays.toString(arguments), thrown);
        }
    }

    static void row(MarkTreaties x, int s, int bits, int... numbers) {
        x.sheet(s, bits, numbers.length);
        for (int i = 0; i < numbers.length; i++) {
            x.write(s, i, numbers[i]);
        }
    }

    void end() {
        System.out.println(wrong == 0 ? "all " + asked + " answers are as due" : wrong + " answers are not as due");
        if (wrong != 0) {
            System.exit(1);
        }
    }
}
