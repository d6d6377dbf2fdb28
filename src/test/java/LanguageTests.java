import java.lang.reflect.Constructor;
import java.lang.reflect.Field;
import java.lang.reflect.Method;
import java.lang.reflect.Modifier;
import java.nio.file.Files;
import java.nio.file.Path;
import java.util.ArrayList;
import java.util.List;
import java.util.Set;
import java.util.TreeSet;
import java.util.regex.Matcher;
import java.util.regex.Pattern;

/** What can be told by a look of LANGUAGE.md's rules, and the document's face. */
public final class LanguageTests {
    private static final Due due = new Due();

    public static void main(String[] args) throws Exception {
        String source = Files.readString(Path.of("src/main/java/MarkTreaties.java"));
        face();
        members();
        words(stripped(source));
        lengths(source);
        room();
        due.end();
    }

    private static void refuse(String what, boolean found) {
        due.is(what, found ? 1 : 0, 0);
    }

    private static Set<String> publicNames() {
        Set<String> names = new TreeSet<>();
        for (Method m : MarkTreaties.class.getDeclaredMethods()) {
            if (Modifier.isPublic(m.getModifiers())) {
                names.add(m.getName());
            }
        }
        return names;
    }

    /** Rule 1: the public methods are those of the document, and no others. */
    private static void face() throws Exception {
        Set<String> due = new TreeSet<>();
        Matcher told = Pattern.compile("^    public (int|long) (\\w+)\\(([^)]*)\\);$", Pattern.MULTILINE)
                .matcher(Files.readString(Path.of("../shared/DOC.md")));
        while (told.find()) {
            int parameters = told.group(3).isEmpty() ? 0 : told.group(3).split(",").length;
            due.add(told.group(1) + " " + told.group(2) + " " + parameters);
        }
        Set<String> got = new TreeSet<>();
        for (Method m : MarkTreaties.class.getDeclaredMethods()) {
            if (!Modifier.isPrivate(m.getModifiers())) {
                got.add(m.getReturnType() + " " + m.getName() + " " + m.getParameterCount());
            }
        }
        refuse("no face in the document", due.isEmpty());
        refuse("face is " + got + ", due is " + due, !got.equals(due));
        int modifiers = MarkTreaties.class.getModifiers();
        refuse("not public and final", !Modifier.isPublic(modifiers) || !Modifier.isFinal(modifiers));
    }

    /** Rules 1, 2, 5 and 11. */
    private static void members() {
        List<Class<?>> classes = new ArrayList<>(List.of(MarkTreaties.class.getDeclaredClasses()));
        refuse("too many classes", classes.size() > 11);
        for (Class<?> inside : classes) {
            int modifiers = inside.getModifiers();
            refuse(inside + " is not static", !Modifier.isStatic(modifiers));
            refuse(inside + " is public or protected", Modifier.isPublic(modifiers) || Modifier.isProtected(modifiers));
        }
        classes.add(MarkTreaties.class);
        Set<String> faceNames = publicNames();
        for (Class<?> each : classes) {
            int fields = 0;
            for (Field f : each.getDeclaredFields()) {
                refuse(f + " is not private", each == MarkTreaties.class && !Modifier.isPrivate(f.getModifiers()));
                if (Modifier.isStatic(f.getModifiers())) {
                    refuse(f + " is not final", !Modifier.isFinal(f.getModifiers()));
                } else {
                    fields++;
                }
            }
            refuse(each + " has too many fields", fields > 20);
            for (Method m : each.getDeclaredMethods()) {
                refuse(m + " has too many parameters", m.getParameterCount() > 7);
                refuse(m + " bears a public name",
                        Modifier.isPrivate(m.getModifiers()) && faceNames.contains(m.getName()));
            }
        }
        for (Constructor<?> c : MarkTreaties.class.getDeclaredConstructors()) {
            refuse(c + " is not of the face", !Modifier.isPublic(c.getModifiers()) || c.getParameterCount() != 0);
        }
    }

    private static String stripped(String source) {
        return source.replaceAll("(?s)/\\*.*?\\*/", "").replaceAll("//[^\n]*", "").replaceAll("\"[^\"\n]*\"", "\"\"");
    }

    /** Rules 2, 4, 6, 13: none of these words stands in the program. */
    private static void words(String code) {
        String[] banned = {"throw", "throws", "try", "catch", "finally", "synchronized", "assert", "package", "volatile",
            "native", "hashCode", "Object", "Random", "Thread", "nanoTime", "currentTimeMillis", "Exception"};
        for (String word : banned) {
            refuse("has " + word, Pattern.compile("\\b" + word + "\\b").matcher(code).find());
        }
        Matcher imported = Pattern.compile("import ([\\w.*]+)").matcher(code);
        Set<String> library = Set.of("java.util.ArrayList", "java.util.List", "java.util.Arrays", "java.util.Iterator");
        while (imported.find()) {
            refuse("imports " + imported.group(1), !library.contains(imported.group(1)));
        }
        refuse("has a lambda", Pattern.compile("->").matcher(code.replaceAll("(case [^;:{}]*?|default) ->", "")).find());
        refuse("has a method reference", code.contains("::"));
        refuse("has a static block", Pattern.compile("static\\s*\\{").matcher(code).find());
        refuse("has an Exact function", Pattern.compile("\\w+Exact\\b").matcher(code).find());
        refuse("has signs beyond 127", !code.chars().allMatch(c -> c < 128));
    }

    /** Rule 11: no method is long. */
    private static void lengths(String source) {
        String[] lines = source.split("\n");
        int begin = -1;
        for (int i = 0; i < lines.length; i++) {
            if (lines[i].matches(" {4,8}(public|private) .*\\) \\{")) {
                begin = i;
            }
            if (begin >= 0 && lines[i].matches(" {4,8}\\}")) {
                refuse("long method: " + lines[begin].trim(), i - begin > 60);
                begin = -1;
            }
            refuse("long line " + (i + 1), lines[i].length() > 120);
        }
    }

    /**
     * All calls of a run live in one room of 7.3 million fields and elements: so 480 calls, the dearest among them, must
     * not make as many as 29 million bytes; a tenth of that is enough.
     */
    private static void room() {
        com.sun.management.ThreadMXBean threads =
                (com.sun.management.ThreadMXBean) java.lang.management.ManagementFactory.getThreadMXBean();
        long self = Thread.currentThread().getId();
        long made = 0;
        for (int round = 0; round < 3; round++) {
            long before = threads.getThreadAllocatedBytes(self);
            MarkTreaties x = Due.from("yard 7; dynasty 0 1; lease 2 3; peace 0 4; event 0 1; event 2 2; event 4 0");
            for (int i = 0; i < 15; i++) {
                useAll(x);
            }
            made = threads.getThreadAllocatedBytes(self) - before;
        }
        refuse("calls make too many objects: " + made + " bytes", made > 2900000);
    }

    private static void useAll(MarkTreaties x) {
        x.image();
        x.sheet(0, 16, 9);
        x.sheet(1, 16, 9);
        x.write(0, 1, 1);
        x.copy(0, 0, 1, 1, 8);
        x.fits(0, 0);
        x.kinds(0, 1);
        x.load(0);
        x.judge(0);
        x.feed(0x75702035, 4);
        x.text();
        x.treaty(0, 1, 2);
        x.hold(0, 0);
        x.as(0, 6);
        x.wakings(3);
        x.go(3);
        x.ahead(0, 3, 50);
        x.gold(50);
        x.breaks(0);
        x.war(0, 1);
        x.peace();
        x.when(0, 100);
        x.yardFor(20);
        x.kindFor(0, 20);
        x.strike(0, 20);
        x.lull(12);
        x.tear(0, 20);
        x.odds(0, 17, 0);
        x.undo();
        x.forget();
    }
}
