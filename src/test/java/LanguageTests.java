import java.lang.management.ManagementFactory;
import java.lang.reflect.Constructor;
import java.lang.reflect.Field;
import java.lang.reflect.Method;
import java.lang.reflect.Modifier;
import java.nio.file.Files;
import java.nio.file.Path;
import java.util.ArrayList;
import java.util.List;
import java.util.TreeSet;
import java.util.regex.Matcher;
import java.util.regex.Pattern;

/** The face of the class, and rules of LANGUAGE.md that can be seen in the source or measured. */
public final class LanguageTests {
    private static final String[] FACE = {
        "int sign(int)", "boolean end(int)", "int things()", "int deeds()", "int rule()", "int thing(int,int)",
        "int deed(int,int)", "int set(int,int)", "int sheet(int,int,int,int)", "int loses(int,int)",
        "int finds(int,int)", "int claim(int,int)", "int gives(int,int)", "int days(int)", "int year()", "int undo()",
        "int match(int,int)", "int gets(int)", "int fewest(int)", "int ways(int)", "int shares()", "int until(int)",
        "int later(int)", "int advantage()", "int soonest()", "int confused(int)", "int regains(int)",
        "int said(int,int)", "int forget()", "int fits()", "int ask()", "int tellsApart()", "int alike()",
        "int looks(int)", "int strays(int,int,int)", "int can()", "int with(int)", "int weakest()", "int worth(int)",
        "int hangs(int)", "int likely(int,int)", "int hatch()", "int rests(int,int)", "int law()",
        "int years(int,int)", "boolean keep(int)", "boolean again(int)", "int count(int)", "long row(int)"};

    private static int wrong = 0;

    private static void due(String what, boolean holds) {
        if (!holds) {
            wrong++;
            System.out.println("not so: " + what);
        }
    }

    public static void main(String[] args) throws Exception {
        face();
        classes();
        source();
        room();
        System.out.println(wrong == 0 ? "the language is kept" : wrong + " rules are not kept");
        if (wrong != 0) {
            System.exit(1);
        }
    }

    private static String told(Method m) {
        StringBuilder b = new StringBuilder(m.getReturnType().getName()).append(' ').append(m.getName()).append('(');
        for (Class<?> c : m.getParameterTypes()) {
            b.append(b.charAt(b.length() - 1) == '(' ? "" : ",").append(c.getName());
        }
        return b.append(')').toString();
    }

    private static void face() {
        due("public final", Modifier.isPublic(LostByState.class.getModifiers())
            && Modifier.isFinal(LostByState.class.getModifiers()));
        TreeSet<String> open = new TreeSet<>();
        TreeSet<String> names = new TreeSet<>();
        for (Method m : LostByState.class.getDeclaredMethods()) {
            if (!Modifier.isPrivate(m.getModifiers())) {
                open.add(told(m));
                names.add(m.getName());
            }
        }
        due("rule 1: the face's methods and no others: " + open, open.equals(new TreeSet<>(List.of(FACE))));
        for (Field f : LostByState.class.getDeclaredFields()) {
            due("rule 1: field " + f.getName(), Modifier.isPrivate(f.getModifiers()) || f.getName().equals("NONE"));
        }
        Constructor<?>[] made = LostByState.class.getDeclaredConstructors();
        due("rule 1: one constructor", made.length == 1 && Modifier.isPublic(made[0].getModifiers())
            && made[0].getParameterCount() == 0);
        for (Class<?> c : all()) {
            for (Method m : c.getDeclaredMethods()) {
                boolean ofTheFace = c == LostByState.class && !Modifier.isPrivate(m.getModifiers());
                due("rule 1: " + c.getName() + "." + m.getName() + " bears a public name",
                    ofTheFace || !names.contains(m.getName()));
            }
        }
    }

    private static List<Class<?>> all() {
        List<Class<?>> list = new ArrayList<>(List.of(LostByState.class.getDeclaredClasses()));
        list.add(LostByState.class);
        return list;
    }

    private static void classes() {
        due("rule 11: classes", all().size() <= 12);
        for (Class<?> c : all()) {
            int fields = 0;
            for (Field f : c.getDeclaredFields()) {
                boolean still = Modifier.isStatic(f.getModifiers());
                fields += still ? 0 : 1;
                due("rule 5: " + c.getName() + "." + f.getName(), !still || Modifier.isFinal(f.getModifiers()));
            }
            due("rule 11: fields of " + c.getName(), fields <= 20);
            for (Method m : c.getDeclaredMethods()) {
                due("rule 11: parameters of " + m.getName(), m.getParameterCount() <= 7);
            }
        }
    }

    private static void source() throws Exception {
        String s = Files.readString(Path.of("src/main/java/LostByState.java"));
        String code = s.replaceAll("(?s)/\\*.*?\\*/", "").replaceAll("//[^\n]*", "");
        due("signs 1 to 127", s.chars().allMatch(c -> c > 0 && c < 128));
        String[] out = {"package ", "->", "::", "try {", "catch", "finally", "synchronized", "assert", "Exact(",
            "System.out", "Random", "Thread", "static {", "float", "double", "instanceof", "@", "while (true)",
            "for (;;)", "Object", "HashMap", "currentTime", "nanoTime", "String.format", "stream"};
        for (String o : out) {
            due("none of " + o, !code.contains(o));
        }
        Matcher imports = Pattern.compile("import ([^;]*);").matcher(code);
        while (imports.find()) {
            due("import " + imports.group(1), imports.group(1).equals("java.util.NoSuchElementException"));
        }
        Matcher thrown = Pattern.compile("throw ([^;]*);").matcher(code);
        while (thrown.find()) {
            due("throw " + thrown.group(1), thrown.group(1).startsWith("new NoSuchElementException(\""));
        }
        lengths(code.split("\n"));
    }

    private static void lengths(String[] lines) {
        int from = 0;
        for (int i = 0; i < lines.length; i++) {
            if (lines[i].matches("( {4}| {8})(public|private|static|int|void|boolean|long|[A-Z]\\w*)[^;=]*\\) .*\\{")) {
                from = i;
            }
            if (lines[i].matches("( {4}| {8})\\}")) {
                due("rule 11: method from line " + from + " is long", i - from <= 60);
            }
        }
    }

    /** No call makes rows of its own, so that all calls of a run find room. */
    private static void room() {
        com.sun.management.ThreadMXBean bean =
            (com.sun.management.ThreadMXBean) ManagementFactory.getThreadMXBean();
        long id = Thread.currentThread().getId();
        for (int turn = 0; turn < 2; turn++) {
            long empty = bean.getThreadAllocatedBytes(id);
            LostByState x = new LostByState();
            long before = bean.getThreadAllocatedBytes(id);
            due("rule 12: " + (before - empty) + " bytes of an object", turn == 0 || before - empty < 32768);
            before = bean.getThreadAllocatedBytes(id);
            int sum = 0;
            for (int i = 0; i < 20; i++) {
                sum += calls(x, i);
            }
            long bytes = bean.getThreadAllocatedBytes(id) - before;
            // the first turn loads classes; the second is the calls alone
            due("rule 12: " + bytes + " bytes made by calls, " + sum, turn == 0 || bytes < 4096);
        }
    }

    private static int calls(LostByState x, int i) {
        int sum = x.sign('5' << 24 | 'a' << 16 | 'b' << 8 | 'c') + x.things();
        sum += x.sign('0' << 24 | 'x') + (x.end(1) ? 1 : 0) + x.deeds();
        sum += x.sign('m' << 24 | '*' << 16 | '2' << 8 | 'x') + (x.end(3) ? 1 : 0) + x.rule();
        sum += x.loses(i % 8, 1) + x.finds(2, i % 8) + x.days(1) + x.gets(3) + x.fewest(0) + x.ways(0);
        sum += x.sign('a' << 24 | ';' << 16 | 'b' << 8 | 'c') + x.shares() + x.claim(1, 7) + x.gives(i % 8, 2);
        sum += x.sign('d' << 24 | '1' << 16 | 'd' << 8 | '2') + x.year() + x.undo() + x.match(3, 0) + x.until(0);
        sum += x.later(3) + x.advantage() + x.soonest() + x.confused(0) + x.regains(0) + x.said(1, 1) + x.fits();
        sum += x.ask() + x.tellsApart() + x.alike() + x.sign(0x31313131) + x.sign(0x31310000) + (x.end(6) ? 1 : 0);
        sum += x.looks(5) + x.strays(1, 1, 20) + x.can() + x.with(8) + x.weakest() + x.worth(0) + x.hangs(0);
        sum += x.likely(1, 5) + x.sign(0x31323334) + x.hatch() + x.rests(9, 1) + x.sign(0x6d2d782b) + x.law();
        sum += x.years(i, 60) + (x.keep(0) ? 1 : 0) + (x.again(0) ? 1 : 0) + x.count(5) + x.forget() + x.sheet(0, 8, 1, 1);
        return sum;
    }
}
