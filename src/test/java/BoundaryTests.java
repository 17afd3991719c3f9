import java.nio.file.Files;
import java.nio.file.Path;
import java.util.NoSuchElementException;
import java.util.TreeMap;

/**
 * Each sentence of the document that names a boundary case, with a test of its own: at() quotes the sentence
 * (which must stand in that promise of ../shared/DOC.md; TERMS for its Terms), the checks behind it are its test.
 * With the argument left it prints what of the document no test quotes.
 */
public final class BoundaryTests {
    private static final int TERMS = 0;
    private static final int PROMISES = 50;
    private static final int LOW = Integer.MIN_VALUE;
    private static final int HIGH = Integer.MAX_VALUE;
    private static final int NONE = LostByState.NONE;

    private static final TreeMap<Integer, String> SECTIONS = new TreeMap<>();
    private static final TreeMap<Integer, boolean[]> QUOTED = new TreeMap<>();
    private static String sentence = "";
    private static int checksOfIt = 1;
    private static int sentences = 0;
    private static int checks = 0;
    private static int wrong = 0;

    private interface Call {
        long on(LostByState x);
    }

    public static void main(String[] args) throws Exception {
        readDocument();
        terms();
        ruleTerms();
        officeTerms();
        rowTerms();
        texts();
        thingTexts();
        deedTexts();
        ruleTexts();
        questionsOfOne();
        settings();
        sheets();
        acts();
        days();
        years();
        undoing();
        descriptions();
        sharing();
        later();
        whichItIs();
        looking();
        deeds();
        hatchAndRests();
        lawsAndDraws();
        kept();
        countsAndRows();
        refusals();
        questions();
        allQuoted();
        if (args.length > 0 && args[0].equals("left")) {
            printLeft();
        }
        System.out.println(sentences + " sentences, " + checks + " checks, " + wrong + " wrong");
        if (wrong != 0) {
            System.exit(1);
        }
    }

    // ---- the document

    private static void readDocument() throws Exception {
        Path path = Path.of("../shared/DOC.md");
        if (!Files.exists(path)) {
            System.out.println("no " + path + ": the quotes are not compared with it");
            return;
        }
        String doc = Files.readString(path);
        for (String part : doc.split("\n## ")) {
            String words = part.replaceAll("\\s+", " ");
            if (words.startsWith("Terms")) {
                keepSection(TERMS, words);
            } else if (words.startsWith("Promise ")) {
                keepSection(Integer.parseInt(words.substring(8, words.indexOf(':'))), words);
            }
        }
        due("sections of the document", SECTIONS.size(), PROMISES + 1);
    }

    private static void keepSection(int number, String words) {
        SECTIONS.put(number, words);
        QUOTED.put(number, new boolean[words.length()]);
    }

    private static void at(int promise, String words) {
        endSentence();
        sentence = promise + ": " + words;
        checksOfIt = 0;
        sentences++;
        if (SECTIONS.isEmpty()) {
            return;
        }
        int from = SECTIONS.getOrDefault(promise, "").indexOf(words);
        due("stands in the document", from >= 0 ? 1 : 0, 1);
        checksOfIt = 0;
        for (int i = Math.max(0, from); from >= 0 && i < from + words.length(); i++) {
            QUOTED.get(promise)[i] = true;
        }
    }

    private static void endSentence() {
        if (checksOfIt == 0) {
            wrong++;
            System.out.println(sentence + ": no check");
        }
    }

    private static void allQuoted() {
        endSentence();
        for (int promise : QUOTED.keySet()) {
            boolean some = false;
            for (boolean quoted : QUOTED.get(promise)) {
                some |= quoted;
            }
            sentence = promise + "";
            due("has a sentence with a test", some ? 1 : 0, 1);
        }
    }

    private static void printLeft() {
        for (int promise : SECTIONS.keySet()) {
            StringBuilder left = new StringBuilder();
            String section = SECTIONS.get(promise);
            for (int i = 0; i < section.length(); i++) {
                left.append(QUOTED.get(promise)[i] ? '_' : section.charAt(i));
            }
            System.out.println(left.toString().replaceAll("_+", " __ "));
        }
    }

    // ---- checks

    private static void due(String what, long got, long want) {
        checks++;
        checksOfIt++;
        if (got != want) {
            wrong++;
            System.out.println(sentence + " [" + what + "] answered " + got + ", due is " + want + line());
        }
    }

    private static void due(long got, long want) {
        due("", got, want);
    }

    private static void due(boolean got, boolean want) {
        due("", got ? 1 : 0, want ? 1 : 0);
    }

    private static void same(String what, String got, String want) {
        checks++;
        checksOfIt++;
        if (!got.equals(want)) {
            wrong++;
            System.out.println(sentence + " [" + what + "] is " + got + ", due is " + want + line());
        }
    }

    private static String line() {
        String last = "";
        for (StackTraceElement e : new Throwable().getStackTrace()) {
            if (!e.getMethodName().equals("main")) {
                last = " (line " + e.getLineNumber() + ")";
            }
        }
        return last;
    }

    private static void row(LostByState x, long... want) {
        StringBuilder told = new StringBuilder();
        for (long number : want) {
            told.append(number).append(' ');
        }
        same("the row", rowOf(x), told.toString());
    }

    private static String rowOf(LostByState x) {
        StringBuilder told = new StringBuilder();
        for (int i = 0; i < x.count(11); i++) {
            told.append(x.row(i)).append(' ');
        }
        return told.toString();
    }

    private static void none(LostByState x, Call call) {
        int thrown = 0;
        try {
            call.on(x);
        } catch (NoSuchElementException e) {
            thrown = 1;
        }
        due("throws NoSuchElementException", thrown, 1);
    }

    // ---- offices

    private static LostByState text(LostByState x, String s) {
        x.end(0);
        for (int i = 0; i < s.length(); i += 4) {
            int v = 0;
            for (int j = 0; j < 4; j++) {
                // what stands behind the end must not be read: an a, which could often go on
                v = v << 8 | (i + j < s.length() ? s.charAt(i + j) & 255 : 'a');
            }
            x.sign(v);
        }
        x.end(s.length());
        return x;
    }

    private static LostByState made(String things, String deeds) {
        LostByState x = new LostByState();
        text(x, things).things();
        text(x, deeds).deeds();
        return x;
    }

    private static LostByState office() {
        return made("5abc;3ab;9d;1", "01;2;012");
    }

    /** All things are in, each found by the person of its number (by 6: rest). */
    private static LostByState full(String things) {
        LostByState x = made(things, "0");
        for (int t = 0; t < x.count(0); t++) {
            bringIn(x, t, t % 6);
        }
        return x;
    }

    private static void bringIn(LostByState x, int thing, int finder) {
        x.loses(thing, 0);
        x.finds(finder, thing);
    }

    private static String eight() {
        return "1".concat(";1".repeat(7));
    }

    /** What can be asked without telling a row, in one text. */
    private static String seen(LostByState x) {
        StringBuilder s = new StringBuilder();
        for (int what = 0; what <= 12; what++) {
            s.append(what == 11 ? 0 : x.count(what)).append(' ');
        }
        for (int t = 0; t < x.count(0); t++) {
            for (int what = 0; what <= 6; what++) {
                s.append(x.thing(t, what)).append(' ');
            }
            s.append(x.until(t)).append(' ');
            for (int marks = 0; marks < 256; marks += 15) {
                s.append(x.match(marks, t)).append(' ');
            }
        }
        for (int d = 0; d < x.count(1); d++) {
            s.append(x.deed(d, 0)).append(' ').append(x.deed(d, 1)).append(' ').append(x.deed(d, 2)).append(' ');
        }
        return s.toString();
    }

    /** All that is held inside, told by calls that use it up. */
    private static String usedUp(LostByState x) {
        StringBuilder s = new StringBuilder(seen(x));
        s.append("| fits ").append(x.fits()).append(" text ").append(x.things()).append(' ').append(x.count(0));
        int undone = x.undo();
        for (int i = 0; i < 13 && undone >= 0; i++) {
            s.append("| undo ").append(undone).append(seen(x));
            undone = x.undo();
        }
        for (int i = 0; i < 2; i++) {
            s.append("| again ").append(x.again(i)).append(seen(x));
        }
        return s.toString();
    }

    /** An office of which each part holds something: text, row, past, both numbers, what was said, a rule. */
    private static LostByState busy() {
        LostByState x = office();
        text(x, "m*2-x*3-y+d/9+w*0").rule();
        x.set(0, 20);
        x.set(1, 2);
        bringIn(x, 0, 4);
        x.keep(0);
        x.days(3);
        bringIn(x, 1, 2);
        x.keep(1);
        x.claim(5, 3);
        x.gives(3, 1);
        x.days(2);
        x.loses(3, 5);
        x.said(0, 1);
        x.said(3, 0);
        x.alike();
        text(x, "7ax");
        return x;
    }

    // ---- Terms

    private static int things(String s) {
        return text(new LostByState(), s).things();
    }

    private static void terms() {
        at(TERMS, "THINGS 0 .. (at most 8)");
        due(things(eight()), 8);
        due(things(eight() + ";1"), -17);
        LostByState last = full("1a;1b;1c;1d;1e;1f;1g;1h");
        last.set(1, 2);
        due(last.gets(128), 7);
        row(last, 1002, 1);
        due(last.fewest(7), 1);
        row(last, 128);
        due(last.until(7), 30);
        due(last.soonest(), 0);
        due(last.confused(7), 0);
        due(last.confused(0), 1);
        due(last.fits(), 255);
        due(last.alike(), 2);
        due(last.claim(6, 128), 7);
        due(last.weakest(), 7);
        due(last.loses(7, 5), 1);
        due(last.finds(5, 7), 8);
        due(last.gives(7, 0), -2);
        due(last.claim(0, 128), 7);
        due(last.gives(7, 6), 0);
        due(last.days(30), 7);
        due(last.advantage(), 0);
        row(last, 2, 65);
        at(TERMS, "MARKS (a .. h, bits)");
        due(made("1a", "").thing(0, 0), 1);
        due(made("1h", "").thing(0, 0), 128);
        due(made("1abcdefgh", "").thing(0, 0), 255);
        due(things("1i"), -2);
        due(things("1`"), -2);
        due(things("1A"), -2);
        at(TERMS, "WORTH 1 .. 9");
        due(made("1", "").thing(0, 1), 1);
        due(made("9", "").thing(0, 1), 9);
        due(things("0"), -1);
        due(things(":"), -1);
        at(TERMS, "(PEOPLE 0 .. 5, or the state: 6; at first 6)");
        LostByState x = office();
        due(x.thing(0, 2), 6);
        due(x.thing(3, 2), 6);
        due(x.gives(0, 0), 6);
        due(x.gives(0, 5), 0);
        due(x.gives(0, 6), 5);
        due(x.gives(0, 7), NONE);
        due(x.gives(0, -1), NONE);
        at(TERMS, "LOST at a PLACE 0 .. 5");
        x = office();
        due(x.loses(0, 6), NONE);
        due(x.loses(0, -1), NONE);
        due(x.loses(0, 0), 1);
        due(x.thing(0, 3), 0);
        due(x.loses(1, 5), 2);
        due(x.thing(1, 3), 5);
        at(TERMS, "or IN the office, for DAYS 0 .. 99");
        x = full("1");
        x.set(0, 99);
        due(x.thing(0, 4), 0);
        x.days(98);
        due(x.thing(0, 4), 98);
        due(x.days(1), 1);
        due(x.thing(0, 4), -1);
        at(TERMS, "with a FINDER (0 .. 5)");
        x = office();
        bringIn(x, 0, 0);
        bringIn(x, 1, 5);
        bringIn(x, 2, 6);
        due(x.thing(0, 5), 0);
        due(x.thing(1, 5), 5);
        due(x.thing(2, 5), -1);
        thingAndDeedTerms();
    }

    private static void thingAndDeedTerms() {
        at(TERMS, "They are told by a text of at most 79 signs: LINES with ; between, each one more");
        String longest = "1abcdefgh".concat(";1abcdefgh".repeat(7));
        due(longest.length(), 79);
        due(things(longest), 8);
        due(things(longest + ";"), -80);
        due(things("1;2"), 2);
        due(things(";2"), -1);
        due(things("1;;2"), -3);
        due(things("1,2"), -2);
        LostByState x = made("1;2", "");
        due(text(x, "3").things(), 1);
        due(x.count(0), 3);
        due(x.thing(2, 1), 3);
        at(TERMS, "a digit (WORTH, not 0), letters a .. h (MARKS: rising; perhaps none)");
        due(things("0a"), -1);
        due(things("5;0"), -3);
        due(things("a"), -1);
        due(things("5"), 1);
        due(things("5ac;5"), 2);
        due(things("5ca"), -3);
        due(things("55"), -2);
        at(TERMS, "DEEDS 0 .. (at most 6)");
        due(deeds(1, "0;0;0;0;0;0"), 6);
        due(deeds(1, "0;0;0;0;0;0;0"), -13);
        at(TERMS, "NEEDS (THINGS, bits, at least one)");
        due(made(eight(), "0").deed(0, 0), 1);
        due(made(eight(), "7").deed(0, 0), 128);
        due(made(eight(), "01234567").deed(0, 0), 255);
        due(deeds(8, ";0"), -1);
        due(deeds(8, "0;;1"), -3);
        at(TERMS, "They are told by a text of at most 53 signs: LINES with ; between, each one more");
        String most = "01234567".concat(";01234567".repeat(5));
        due(most.length(), 53);
        due(deeds(8, most), 6);
        due(deeds(8, most + ";"), -54);
        x = made("1;2", "0");
        due(text(x, "01").deeds(), 1);
        due(x.count(1), 2);
        due(x.deed(1, 0), 3);
        at(TERMS, "digits 0 .. 7 (THINGS that are there; rising)");
        due(deeds(8, "7"), 1);
        due(deeds(8, "8"), -1);
        due(deeds(8, "/"), -1);
        due(deeds(7, "7"), -1);
        due(deeds(7, "6"), 1);
        due(deeds(0, "0"), -1);
        due(deeds(8, "76"), -2);
        due(deeds(8, "77"), -2);
        at(TERMS, "TERM 1 .. 99 (at first 30)");
        due(new LostByState().count(2), 30);
        due(new LostByState().set(0, 1), 130);
        due(new LostByState().set(0, 99), 130);
        due(new LostByState().set(0, 0), NONE);
        due(new LostByState().set(0, 100), NONE);
        at(TERMS, "NEED -99 .. 99 (at first 3)");
        due(new LostByState().count(3), 103);
        due(new LostByState().set(1, -99), 103);
        due(new LostByState().set(1, 99), 103);
        due(new LostByState().set(1, -100), NONE);
        due(new LostByState().set(1, 100), NONE);
        at(TERMS, "DAY (at first 0)");
        due(new LostByState().count(4), 0);
        at(TERMS, "PAID 0 .. 9999 (at first 0)");
        due(new LostByState().count(5), 0);
    }

    private static int rule(String s) {
        return text(new LostByState(), s).rule();
    }

    /** MATCH of description a, d with a thing of worth 5 and marks a, b, c, that is in for 9 days, on day 9. */
    private static int match(String rule) {
        LostByState x = full("5abc;9");
        x.days(9);
        due(text(x, rule).rule(), 0);
        return x.match(9, 0) - 1000;
    }

    private static void ruleTerms() {
        at(TERMS, "THE RULE is a text of at most 40 signs (at first none: m*2-x*3-y)");
        due(rule("1" + "+1".repeat(19) + "1"), 0);
        due(rule("1" + "+1".repeat(20)), -41);
        due(office().match(9, 0), 1000 + 2 - 3 - 2);
        due(match("m*2-x*3-y"), 2 - 3 - 2);
        at(TERMS, "< > = bind least (two; 1 or 0; not one behind the other)");
        due(match("1+1<3"), 1);
        due(match("1+1<2"), 0);
        due(match("1+2>2"), 1);
        due(match("1+1>2"), 0);
        due(match("1+1=2"), 1);
        due(match("1+1=3"), 0);
        due(match("3<1+1"), 0);
        due(rule("1<2<3"), -4);
        due(rule("1<2=1"), -4);
        due(rule("1>2>1"), -4);
        due(rule("1=2=1"), -4);
        due(rule("1=2<1"), -4);
        due(rule("1<"), -3);
        due(rule("<1"), -1);
        due(rule("1<>2"), -3);
        due(rule("(1<2<3)"), -5);
        due(match("(1<2)<3"), 1);
        due(match("1<(2<3)"), 0);
        at(TERMS, "then + - (from the left)");
        due(match("9-3-2"), 4);
        due(match("9-3+2"), 8);
        due(match("9-2*3"), 3);
        due(rule("+1"), -1);
        due(rule("1+"), -3);
        due(rule("1++1"), -3);
        due(rule("1-+1"), -3);
        at(TERMS, "then * / (from the left; by 0: 0; cut to 0)");
        due(match("7/2*2"), 6);
        due(match("2*7/2"), 7);
        due(match("100/5/2"), 10);
        due(match("7/0"), 0);
        due(match("-7/0+4"), 4);
        due(match("0/0"), 0);
        due(match("7/2"), 3);
        due(match("-7/2"), -3);
        due(match("7/-2"), -3);
        due(match("-7/-2"), 3);
        due(rule("1**1"), -3);
        due(rule("1/"), -3);
        due(rule("*1"), -1);
        moreRuleTerms();
    }

    private static void moreRuleTerms() {
        at(TERMS, "then - ahead of a thing (any many)");
        due(match("-3*2"), -6);
        due(match("2*-3"), -6);
        due(match("--3"), 3);
        due(match("---3"), -3);
        due(match("1---3"), -2);
        due(match("-(1+2)"), -3);
        due(match("--(1+2)"), 3);
        due(match("1<-3"), 0);
        due(match("-".repeat(38) + "m"), 1);
        due(match("-".repeat(39) + "m"), -1);
        due(rule("-"), -2);
        due(rule("--"), -3);
        due(rule("-+1"), -2);
        at(TERMS, "a NUMBER of 1 to 3 digits");
        due(match("7"), 7);
        due(match("70"), 70);
        due(match("999"), 999);
        due(match("000"), 0);
        due(match("007"), 7);
        due(rule("/"), -1);
        due(rule(":"), -1);
        due(rule("1:"), -2);
        due(rule("1000"), -4);
        due(rule("0000"), -4);
        due(rule("m+1234"), -6);
        at(TERMS, "an EXPRESSION in ( ) (at most 4 in one another)");
        due(match("((((7))))"), 7);
        due(rule("(((((7)))))"), -5);
        due(rule("1+(((((7)))))"), -7);
        due(match("((((1))))+((((2))))"), 3);
        due(rule("()"), -2);
        due(rule("(1"), -3);
        due(rule("(1))"), -4);
        due(rule(")"), -1);
        at(TERMS, "m how many MARKS both have");
        due(match("m"), 1);
        due(matchOf("1abcdefgh", 255, "m"), 8);
        due(matchOf("1", 255, "m"), 0);
        at(TERMS, "x how many are described that it has not");
        due(match("x"), 1);
        due(matchOf("1", 255, "x"), 8);
        due(matchOf("1abcdefgh", 255, "x"), 0);
        at(TERMS, "y how many it has that are not described");
        due(match("y"), 2);
        due(matchOf("1abcdefgh", 0, "y"), 8);
        due(matchOf("1abcdefgh", 255, "y"), 0);
        at(TERMS, "w WORTH");
        due(match("w"), 5);
        due(matchOf("1", 0, "w"), 1);
        due(matchOf("9", 0, "w"), 9);
        at(TERMS, "d DAYS (0 if it is not IN)");
        due(match("d"), 9);
        LostByState x = office();
        text(x, "d").rule();
        x.loses(0, 0);
        x.days(5);
        due(x.match(0, 0), 1000);
        due(x.match(0, 1), 1000);
        x.finds(0, 0);
        due(x.match(0, 0), 1000);
        x.days(4);
        due(x.match(0, 0), 1004);
        x.claim(6, 0);
        due(x.match(0, 0), 1000);
        at(TERMS, "n DAY by 7 (rest)");
        x = office();
        text(x, "n").rule();
        due(x.match(0, 0), 1000);
        x.days(6);
        due(x.match(0, 0), 1006);
        x.days(1);
        due(x.match(0, 0), 1000);
        x.days(99);
        due(x.match(0, 0), 1000 + 106 % 7);
        at(TERMS, "As ints: MATCH");
        // 999 * 999 * 999 * 3 wraps round below 0
        due(match("999*999*999>0"), 1);
        due(match("999*999*999*3<0"), 1);
        due(match("999*999*999*3/999/999/9"), 999 * 999 * 999 * 3 / 999 / 999 / 9);
        // the least int by -1 is the least int again
        due(match("512*512*512*16/-1<0"), 1);
        due(match("-(512*512*512*16)<0"), 1);
        due(match("512*512*512*32"), 0);
    }

    private static int matchOf(String thing, int marks, String rule) {
        LostByState x = made(thing, "");
        due(text(x, rule).rule(), 0);
        return x.match(marks, 0) - 1000;
    }

    private static void officeTerms() {
        at(TERMS, "A CLAIM by somebody (0 .. 6) gets, of all THINGS that are IN, the one with the most MATCH");
        LostByState x = full("5abc;3ab;9d;1");
        x.set(1, -99);
        due(x.claim(-1, 3), NONE);
        due(x.claim(7, 3), NONE);
        due(x.claim(0, 3), 1);
        due(x.thing(1, 2), 0);
        due(x.claim(6, 3), 0);
        due(x.thing(0, 2), 6);
        due(x.claim(5, 3), 3);
        at(TERMS, "(of equal ones the first)");
        x = full("1;1ab;1ab;1ab");
        due(x.claim(6, 3), 1);
        due(x.claim(6, 3), 2);
        due(x.claim(6, 3), 3);
        at(TERMS, "if MATCH is NEED or more");
        x = full("1ab");
        x.set(1, 5);
        due(x.claim(6, 3), -2);
        x.set(1, 4);
        due(x.claim(6, 3), 0);
        x = full("1");
        text(x, "-99").rule();
        x.set(1, -98);
        due(x.claim(6, 0), -2);
        x.set(1, -99);
        due(x.claim(6, 0), 0);
        x = full("1");
        text(x, "999*9").rule();
        x.set(1, 99);
        due(x.claim(6, 0), 0);
        at(TERMS, "it is HAD by who claims then, PAID is WORTH more (9999 at most)");
        x = full("9");
        x.set(1, -99);
        due(x.claim(2, 0), 0);
        due(x.thing(0, 2), 2);
        due(x.thing(0, 4), -1);
        due(x.thing(0, 5), -1);
        due(x.count(5), 9);
        x = paid(9995);
        x.sheet(2, 1, 4, 0);
        x.claim(6, 0);
        due(x.count(5), 9999);
        x = paid(9996);
        x.sheet(2, 1, 4, 0);
        x.claim(6, 0);
        due(x.count(5), 9999);
        bringIn(x, 0, 1);
        due(x.claim(6, 0), 0);
        due(x.count(5), 9999);
        at(TERMS, "A DAY: DAYS of each THING that is IN are 1 more (99 at most)");
        x = office();
        bringIn(x, 0, 1);
        x.loses(1, 0);
        x.days(1);
        due(x.thing(0, 4), 1);
        due(x.thing(1, 4), -1);
        due(x.thing(2, 4), -1);
        x.set(0, 99);
        x.days(97);
        due(x.thing(0, 4), 98);
        x.days(1);
        due(x.thing(0, 2), 1);
        at(TERMS, "if they are TERM or more then, it is HAD by its FINDER. DAY is 1 more");
        x = full("1;2");
        x.set(0, 3);
        x.days(2);
        due(x.count(8), 3);
        x.days(1);
        due(x.thing(0, 2), 0);
        due(x.thing(1, 2), 1);
        due(x.thing(0, 5), -1);
        due(x.count(4), 3);
        x = full("1");
        x.set(0, 1);
        x.days(1);
        due(x.thing(0, 2), 0);
        x = full("1");
        x.days(10);
        x.set(0, 2);
        due(x.count(8), 1);
        x.days(1);
        due(x.thing(0, 2), 0);
    }

    /**
     * An office with one thing that is in, and so much paid. No 512 calls come near 9999; what more calls
     * answer is free, and this program answers them as the first 512.
     */
    private static LostByState paid(int much) {
        LostByState x = full("9");
        x.set(1, -99);
        for (int left = much; left > 0; left -= 9) {
            x.sheet(2, 1, left, 0);
            x.claim(6, 0);
            bringIn(x, 0, 1);
        }
        due(x.count(5), much);
        return x;
    }

    private static void rowTerms() {
        at(TERMS, "ROW: numbers told last by a call that says so");
        LostByState x = office();
        due(x.count(11), 0);
        x.can();
        row(x, 3, 0);
        x.alike();
        row(x, 0, 1, 3);
        x.match(7, 0);
        x.thing(0, 0);
        x.deed(0, 0);
        x.set(0, 9);
        x.sheet(2, 4, 1, 1);
        bringIn(x, 0, 1);
        x.claim(6, 7);
        x.gives(0, 1);
        x.until(0);
        x.said(1, 1);
        x.forget();
        x.undo();
        x.keep(0);
        x.again(0);
        x.count(0);
        text(x, "2").things();
        text(x, "3").deeds();
        text(x, "m").rule();
        row(x, 0, 1, 3);
        x.worth(0);
        row(x, 5, 6);
        Call[] telling = {q -> q.days(1), q -> text(q, "d1").year(), q -> q.gets(7), q -> q.fewest(0), q -> q.ways(0),
            q -> text(q, "a;b").shares(), q -> q.later(1), q -> q.advantage(), q -> q.soonest(), q -> q.confused(1),
            q -> q.regains(0), q -> q.fits(), q -> q.ask(), q -> q.tellsApart(), q -> q.alike(),
            q -> text(q, "123456").looks(3), q -> q.strays(0, 0, 2), q -> q.can(), q -> q.with(1),
            q -> q.weakest(), q -> q.worth(0), q -> q.hangs(0), q -> q.likely(1, 5), q -> text(q, "12").hatch(),
            q -> q.rests(20, 5), q -> text(q, "m").law(), q -> q.years(1, 1)};
        int[] many = {2, 2, 2, 1, 1, 2, 2, 2, 2, 2, 3, 2, 1, 1, 3, 5, 2, 2, 1, 1, 2, 1, 2, 2, 2, 2, 2};
        x = busy();
        for (int i = 0; i < telling.length; i++) {
            due("call " + i, telling[i].on(x) >= -255 ? 1 : 0, 1);
            due("numbers of call " + i, x.count(11), many[i]);
        }
        at(TERMS, "Rows of numbers are compared from the first on");
        x = made("1a;1b;1b;1a", "");
        x.alike();
        row(x, 0, 3, 1);
        x = full("1;1;1");
        text(x, "1").rule();
        due(text(x, "a;b").shares(), 2);
        row(x, 0, 1);
        at(TERMS, "Sets (of THINGS, DEEDS, MARKS) are bits");
        x = made(eight(), "7;0;7;0;7;0");
        due(x.can(), 63);
        due(x.thing(0, 6), 42);
        due(x.thing(7, 6), 21);
        due(x.deed(0, 0), 128);
        due(x.count(6), 255);
        due(made("1bh", "").thing(0, 0), 130);
        at(TERMS, "Fractions are told in lowest terms, upper and lower number (0 by 1)");
        x = made("1;1;1;1", "0123;01;0");
        x.worth(3);
        row(x, 1, 4);
        x.worth(1);
        row(x, 3, 4);
        x.worth(0);
        row(x, 7, 4);
        x.strays(0, 1, 20);
        row(x, 0, 1);
        x.strays(0, 0, 2);
        row(x, 1, 2);
        x.likely(3, 10);
        row(x, 0, 1);
        x.likely(3, 5);
        row(x, 1, 16);
        x.likely(0, 5);
        row(x, 1, 1);
        text(x, "400000").looks(0);
        row(x, 0, 1);
        text(x, "440000").looks(2);
        row(x, 1, 2, 0, 1);
        at(TERMS, "A DEED can be done, if the state has all THINGS that it NEEDS");
        x = made("1;1;1;1;1;1;1;1", "01234567");
        due(x.can(), 1);
        x.gives(7, 0);
        due(x.can(), 0);
        due(x.deed(0, 2), 0);
        x.gives(7, 6);
        x.loses(0, 0);
        due(x.can(), 0);
        x.finds(0, 0);
        due(x.can(), 0);
        at(TERMS, "which a call that reads it empties");
        String[] read = {"7", "x", "", "123456", "01;2", "7".repeat(80)};
        for (String s : read) {
            emptied(s, q -> q.things());
            emptied(s, q -> q.deeds());
            emptied(s, q -> q.rule());
            emptied(s, q -> q.year());
            emptied(s, q -> q.shares());
            emptied(s, q -> q.looks(1));
            emptied(s, q -> q.looks(11));
            emptied(s, q -> q.hatch());
            emptied(s, q -> q.law());
        }
    }

    private static void emptied(String s, Call call) {
        LostByState x = text(office(), s);
        due(x.count(12), s.length());
        call.on(x);
        due(x.count(12), 0);
    }

    // ---- things, deeds

    private static void texts() {
        at(1, "No THINGS, no DEEDS");
        LostByState fresh = new LostByState();
        due(fresh.count(0), 0);
        due(fresh.count(1), 0);
        none(fresh, q -> q.thing(0, 0));
        none(fresh, q -> q.deed(0, 0));
        due(fresh.count(6), 0);
        due(fresh.count(7), 0);
        due(fresh.count(8), 0);
        for (int what = 9; what <= 12; what++) {
            due(fresh.count(what), 0);
        }
        none(fresh, q -> q.row(0));
        at(2, "Four signs come behind THE TEXT, of v the highest byte first: how many it has");
        LostByState x = new LostByState();
        due(x.sign(0x39616268), 4);
        due(x.sign(0x3b37623b), 8);
        due(x.sign(0x31000000), 12);
        x.end(9);
        due(x.things(), 3);
        due(x.thing(0, 0), 131);
        due(x.thing(1, 1), 7);
        due(x.thing(2, 1), 1);
        x.sign(0x31616263);
        x.end(2);
        due(x.sign(0x3b326200), 6);
        x.end(5);
        due(x.things(), 2);
        due(x.thing(3, 0), 1);
        // each byte is a sign without sign of its own: 0xf1 is no digit 1
        due(x.sign(0xf1000000), 4);
        due(x.things(), -1);
        at(2, "Refused: there would be more than 80");
        for (int i = 1; i <= 20; i++) {
            due(x.sign(0x31313131), 4 * i);
        }
        due(x.sign(0), NONE);
        due(x.count(12), 80);
        for (int n = 79; n >= 77; n--) {
            x.end(n);
            due(x.sign(0), NONE);
            due(x.count(12), n);
        }
        x.end(76);
        due(x.sign(0), 80);
        x = text(new LostByState(), "0".repeat(80));
        x.end(77);
        x.sign(0x61616161);
        x.end(7);
        due(x.hatch(), -7);
        at(3, "THE TEXT has its first n signs alone: true");
        x = text(new LostByState(), "5abc");
        due(x.end(4), true);
        due(x.count(12), 4);
        due(x.end(2), true);
        due(x.count(12), 2);
        due(x.things(), 1);
        due(x.thing(0, 0), 1);
        x.sign(0);
        due(x.end(0), true);
        due(x.count(12), 0);
        due(x.end(0), true);
        at(3, "false if it has not so many");
        x = text(new LostByState(), "5abc");
        due(x.end(5), false);
        due(x.end(HIGH), false);
        due(x.count(12), 4);
        x.end(3);
        due(x.end(4), false);
        due(x.count(12), 3);
        due(new LostByState().end(1), false);
        at(3, "or n is below 0");
        due(x.end(-1), false);
        due(x.end(LOW), false);
        due(x.count(12), 3);
    }

    private static void thingTexts() {
        at(4, "THE TEXT tells of THINGS (an empty one: nothing): how many LINES");
        due(things(""), 0);
        due(things("9"), 1);
        due(things("9;8abcdefgh"), 2);
        due(things(eight()), 8);
        LostByState x = made(eight(), "");
        due(text(x, "").things(), 0);
        due(x.count(0), 8);
        at(4, "-1 - p: the sign at p can't stand there");
        due(things("x"), -1);
        due(things(";"), -1);
        due(things("\0"), -1);
        due(things("5x"), -2);
        due(things("5\0"), -2);
        due(things("5" + (char) 255), -2);
        due(things("5" + (char) ('a' + 128)), -2);
        due(things("5a5"), -3);
        due(things("5a;b"), -4);
        due(things("5 ;5"), -2);
        at(4, "its end, if it ends too early");
        due(things("5;"), -3);
        due(things("5abc;"), -6);
        due(things("5;5;"), -5);
        due(things(eight() + ";"), -17);
        at(4, "79, if it has more and the first 79 could go on or end");
        String longest = "1abcdefgh".concat(";1abcdefgh".repeat(7));
        due(things(longest + ";"), -80);
        due(things(longest + "a"), -80);
        due(things(longest + "1"), -80);
        String shorter = "1abcdefg".concat(";1abcdefgh".repeat(7));
        due(things(shorter + ";"), -80);
        due(things(shorter + ";1"), -80);
        due(things(shorter + "i;"), -79);
        due(things("1abx".concat(longest.substring(4)) + ";"), -4);
        at(4, "a letter that is no more than the one ahead: at it");
        due(things("5aa"), -3);
        due(things("5hh"), -3);
        due(things("5ba"), -3);
        due(things("5acb"), -4);
        due(things("5h;5a"), 2);
        at(4, "the first sign of a LINE for which there is no room");
        due(things(eight() + ";1"), -17);
        due(things(eight() + ";x"), -17);
        due(things(eight() + ";1abc;1"), -17);
        x = made("1;2;3;4;5", "");
        due(text(x, "6;7;8;9").things(), -7);
        due(text(x, "6;7;8").things(), 3);
        due(text(x, "9").things(), -1);
        due(text(x, "9;8").things(), -1);
        at(4, "Nothing of it comes, if a LINE can't");
        x = made("1;2", "");
        due(text(x, "5a;6b;x").things(), -7);
        due(x.count(0), 2);
        none(x, q -> q.thing(2, 0));
        due(text(x, "3a;4b;5c;6d;7e;8f;9g").things(), -19);
        due(x.count(0), 2);
        due(x.thing(1, 1), 2);
        due(x.count(6), 3);
        due(text(x, "3").things(), 1);
        due(x.thing(2, 0), 0);
        due(x.thing(2, 1), 3);
    }

    private static int deeds(int many, String s) {
        String ones = many == 0 ? "" : "1".concat(";1".repeat(many - 1));
        return text(made(ones, ""), s).deeds();
    }

    private static void deedTexts() {
        at(5, "THE TEXT tells of DEEDS (an empty one: nothing): how many LINES");
        due(deeds(0, ""), 0);
        due(deeds(1, ""), 0);
        due(deeds(1, "0"), 1);
        due(deeds(2, "0;1;01"), 3);
        LostByState x = made("1", "0;0;0;0;0;0");
        due(text(x, "").deeds(), 0);
        due(x.count(1), 6);
        at(5, "-1 - p: likewise");
        due(deeds(8, "x"), -1);
        due(deeds(8, ";"), -1);
        due(deeds(8, "0x"), -2);
        due(deeds(8, "0;a"), -3);
        due(deeds(8, "0;"), -3);
        due(deeds(8, "01;2;"), -6);
        due(deeds(8, "00"), -2);
        due(deeds(8, "10"), -2);
        due(deeds(8, "021"), -3);
        due(deeds(8, "7;0"), 2);
        due(deeds(8, "0" + (char) ('1' + 128)), -2);
        due(deeds(8, "0;1;2;3;4;5;6"), -13);
        due(deeds(8, "0;1;2;3;4;5;"), -13);
        due(deeds(8, "0;1;2;3;4;5;x"), -13);
        x = made("1;1", "0;1;01;0");
        due(text(x, "0;1;01").deeds(), -5);
        due(x.count(1), 4);
        due(text(x, "0;1").deeds(), 2);
        due(text(x, "0").deeds(), -1);
        due(x.count(1), 6);
        x = made("1;1", "01");
        due(text(x, "0;1;x").deeds(), -5);
        due(x.count(1), 1);
        none(x, q -> q.deed(1, 0));
        due(x.deed(0, 0), 3);
        due(x.thing(0, 6), 1);
        at(5, "(53 signs;");
        String most = "01234567".concat(";01234567".repeat(5));
        due(deeds(8, most), 6);
        due(deeds(8, most + ";"), -54);
        due(deeds(8, most + "8"), -54);
        due(deeds(8, most + ";0"), -54);
        due(deeds(8, most + "x".repeat(27)), -54);
        due(deeds(8, most.substring(0, 52) + ";"), -54);
        due(deeds(8, most.substring(0, 52) + ";0"), -54);
        due(deeds(8, most.substring(0, 52) + "x;"), -53);
        at(5, "a THING that is not there: at it)");
        due(deeds(3, "3"), -1);
        due(deeds(3, "013"), -3);
        due(deeds(3, "012;3"), -5);
        due(deeds(3, "2"), 1);
        due(deeds(0, "0"), -1);
        due(deeds(8, "8"), -1);
        due(deeds(8, "79"), -2);
    }

    private static void ruleTexts() {
        at(6, "THE TEXT is THE RULE (an empty one: none): 0");
        LostByState x = office();
        due(text(x, "7").rule(), 0);
        due(x.match(9, 0), 1007);
        due(text(x, "").rule(), 0);
        due(x.match(9, 0), 997);
        due(text(new LostByState(), "").rule(), 0);
        at(6, "-1 - p: likewise (40 signs)");
        due(rule("z"), -1);
        due(rule("\0"), -1);
        due(rule("M"), -1);
        due(rule("m" + (char) ('+' + 128)), -2);
        due(rule("mx"), -2);
        due(rule("2m"), -2);
        due(rule("m2"), -2);
        due(rule("m;"), -2);
        due(rule("m "), -2);
        due(rule("m+"), -3);
        due(rule("(m"), -3);
        due(rule("("), -2);
        due(rule("-"), -2);
        due(rule("-".repeat(39) + "m"), 0);
        due(rule("-".repeat(40)), -41);
        due(rule("-".repeat(40) + "m"), -41);
        due(rule("-".repeat(39) + "m+"), -41);
        due(rule("-".repeat(39) + "m)"), -41);
        due(rule("-".repeat(38) + "77"), 0);
        due(rule("-".repeat(38) + "777"), -41);
        due(rule("-".repeat(38) + "(m)"), -41);
        due(rule("-".repeat(37) + "(m)"), 0);
        due(rule("m+" + "+".repeat(78)), -3);
        due(rule("-".repeat(39) + "z" + "m"), -40);
        due(rule("m" + "+m".repeat(39)), -41);
        x = office();
        text(x, "7").rule();
        due(text(x, "m+").rule(), -3);
        due(text(x, "-".repeat(39) + "m+").rule(), -41);
        due(x.match(9, 0), 1007);
    }

    private static void questionsOfOne() {
        LostByState x = office();
        x.loses(0, 5);
        bringIn(x, 1, 3);
        x.days(2);
        x.gives(2, 0);
        at(7, "Of a THING, what 0: MARKS (bits), 1: WORTH");
        due(x.thing(0, 0), 7);
        due(x.thing(3, 0), 0);
        due(x.thing(0, 1), 5);
        due(x.thing(3, 1), 1);
        at(7, "2: who has it (0 .. 6; -1: nobody)");
        due(x.thing(0, 2), -1);
        due(x.thing(1, 2), -1);
        due(x.thing(2, 2), 0);
        due(x.thing(3, 2), 6);
        at(7, "3: its PLACE, if LOST (-1: it is not)");
        due(x.thing(0, 3), 5);
        due(x.thing(1, 3), -1);
        due(x.thing(2, 3), -1);
        due(x.thing(3, 3), -1);
        at(7, "4: DAYS, if IN (-1: it is not)");
        due(x.thing(0, 4), -1);
        due(x.thing(1, 4), 2);
        due(x.thing(2, 4), -1);
        due(x.thing(3, 4), -1);
        at(7, "5: FINDER, if IN (-1)");
        due(x.thing(0, 5), -1);
        due(x.thing(1, 5), 3);
        due(x.thing(2, 5), -1);
        due(x.thing(3, 5), -1);
        x.days(99);
        due(x.thing(1, 5), -1);
        at(7, "6: DEEDS that NEED it (bits)");
        due(x.thing(0, 6), 5);
        due(x.thing(2, 6), 6);
        due(x.thing(3, 6), 0);
        due(made("1", "0;0;0;0;0;0").thing(0, 6), 63);
        at(7, "NoSuchElementException: none such, another what");
        for (int what = 0; what <= 6; what++) {
            int of = what;
            none(x, q -> q.thing(-1, of));
            none(x, q -> q.thing(4, of));
            none(x, q -> q.thing(8, of));
            none(x, q -> q.thing(LOW, of));
            none(x, q -> q.thing(HIGH, of));
        }
        none(x, q -> q.thing(0, -1));
        none(x, q -> q.thing(0, 7));
        none(x, q -> q.thing(0, LOW));
        none(x, q -> q.thing(0, HIGH));
        none(x, q -> q.thing(4, 7));
        none(made(eight(), ""), q -> q.thing(8, 0));
        due(made(eight(), "").thing(7, 2), 6);
        at(8, "Of a DEED, what 0: NEEDS (bits)");
        due(x.deed(0, 0), 3);
        due(x.deed(2, 0), 7);
        at(8, "1: those of these that the state has not (bits), 2: 1 if it can be done");
        x = office();
        due(x.deed(2, 1), 0);
        due(x.deed(2, 2), 1);
        x.loses(0, 0);
        due(x.deed(2, 1), 1);
        bringIn(x, 1, 0);
        x.gives(2, 5);
        due(x.deed(2, 1), 7);
        due(x.deed(2, 2), 0);
        due(x.deed(2, 0), 7);
        at(8, "NoSuchElementException: likewise");
        for (int what = 0; what <= 2; what++) {
            int of = what;
            none(x, q -> q.deed(-1, of));
            none(x, q -> q.deed(3, of));
            none(x, q -> q.deed(6, of));
            none(x, q -> q.deed(LOW, of));
            none(x, q -> q.deed(HIGH, of));
        }
        none(x, q -> q.deed(0, -1));
        none(x, q -> q.deed(0, 3));
        none(x, q -> q.deed(0, LOW));
        none(x, q -> q.deed(0, HIGH));
        LostByState six = made("1", "0;0;0;0;0;0");
        due(six.deed(5, 0), 1);
        none(six, q -> q.deed(6, 0));
    }

    private static void settings() {
        at(9, "What 0: TERM (1 .. 99)");
        LostByState x = new LostByState();
        due(x.set(0, 1), 130);
        due(x.count(2), 1);
        due(x.set(0, 99), 101);
        due(x.count(2), 99);
        due(x.set(0, 0), NONE);
        due(x.set(0, 100), NONE);
        due(x.set(0, -5), NONE);
        due(x.count(2), 99);
        due(x.count(3), 103);
        at(9, "1: NEED (-99 .. 99)");
        due(x.set(1, -99), 103);
        due(x.count(3), 1);
        due(x.set(1, 99), 1);
        due(x.count(3), 199);
        due(x.set(1, -100), NONE);
        due(x.set(1, 100), NONE);
        due(x.count(3), 199);
        due(x.count(2), 99);
        at(9, "becomes v: 100 and what it was");
        due(x.set(1, 0), 199);
        due(x.set(1, -1), 100);
        due(x.set(1, 5), 99);
        due(x.set(0, 7), 199);
        due(x.set(0, 7), 107);
        at(9, "Refused: others");
        due(x.set(2, 5), NONE);
        due(x.set(-1, 5), NONE);
        due(x.set(LOW, 5), NONE);
        due(x.set(HIGH, 5), NONE);
        due(x.set(0, LOW), NONE);
        due(x.set(0, HIGH), NONE);
        due(x.set(1, LOW), NONE);
        due(x.set(1, HIGH), NONE);
        due(x.count(2), 7);
        due(x.count(3), 105);
    }

    private static void sheet(LostByState x, int answer, int want, String worths) {
        due(answer, want);
        StringBuilder told = new StringBuilder();
        for (int t = 0; t < x.count(0); t++) {
            told.append(x.thing(t, 1));
        }
        same("worths", told.toString(), worths);
    }

    private static void sheets() {
        LostByState x = made(eight(), "");
        at(10, "of n entries f, f + step, ..");
        sheet(x, x.sheet(2, 8, 1, 1), 36, "12345678");
        sheet(x, x.sheet(2, 8, 9, -1), 44, "98765432");
        sheet(x, x.sheet(2, 3, 7, 0), 26, "77711111");
        // as ints they wrap round
        sheet(x, x.sheet(2, 3, HIGH, 1), 16, "91111111");
        sheet(x, x.sheet(2, 3, LOW, -1), 24, "19911111");
        sheet(x, x.sheet(2, 4, 5, 1 << 30), 5 + 9 + 1 + 1 + 4, "59111111");
        sheet(x, x.sheet(2, 5, 5, 1 << 30), 5 + 9 + 1 + 1 + 5 + 3, "59115111");
        at(10, "(of bytes, shorts the lowest bits, with their sign; put to 1 .. 9)");
        sheet(x, x.sheet(0, 3, 0x7e, 1), 24, "99111111");
        sheet(x, x.sheet(0, 3, 0xff, 1), 8, "11111111");
        sheet(x, x.sheet(0, 3, 0x105, 0x101), 5 + 6 + 7 + 5, "56711111");
        sheet(x, x.sheet(0, 1, -251, 0), 12, "51111111");
        sheet(x, x.sheet(1, 3, 0x7ffe, 1), 24, "99111111");
        sheet(x, x.sheet(1, 3, 0xffff, 1), 8, "11111111");
        sheet(x, x.sheet(1, 3, 0x10005, 0x10001), 5 + 6 + 7 + 5, "56711111");
        sheet(x, x.sheet(1, 1, 0x105, 0), 16, "91111111");
        sheet(x, x.sheet(2, 1, 0x10005, 0), 16, "91111111");
        sheet(x, x.sheet(2, 4, -1, 1), 1 + 1 + 1 + 2 + 4, "11121111");
        sheet(x, x.sheet(2, 4, 8, 1), 8 + 9 + 9 + 9 + 4, "89991111");
        at(10, "or a missing one (3): those behind it have 1: the sum of all");
        sheet(x, x.sheet(2, 8, 9, 0), 72, "99999999");
        sheet(x, x.sheet(2, 7, 9, 0), 64, "99999991");
        sheet(x, x.sheet(0, 0, 9, 0), 8, "11111111");
        LostByState two = made("5;6", "");
        sheet(two, two.sheet(2, 8, 4, 1), 9, "45");
        sheet(two, two.sheet(2, 1, 4, 1), 5, "41");
        due(new LostByState().sheet(2, 8, 4, 1), 0);
        at(10, "-2: n below 0 (of kinds 0 .. 2; nothing changes)");
        x.sheet(2, 8, 7, 0);
        for (int kind = 0; kind <= 2; kind++) {
            sheet(x, x.sheet(kind, -1, 5, 0), -2, "77777777");
            sheet(x, x.sheet(kind, LOW, 5, 0), -2, "77777777");
        }
        at(10, "-3: missing (all 1)");
        int[] any = {0, 8, -1, 3, LOW};
        for (int n : any) {
            x.sheet(2, 8, 7, 0);
            sheet(x, x.sheet(3, n, 5, 0), -3, "11111111");
        }
        due(new LostByState().sheet(3, 0, 0, 0), -3);
        at(10, "NONE: another kind, n above 8 (these first)");
        x.sheet(2, 8, 7, 0);
        for (int kind = -1; kind <= 4; kind++) {
            sheet(x, x.sheet(kind, 9, 5, 0), NONE, "77777777");
            sheet(x, x.sheet(kind, HIGH, 5, 0), NONE, "77777777");
        }
        int[] kinds = {-1, 4, LOW, HIGH};
        for (int kind : kinds) {
            sheet(x, x.sheet(kind, 3, 5, 0), NONE, "77777777");
            sheet(x, x.sheet(kind, -1, 5, 0), NONE, "77777777");
        }
    }

    // ---- the office

    private static void acts() {
        at(11, "A THING that somebody has (0 .. 6) is LOST at a PLACE (0 .. 5): how many are LOST then");
        LostByState x = office();
        x.gives(0, 0);
        x.gives(1, 5);
        due(x.loses(0, 0), 1);
        due(x.loses(1, 5), 2);
        due(x.loses(2, 3), 3);
        due(x.count(7), 7);
        due(x.thing(1, 2), -1);
        due(x.thing(1, 3), 5);
        at(11, "-2: nobody has it");
        due(x.loses(0, 1), -2);
        due(x.thing(0, 3), 0);
        x.finds(0, 0);
        due(x.loses(0, 1), -2);
        at(11, "NONE: others");
        int[] places = {-1, 6, LOW, HIGH};
        for (int place : places) {
            due(x.loses(3, place), NONE);
            due(x.loses(0, place), NONE);
        }
        int[] things = {-1, 4, 8, LOW, HIGH};
        for (int thing : things) {
            due(x.loses(thing, 0), NONE);
        }
        due(x.thing(3, 2), 6);
        at(12, "Somebody (0 .. 5) finds a THING that is LOST, and brings it IN (DAYS 0): how many are IN then");
        x = office();
        x.loses(0, 0);
        x.loses(3, 5);
        x.days(9);
        due(x.finds(0, 0), 1);
        due(x.thing(0, 4), 0);
        due(x.thing(0, 5), 0);
        due(x.thing(0, 3), -1);
        due(x.finds(5, 3), 2);
        due(x.thing(3, 5), 5);
        due(x.count(8), 9);
        at(12, "-2: it is not LOST");
        due(x.finds(1, 0), -2);
        due(x.finds(1, 1), -2);
        due(x.thing(0, 5), 0);
        at(12, "NONE: others");
        x.loses(1, 1);
        int[] people = {-1, 6, 7, LOW, HIGH};
        for (int person : people) {
            due(x.finds(person, 1), NONE);
            due(x.finds(person, 2), NONE);
        }
        for (int thing : things) {
            due(x.finds(0, thing), NONE);
        }
        due(x.thing(1, 3), 1);
        claimsAndGifts();
    }

    private static void claimsAndGifts() {
        int[] wrongOnes = {-1, 7, LOW, HIGH};
        at(13, "A CLAIM by somebody (0 .. 6), with a description (MARKS, bits 0 .. 255): the THING that it gets");
        LostByState x = full("5abc;3ab;9d;1abcdefgh");
        x.set(1, -20);
        due(x.claim(0, 255), 3);
        due(x.claim(6, 0), 2);
        due(x.claim(5, 7), 0);
        due(x.thing(3, 2), 0);
        due(x.thing(2, 2), 6);
        due(x.thing(0, 2), 5);
        due(x.count(5), 15);
        at(13, "-2: none");
        x.set(1, 0);
        due(x.claim(6, 0), -2);
        due(x.claim(6, 3), 1);
        due(x.claim(6, 3), -2);
        due(new LostByState().claim(6, 3), -2);
        due(x.count(5), 18);
        at(13, "NONE: others");
        x = full("1abcdefgh");
        x.set(1, -99);
        for (int who : wrongOnes) {
            due(x.claim(who, 255), NONE);
        }
        int[] descriptions = {-1, 256, LOW, HIGH};
        for (int marks : descriptions) {
            due(x.claim(6, marks), NONE);
        }
        due(x.count(8), 1);
        due(x.count(5), 0);
        at(14, "One who has a THING (0 .. 6) gives it to another one (0 .. 6): who had it");
        x = office();
        due(x.gives(0, 0), 6);
        due(x.gives(0, 5), 0);
        due(x.gives(0, 6), 5);
        due(x.thing(0, 2), 6);
        due(x.gives(3, 0), 6);
        at(14, "-2: nobody has it, or that one does");
        due(x.gives(0, 6), -2);
        due(x.gives(3, 0), -2);
        x.loses(1, 0);
        due(x.gives(1, 0), -2);
        due(x.thing(1, 3), 0);
        x.finds(4, 1);
        due(x.gives(1, 4), -2);
        due(x.gives(1, 6), -2);
        due(x.thing(1, 4), 0);
        at(14, "NONE: others");
        for (int who : wrongOnes) {
            due(x.gives(0, who), NONE);
            due(x.gives(1, who), NONE);
        }
        int[] things = {-1, 4, 8, LOW, HIGH};
        for (int thing : things) {
            due(x.gives(thing, 0), NONE);
        }
        due(x.thing(0, 2), 6);
    }

    private static void days() {
        at(15, "n DAYS (0 .. 99): how many THINGS went to their FINDERS in these");
        LostByState x = full("5abc;3ab;9d;1");
        due(x.days(0), 0);
        row(x, 0, 0);
        due(x.count(4), 0);
        due(x.days(29), 0);
        row(x, 0, 0);
        due(x.days(1), 4);
        row(x, 15, 0);
        due(x.days(1), 0);
        row(x, 0, 0);
        due(x.count(4), 31);
        x = full("1");
        x.set(0, 99);
        due(x.days(99), 1);
        due(x.count(4), 99);
        x = office();
        bringIn(x, 0, 0);
        x.days(20);
        bringIn(x, 1, 3);
        due(x.days(99), 2);
        at(15, "they (bits), DEEDS that can be done then (bits)");
        row(x, 3, 2);
        x = made(eight(), "0;1;2;3;4;5");
        due(x.days(99), 0);
        row(x, 0, 63);
        for (int t = 0; t < 8; t++) {
            bringIn(x, t, t % 6);
        }
        due(x.days(30), 8);
        row(x, 255, 0);
        at(15, "Refused: another n");
        int[] spans = {-1, 100, LOW, HIGH};
        for (int n : spans) {
            due(x.days(n), NONE);
        }
        due(x.count(4), 129);
        row(x, 255, 0);
    }

    private static int year(String s) {
        return text(office(), s).year();
    }

    private static void year(String s, int done, int stopped, int can) {
        LostByState x = office();
        due(text(x, s).year(), done);
        row(x, stopped, can);
    }

    private static void years() {
        at(16, "THE TEXT tells A YEAR (an empty one: nothing), ACTS one behind another, without signs between");
        year("", 0, 0, 7);
        year("d1d1", 2, 0, 7);
        due(year("d1;d1"), -3);
        due(year("d1 d1"), -3);
        at(16, "l and two digits (loses(): THING, PLACE)");
        year("l05", 1, 0, 2);
        year("l06", 0, 1, 7);
        year("l30", 1, 0, 7);
        year("l40", 0, 1, 7);
        year("l99", 0, 1, 7);
        due(year("l"), -2);
        due(year("l0"), -3);
        due(year("l0a"), -3);
        due(year("la0"), -2);
        due(year("l0:"), -3);
        due(year("l0/"), -3);
        due(year("l000"), -4);
        at(16, "f and two digits (finds(): somebody, THING)");
        year("l02f50", 2, 0, 2);
        year("l02f60", 1, 1, 2);
        year("f00", 0, 1, 7);
        due(year("f"), -2);
        due(year("f0"), -3);
        due(year("f0x"), -3);
        at(16, "c, a digit and letters a .. h (claim(): who, MARKS: rising, perhaps none;");
        year("l00f00c6abc", 3, 0, 7);
        year("l00f00c0ab", 3, 0, 2);
        year("l00f00c7abc", 2, 1, 2);
        year("l00f00c6", 2, 1, 2);
        LostByState bare = office();
        bare.set(1, -99);
        due(text(bare, "l00f00c6").year(), 3);
        row(bare, 0, 7);
        due(text(bare, "l00f00c6abcdefgh").year(), 3);
        row(bare, 0, 7);
        due(text(bare, "d0").year(), 1);
        row(bare, 0, 7);
        due(year("c"), -2);
        due(year("ca"), -2);
        due(year("c66"), -3);
        due(year("c6i"), -3);
        due(year("c6aa"), -4);
        due(year("c6ba"), -4);
        at(16, "each letter that rises is one of these, not the next ACT)");
        due(year("c6d1"), -4);
        due(year("c6f00"), -4);
        due(year("c6g00"), -4);
        due(year("c6c6"), -4);
        due(year("l00f00c6abcd1"), -13);
        year("l20f02c6dd1", 2, 1, 1);
        due(text(bare, "l20f02c6dd1").year(), 4);
        due(bare.count(4), 1);
        due(text(bare, "l20f02c6hg21").year(), 4);
        due(text(bare, "g26l20c6hf12").year(), 2);
        due(text(bare, "f12c6dc6").year(), 2);
        row(bare, 1, 7);
        due(text(bare, "c6l20").year(), 0);
        moreYears();
    }

    private static void moreYears() {
        at(16, "g and two digits (gives(): THING, who)");
        year("g05", 1, 0, 2);
        year("g06", 0, 1, 7);
        year("g07", 0, 1, 7);
        due(year("g"), -2);
        due(year("g0"), -3);
        at(16, "d and a digit (days())");
        year("d0", 1, 0, 7);
        year("d9", 1, 0, 7);
        due(year("d"), -2);
        due(year("dd"), -2);
        due(year("d10"), -3);
        LostByState x = office();
        text(x, "d9d9d0").year();
        due(x.count(4), 18);
        at(16, "they are done one by one, till one can't be (it answers below 0): how many were done; "
            + "the ROW: 1 if one could not be, else 0; DEEDS that can be done then (bits)");
        year("l02f30d1g13c6ab", 5, 0, 2);
        year("l02l02l12", 1, 1, 2);
        year("l02l12l22l32", 4, 0, 0);
        x = office();
        due(text(x, "g12g12l00").year(), 1);
        due(x.count(7), 0);
        due(text(x, "g12l00").year(), 0);
        row(x, 1, 2);
        due(x.count(7), 0);
        at(16, "-1 - p: the sign at p can't stand there (as things(); 60 signs)");
        due(year("x"), -1);
        due(year("0"), -1);
        due(year("a"), -1);
        due(year("d1x"), -3);
        due(year("d1" + (char) ('d' + 128)), -3);
        due(year("d1".repeat(30)), 30);
        due(year("d1".repeat(30) + "d"), -61);
        due(year("d1".repeat(30) + "x"), -61);
        due(year("d1".repeat(40)), -61);
        due(year("d1".repeat(29) + "l0"), -61);
        due(year("d1".repeat(29) + "l01"), -61);
        due(year("d1".repeat(29) + "l"), -60);
        due(year("d1".repeat(29) + "lx1"), -60);
        due(year("d1".repeat(28) + "l00l0"), -61);
        due(year("d1".repeat(28) + "l00x0"), -60);
        due(year("d1".repeat(29) + "c6a"), -61);
        due(year("d1".repeat(29) + "c6"), 29);
        due(year("d1".repeat(28) + "c6ah"), 28);
        due(year("d1".repeat(28) + "d1dx"), -60);
        at(16, "nothing is done then");
        x = office();
        due(text(x, "l00f00d1g11x").year(), -12);
        due(x.count(6), 15);
        due(x.count(4), 0);
        due(x.count(10), 0);
        due(x.count(11), 0);
        due(text(x, "l00".repeat(20) + "l").year(), -61);
        due(x.count(6), 15);
    }

    private static void undoing() {
        at(17, "(of 12 that are kept, the latest ones;");
        LostByState x = office();
        for (int i = 0; i < 12; i++) {
            x.gives(0, i % 2);
        }
        due(x.count(10), 12);
        x.gives(0, 5);
        due(x.count(10), 12);
        for (int i = 0; i < 12; i++) {
            due(x.undo(), 11 - i);
        }
        due(x.thing(0, 2), 0);
        due(x.undo(), NONE);
        due(x.thing(0, 2), 0);
        // more than all room goes round, with some undone between
        for (int i = 0; i < 100; i++) {
            x.gives(0, i % 6 == x.thing(0, 2) ? 6 : i % 6);
            x.days(i % 5 + 1);
            int day = x.count(4);
            x.loses(1, i % 6);
            x.undo();
            due(x.count(4), day);
            due(x.thing(1, 2), 6);
        }
        // the last loss, though undone, has taken the place of the oldest one
        due(x.count(10), 11);
        int day = x.count(4);
        for (int i = 99; i >= 94; i--) {
            due(x.undo(), 2 * (i - 94));
            day -= i % 5 + 1;
            due(x.count(4), day);
            due(x.undo(), i > 94 ? 2 * (i - 94) - 1 : NONE);
        }
        due(x.undo(), NONE);
        at(17, "such as were done;");
        x = office();
        x.gives(0, 6);
        x.gives(0, 7);
        x.loses(0, 6);
        x.finds(0, 0);
        x.claim(6, 7);
        x.claim(7, 7);
        x.days(100);
        text(x, "x").year();
        due(x.count(10), 0);
        due(x.undo(), NONE);
        x.loses(0, 0);
        due(x.count(10), 1);
        x.finds(0, 0);
        due(x.count(10), 2);
        x.claim(6, 7);
        due(x.count(10), 3);
        x.gives(0, 1);
        due(x.count(10), 4);
        due(x.gives(0, 1), -2);
        due(x.undo(), 3);
        due(x.thing(0, 2), 6);
        x = office();
        for (int i = 0; i < 14; i++) {
            x.gives(0, i % 5);
        }
        x.gives(0, 3);
        x.finds(0, 0);
        x.days(0);
        x.claim(6, 7);
        text(x, "l06").year();
        due(x.count(10), 12);
        for (int i = 13; i >= 2; i--) {
            due(x.thing(0, 2), i % 5);
            due(x.undo(), i - 2);
        }
        due(x.thing(0, 2), 1);
        at(17, "days() of 1 and more");
        x = office();
        x.gives(0, 1);
        x.gives(0, 2);
        x.gives(0, 3);
        x.days(0);
        due(x.count(10), 3);
        x.days(1);
        due(x.count(10), 4);
        due(x.undo(), 3);
        due(x.count(4), 0);
        x.days(99);
        due(x.count(10), 4);
        due(x.undo(), 3);
        due(x.count(4), 0);
        moreUndoing();
    }

    private static void moreUndoing() {
        at(17, "year() of which one ACT was done, as one)");
        LostByState x = office();
        text(x, "").year();
        due(x.count(10), 0);
        text(x, "g06").year();
        due(x.count(10), 0);
        text(x, "g01g01").year();
        due(x.count(10), 1);
        text(x, "l12d9f21g02").year();
        due(x.count(10), 2);
        due(x.undo(), 1);
        due(x.thing(1, 2), 6);
        due(x.thing(0, 2), 1);
        due(x.count(4), 0);
        due(x.undo(), 0);
        due(x.thing(0, 2), 6);
        text(x, "d0").year();
        due(x.count(10), 1);
        at(17, "(where all THINGS are, DAYS, FINDERS, DAY, PAID are as ahead of it)");
        x = busy();
        String ahead = seen(x);
        x.claim(2, 7);
        x.undo();
        same("claim undone", seen(x), ahead);
        x.days(99);
        x.undo();
        same("days undone", seen(x), ahead);
        x.finds(3, 3);
        x.undo();
        same("finding undone", seen(x), ahead);
        x.loses(2, 3);
        x.undo();
        same("loss undone", seen(x), ahead);
        x.gives(2, 3);
        x.undo();
        same("gift undone", seen(x), ahead);
        text(x, "f33d9l11c2abc").year();
        text(x, "7ax");
        x.undo();
        same("year undone", seen(x), ahead);
        at(17, "how many are left that can be. Refused: none");
        x = office();
        due(x.undo(), NONE);
        x.gives(0, 1);
        x.gives(0, 2);
        due(x.undo(), 1);
        due(x.undo(), 0);
        due(x.undo(), NONE);
        due(new LostByState().undo(), NONE);
        at(17, "(things(), deeds() and again() forget them, if they are not refused; "
            + "those that read an empty text do not.)");
        x = office();
        x.keep(0);
        x.gives(0, 1);
        due(text(x, "").things(), 0);
        due(text(x, "").deeds(), 0);
        due(text(x, "x").things(), -1);
        due(text(x, "9").deeds(), -1);
        due(x.again(1), false);
        due(x.count(10), 1);
        due(text(x, "0").deeds(), 1);
        due(x.count(10), 0);
        due(x.undo(), NONE);
        x.gives(0, 2);
        due(text(x, "1").things(), 1);
        due(x.count(10), 0);
        x.keep(1);
        x.gives(0, 3);
        due(x.again(1), true);
        due(x.count(10), 0);
        due(x.undo(), NONE);
        due(x.thing(0, 2), 2);
        x.gives(0, 4);
        due(x.undo(), 0);
        due(x.thing(0, 2), 2);
    }

    // ---- descriptions

    private static void descriptions() {
        int[] wrongMarks = {-1, 256, LOW, HIGH};
        int[] wrongThings = {-1, 4, 8, LOW, HIGH};
        at(18, "MATCH of a description (bits 0 .. 255) and a THING now, wherever it is");
        LostByState x = office();
        due(x.match(0, 3), 1000);
        due(x.match(255, 3), 976);
        due(x.match(255, 0), 1000 + 6 - 15);
        x.loses(0, 0);
        due(x.match(7, 0), 1006);
        x.finds(0, 0);
        due(x.match(7, 0), 1006);
        x.claim(3, 7);
        due(x.match(7, 0), 1006);
        at(18, "1000 and that (put to -999 .. 999)");
        due(1000 + match("998"), 1998);
        due(1000 + match("999"), 1999);
        due(1000 + match("999+1"), 1999);
        due(1000 + match("512*512*512*15"), 1999);
        due(1000 + match("-998"), 2);
        due(1000 + match("-999"), 1);
        due(1000 + match("-999-1"), 1);
        due(1000 + match("512*512*512*16"), 1);
        due(1000 + match("0"), 1000);
        at(18, "NONE: others");
        for (int marks : wrongMarks) {
            due(x.match(marks, 0), NONE);
        }
        for (int thing : wrongThings) {
            due(x.match(0, thing), NONE);
        }
        due(new LostByState().match(0, 0), NONE);
        at(19, "1000 and MATCH (as match()), how many THINGS that are IN have NEED or more");
        x = full("1ab;1abc;1abcd");
        x.set(1, 2);
        due(x.gets(3), 0);
        row(x, 1004, 3);
        x.set(1, 3);
        due(x.gets(3), 0);
        row(x, 1004, 2);
        x.set(1, 4);
        due(x.gets(3), 0);
        row(x, 1004, 1);
        x.claim(6, 3);
        x.set(1, 3);
        due(x.gets(3), 1);
        row(x, 1003, 1);
        text(x, "999*9").rule();
        due(x.gets(0), 1);
        row(x, 1999, 2);
        text(x, "w*9-999-999").rule();
        x.set(1, -99);
        due(x.gets(0), -2);
        text(x, "-99").rule();
        due(x.gets(255), 1);
        row(x, 901, 2);
        at(19, "-2: none; NONE: another description");
        due(office().gets(7), -2);
        x = full("1ab");
        x.set(1, 5);
        due(x.gets(3), -2);
        due(new LostByState().gets(0), -2);
        for (int marks : wrongMarks) {
            due(x.gets(marks), NONE);
        }
        fewestAndWays();
    }

    private static void fewestAndWays() {
        int[] wrongThings = {-1, 2, 8, LOW, HIGH};
        at(20, "The fewest MARKS of a description by which a CLAIM would get a THING now: how many; "
            + "the ROW: they (bits: of as few the least)");
        LostByState x = full("1ab;1abcd");
        x.set(1, 2);
        due(x.fewest(1), 2);
        row(x, 5);
        due(x.fewest(0), 2);
        row(x, 3);
        x.set(1, -2);
        due(x.fewest(0), 0);
        row(x, 0);
        x = full("1abcdefgh");
        x.set(1, 16);
        due(x.fewest(0), 8);
        row(x, 255);
        x.set(1, 15);
        due(x.fewest(0), 8);
        x.set(1, 13);
        due(x.fewest(0), 7);
        row(x, 127);
        x = full("1;1h");
        x.set(1, 2);
        due(x.fewest(1), 1);
        row(x, 128);
        x.set(1, -99);
        text(x, "0-m-x").rule();
        due(x.fewest(0), 0);
        text(x, "m").rule();
        due(x.fewest(0), 0);
        due(x.fewest(1), 1);
        row(x, 128);
        at(20, "-2: it is by none; NONE: none such");
        x = full("1abcdefgh;1abcdefgh");
        due(x.fewest(1), -2);
        x.set(1, 17);
        due(x.fewest(0), -2);
        x.set(1, -99);
        x.claim(6, 0);
        due(x.fewest(0), -2);
        x.loses(0, 0);
        due(x.fewest(0), -2);
        for (int thing : wrongThings) {
            due(x.fewest(thing), NONE);
        }
        at(21, "How many descriptions (of all 256) would get a THING now; the ROW: how many would get none");
        x = full("1abcdefgh;1abcdefgh");
        x.set(1, 16);
        due(x.ways(0), 1);
        row(x, 255);
        x.set(1, 17);
        due(x.ways(0), 0);
        row(x, 256);
        x.set(1, -8);
        due(x.ways(0), 256);
        row(x, 0);
        due(x.ways(1), 0);
        row(x, 0);
        x.set(1, -7);
        due(x.ways(0), 255);
        row(x, 1);
        due(office().ways(0), 0);
        at(21, "NONE: none such");
        for (int thing : wrongThings) {
            due(x.ways(thing), NONE);
        }
        row(x, 1);
    }

    private static int shares(String s) {
        return text(full("5abc;3ab;9d;1"), s).shares();
    }

    private static void shares(LostByState x, String s, int want, long... things) {
        due(text(x, s).shares(), want);
        row(x, things);
    }

    private static void sharing() {
        at(22, "(LINES with ; between, at most 6, each letters a .. h: rising, at least one; an empty text: none)");
        LostByState x = full("1a;1b;1c;1d;1e;1f;1g;1h");
        shares(x, "a;b;c;d;e;f", 12, 0, 1, 2, 3, 4, 5);
        shares(x, "h;g;f;e;d;c", 12, 7, 6, 5, 4, 3, 2);
        shares(x, "", 0);
        shares(x, "abcdefgh", 0, -1);
        due(text(x, "a;b;c;d;e;f;g").shares(), -13);
        due(text(x, ";a").shares(), -1);
        due(text(x, "a;;b").shares(), -3);
        due(text(x, ";").shares(), -1);
        at(22, "each gets another THING that is IN, or none (0), so that their MATCHES");
        x = full("1ab;1ab;1h");
        shares(x, "ab;ab;ab", 8, -1, 0, 1);
        shares(x, "ab;h", 6, 0, 2);
        x.claim(6, 3);
        shares(x, "ab;ab", 4, -1, 1);
        shares(office(), "abc;d", 0, -1, -1);
        shares(full("1abc"), "d", 0, -1);
        shares(full("1abc"), "a;ab", 3, -1, 0);
        shares(full("5abc;3ab;9d;1"), "abc;h;d", 8, 0, -1, 2);
        // what an earlier call worked out, when more were IN, must not count
        x = full("1;1;1");
        text(x, "1").rule();
        shares(x, "a;b;c", 3, 0, 1, 2);
        x.set(1, 0);
        x.claim(6, 0);
        shares(x, "a;b;c", 2, -1, 1, 2);
        // the first description must leave the first thing, which is as good for it, to the second one
        x = full("1abc;1ab");
        text(x, "m").rule();
        shares(x, "ab;abc", 5, 1, 0);
        moreSharing();
    }

    private static void moreSharing() {
        at(22, "(each put to -999 .. 999; NEED aside) are the most together: how much");
        LostByState x = full("1;1;1");
        text(x, "998").rule();
        shares(x, "a;b", 1996, 0, 1);
        text(x, "999").rule();
        shares(x, "a;b", 1998, 0, 1);
        text(x, "999+1").rule();
        shares(x, "a;b;c;d", 2997, -1, 0, 1, 2);
        text(x, "512*512*512*16").rule();
        shares(x, "a;b", 0, -1, -1);
        x.set(1, 99);
        text(x, "1").rule();
        shares(x, "a;b", 2, 0, 1);
        at(22, "by descriptions the THING (-1: none): of as good ones the least row");
        shares(x, "a;b;c;d;e", 3, -1, -1, 0, 1, 2);
        text(x, "0").rule();
        shares(x, "a;b", 0, -1, -1);
        text(x, "-1").rule();
        shares(x, "a;b", 0, -1, -1);
        at(22, "-1 - p: the sign at p can't stand there");
        due(shares("x"), -1);
        due(shares("1"), -1);
        due(shares("ai"), -2);
        due(shares("a`"), -2);
        due(shares("a" + (char) ('b' + 128)), -2);
        due(shares("a;b,c"), -4);
        at(22, "its end, if it ends too early");
        due(shares("a;"), -3);
        due(shares("abc;d;"), -7);
        due(shares("a;a;a;a;a;a;"), -13);
        at(22, "a letter that is no more than the one ahead: at it");
        due(shares("aa"), -2);
        due(shares("hh"), -2);
        due(shares("ba"), -2);
        due(shares("a;acb"), -5);
        due(shares("h;a") >= 0, true);
        at(22, "the first sign of a seventh LINE");
        due(shares("a;a;a;a;a;a") >= 0, true);
        due(shares("a;a;a;a;a;a;a"), -13);
        due(shares("a;a;a;a;a;a;x"), -13);
        String longest = "abcdefgh".concat(";abcdefgh".repeat(5));
        due(shares(longest) >= 0, true);
        due(shares(longest + ";"), -55);
        due(shares(longest + ";a"), -55);
        due(shares(longest + "h"), -54);
        due(shares(longest + ";" + "a".repeat(26)), -55);
    }

    // ---- later

    private static void later() {
        int[] wrongThings = {-1, 4, 8, LOW, HIGH};
        int[] wrongSpans = {-1, 100, LOW, HIGH};
        at(23, "In how many DAYS (1 .. 99) a THING that is IN goes to its FINDER, nothing being done: how many");
        LostByState x = office();
        bringIn(x, 0, 2);
        x.set(0, 99);
        due(x.until(0), 99);
        x.days(98);
        due(x.until(0), 1);
        x.set(0, 98);
        due(x.until(0), 1);
        x.set(0, 1);
        due(x.until(0), 1);
        x.set(0, 99);
        due(x.days(x.until(0)), 1);
        at(23, "-2: it is not IN; NONE: none such");
        due(x.until(0), -2);
        x.loses(1, 0);
        due(x.until(1), -2);
        due(x.until(2), -2);
        for (int thing : wrongThings) {
            due(x.until(thing), NONE);
        }
        at(24, "THINGS that are IN in n DAYS (0 .. 99), nothing being done: bits; "
            + "the ROW: THINGS that the state has then (bits), PEOPLE who have some then (bits)");
        x = full("1;1;1;1;1;1;1;1");
        due(x.later(0), 255);
        row(x, 0, 0);
        due(x.later(29), 255);
        due(x.later(30), 0);
        row(x, 0, 63);
        x.set(1, -99);
        x.claim(6, 0);
        due(x.later(99), 0);
        row(x, 1, 63);
        x.set(0, 99);
        due(x.later(98), 254);
        row(x, 1, 0);
        due(x.later(99), 0);
        due(x.count(8), 254);
        due(x.count(4), 0);
        due(x.thing(1, 4), 0);
        at(24, "NONE: another n");
        for (int n : wrongSpans) {
            due(x.later(n), NONE);
        }
        at(25, "Of PEOPLE (0 .. 5) who has the most WORTH of THINGS now: of equal ones the first; "
            + "the ROW: how much, THINGS (bits)");
        x = office();
        due(x.advantage(), 0);
        row(x, 0, 0);
        due(new LostByState().advantage(), 0);
        x.gives(3, 0);
        due(x.advantage(), 0);
        row(x, 1, 8);
        x.gives(3, 1);
        due(x.advantage(), 1);
        row(x, 1, 8);
        x.gives(3, 5);
        due(x.advantage(), 5);
        row(x, 1, 8);
        x.gives(1, 4);
        due(x.advantage(), 4);
        row(x, 3, 2);
        x.sheet(3, 0, 0, 0);
        due(x.advantage(), 4);
        x.gives(0, 2);
        due(x.advantage(), 2);
        row(x, 1, 1);
        x.gives(3, 4);
        due(x.advantage(), 4);
        row(x, 2, 10);
        x.loses(1, 0);
        due(x.advantage(), 2);
        soonestAndConfused();
    }

    private static void soonestAndConfused() {
        int[] wrongThings = {-1, 4, 8, LOW, HIGH};
        at(26, "of equal ones the first: it; the ROW: in how many DAYS (1 .. 99), the FINDER");
        LostByState x = office();
        bringIn(x, 2, 5);
        x.set(0, 99);
        due(x.soonest(), 2);
        row(x, 99, 5);
        bringIn(x, 1, 3);
        due(x.soonest(), 1);
        row(x, 99, 3);
        x.days(98);
        due(x.soonest(), 1);
        row(x, 1, 3);
        bringIn(x, 0, 0);
        due(x.soonest(), 1);
        x.set(0, 1);
        due(x.soonest(), 0);
        row(x, 1, 0);
        at(26, "-2: none is IN");
        x.days(1);
        due(x.soonest(), -2);
        due(office().soonest(), -2);
        due(new LostByState().soonest(), -2);
        x.loses(0, 0);
        due(x.soonest(), -2);
        at(27, "of all others that are IN the one whose MATCH with all MARKS of it is the most: "
            + "of equal ones the first: it");
        x = full("5abc;3ab;9d;1");
        due(x.confused(0), 1);
        row(x, 1001, 1006);
        due(x.confused(2), 3);
        row(x, 997, 1002);
        x = full("1a;1b;1b;1b");
        due(x.confused(0), 1);
        due(x.confused(1), 2);
        due(x.confused(3), 1);
        x = full("1;5;9");
        text(x, "w*999").rule();
        due(x.confused(0), 2);
        at(27, "(both as match())");
        row(x, 1999, 1999);
        text(x, "-w*999").rule();
        due(x.confused(2), 0);
        row(x, 1, 1);
        at(27, "-2: no other one is IN; NONE: none such");
        x = office();
        due(x.confused(0), -2);
        bringIn(x, 0, 0);
        due(x.confused(0), -2);
        due(x.confused(1), 0);
        x.loses(1, 0);
        due(x.confused(0), -2);
        for (int thing : wrongThings) {
            due(x.confused(thing), NONE);
        }
        at(28, "Of the NEEDS of a DEED, what is IN (bits); the ROW: what is LOST, "
            + "what PEOPLE (0 .. 5) have (bits), WORTH of all that the state has not");
        due(office().regains(2), 0);
        x = office();
        x.regains(2);
        row(x, 0, 0, 0);
        x.gives(0, 0);
        x.gives(1, 5);
        due(x.regains(2), 0);
        row(x, 0, 3, 8);
        x.loses(0, 3);
        bringIn(x, 2, 1);
        due(x.regains(2), 4);
        row(x, 1, 2, 17);
        due(x.regains(1), 4);
        row(x, 0, 0, 9);
        x = made(eight(), "01234567");
        for (int t = 0; t < 8; t++) {
            bringIn(x, t, 0);
        }
        due(x.regains(0), 255);
        row(x, 0, 0, 8);
        at(28, "NONE: none such");
        x = office();
        int[] wrongDeeds = {-1, 3, 6, LOW, HIGH};
        for (int deed : wrongDeeds) {
            due(x.regains(deed), NONE);
        }
        due(new LostByState().regains(0), NONE);
    }

    // ---- which it is

    private static void whichItIs() {
        int[] wrongIs = {-1, 2, LOW, HIGH};
        int[] wrongMarks = {-1, 8, LOW, HIGH};
        at(29, "that it has a MARK (0 .. 7; is 1) or has not (0): how many such");
        LostByState x = made("1a;1h;1abcdefgh;1", "");
        due(x.said(0, 1), 1);
        due(x.fits(), 5);
        due(x.said(7, 0), 2);
        due(x.fits(), 1);
        x.forget();
        due(x.said(7, 1), 1);
        due(x.fits(), 6);
        due(x.said(0, 0), 2);
        due(x.fits(), 2);
        due(x.said(0, 0), 3);
        at(29, "Refused: others, 12");
        for (int mark : wrongMarks) {
            due(x.said(mark, 0), NONE);
            due(x.said(mark, 1), NONE);
        }
        for (int is : wrongIs) {
            due(x.said(0, is), NONE);
        }
        due(x.count(9), 3);
        for (int i = 4; i <= 12; i++) {
            due(x.said(0, 0), i);
        }
        due(x.said(7, 0), NONE);
        due(x.said(0, 0), NONE);
        due(x.count(9), 12);
        due(x.fits(), 2);
        at(30, "It is forgotten: how many there were");
        due(x.forget(), 12);
        due(x.count(9), 0);
        due(x.fits(), 15);
        due(x.forget(), 0);
        due(x.said(0, 1), 1);
        due(new LostByState().forget(), 0);
        at(31, "THINGS (bits) that fit all that was said; the ROW: how many, "
            + "MARKS that all of these have (bits; 255 without)");
        x = made("1abcdefgh", "");
        due(x.fits(), 1);
        row(x, 1, 255);
        x.said(0, 0);
        due(x.fits(), 0);
        row(x, 0, 255);
        x = made(eight(), "");
        due(x.fits(), 255);
        row(x, 8, 0);
        x.said(0, 1);
        x.said(0, 0);
        due(x.fits(), 0);
        row(x, 0, 255);
        x = new LostByState();
        due(x.fits(), 0);
        row(x, 0, 255);
        x = made("1ab;1bc;1abc;1h", "");
        x.said(1, 1);
        due(x.fits(), 7);
        row(x, 3, 2);
        at(32, "The MARK to ask about next, so that, it has it or not, the fewest such THINGS are left at most; "
            + "of equal ones the first: it; the ROW: how many at most");
        due(x.ask(), 0);
        row(x, 2);
        x.forget();
        due(x.ask(), 0);
        row(x, 2);
        x = made("1;1h", "");
        due(x.ask(), 7);
        row(x, 1);
        x = made("1", "");
        due(x.ask(), 0);
        row(x, 1);
        x = made(eight(), "");
        due(x.ask(), 0);
        row(x, 8);
        x = made("1gh;1gh;1h;1", "");
        due(x.ask(), 6);
        row(x, 2);
        at(32, "-2: none fits");
        x.said(0, 1);
        due(x.ask(), -2);
        due(new LostByState().ask(), -2);
        apartAndAlike();
    }

    private static void apartAndAlike() {
        at(33, "so that no two THINGS are alike in all of these: how many; the ROW: they (bits: of as few the least)");
        LostByState x = new LostByState();
        due(x.tellsApart(), 0);
        row(x, 0);
        x = made("1h", "");
        due(x.tellsApart(), 0);
        row(x, 0);
        x = made("1;1gh", "");
        due(x.tellsApart(), 1);
        row(x, 64);
        x = made("1;1a;1b;1ab;1c;1ac;1bc;1abc", "");
        due(x.tellsApart(), 3);
        row(x, 7);
        x = made("1;1b;1c;1d;1e;1f;1g;1h", "");
        due(x.tellsApart(), 7);
        row(x, 254);
        at(33, "-2: by none (two have the same MARKS)");
        due(made("1;1", "").tellsApart(), -2);
        due(made("1a;1b;1c;5a", "").tellsApart(), -2);
        due(made("1abcdefgh;1b;1abcdefgh", "").tellsApart(), -2);
        at(34, "by how many; the ROW: the two (of like ones the least row), MARKS that both have (bits)");
        x = made("1;1abcdefgh", "");
        due(x.alike(), 8);
        row(x, 0, 1, 0);
        x = made("1ab;1h;1ab;1h", "");
        due(x.alike(), 0);
        row(x, 0, 2, 3);
        x = made("1ab;1h;1h;1h", "");
        due(x.alike(), 0);
        row(x, 1, 2, 128);
        x = made("1abcdefgh;1abcdefgh", "");
        due(x.alike(), 0);
        row(x, 0, 1, 255);
        at(34, "-2: fewer than two THINGS");
        due(new LostByState().alike(), -2);
        due(made("1a", "").alike(), -2);
    }

    // ---- where to look

    private static int looks(String s, int n) {
        return text(new LostByState(), s).looks(n);
    }

    private static void looks(String s, int n, long... want) {
        LostByState x = text(new LostByState(), s);
        due(x.looks(n), 0);
        row(x, want);
    }

    private static void looking() {
        at(35, "THE TEXT tells six digits (how likely it was left at PLACES 0 .. 5: parts of their sum)");
        looks("900000", 1, 1, 2, 0);
        looks("000009", 1, 1, 2, 5);
        looks("999999", 1, 1, 12, 0);
        looks("000001", 1, 1, 2, 5);
        looks("300001", 1, 3, 8, 0);
        at(35, "n (0 .. 10) looks are had, each at some PLACE");
        looks("123456", 0, 0, 1);
        looks("000009", 10, 1023, 1024, 5, 5, 5, 5, 5, 5, 5, 5, 5, 5);
        at(35, "a look where it is finds it by half: each is had where it is the most likely yet "
            + "(of like ones at the first)");
        looks("110000", 3, 5, 8, 0, 1, 0);
        looks("120000", 3, 2, 3, 1, 0, 1);
        looks("111111", 7, 13, 24, 0, 1, 2, 3, 4, 5, 0);
        looks("000310", 3, 11, 16, 3, 3, 4);
        at(35, "-1 - p: the sign at p can't stand there");
        due(looks("x", 1), -1);
        due(looks("12/456", 1), -3);
        due(looks("12:456", 1), -3);
        due(looks("12345x", 1), -6);
        due(looks("1" + (char) ('2' + 128) + "3456", 1), -2);
        due(looks("12 3456789", 1), -3);
        at(35, "its end, if it ends too early");
        due(looks("", 1), -1);
        due(looks("1", 0), -2);
        due(looks("12345", 10), -6);
        due(looks("00000", 1), -6);
        at(35, "a seventh sign: at it");
        due(looks("1234567", 1), -7);
        due(looks("123456x", 1), -7);
        due(looks("0000000", 1), -7);
        due(looks("1".repeat(80), 1), -7);
        at(35, "-100: all are 0");
        due(looks("000000", 0), -100);
        due(looks("000000", 10), -100);
        at(35, "-200: another n (asked first; THE TEXT is emptied)");
        int[] wrongLooks = {-1, 11, LOW, HIGH};
        String[] texts = {"123456", "000000", "x", "", "1234567"};
        for (int n : wrongLooks) {
            for (String s : texts) {
                LostByState x = text(new LostByState(), s);
                due(x.looks(n), -200);
                due(x.count(12), 0);
            }
        }
        straying();
    }

    private static void straying() {
        at(36, "from PLACE a (0 .. 5), to the next or the one ahead, each by half, round (behind 5 comes 0)");
        LostByState x = new LostByState();
        for (int a = 0; a < 6; a++) {
            for (int b = 0; b < 6; b++) {
                boolean beside = (a + 1) % 6 == b || (b + 1) % 6 == a;
                due(x.strays(a, b, 1), 0);
                row(x, beside ? 1 : 0, beside ? 2 : 1);
            }
        }
        x.strays(5, 1, 2);
        row(x, 1, 4);
        at(36, "how likely it is at PLACE b in n (0 .. 20) days: 0; the ROW: the fraction");
        due(x.strays(5, 5, 0), 0);
        row(x, 1, 1);
        due(x.strays(5, 0, 0), 0);
        row(x, 0, 1);
        due(x.strays(5, 5, 20), 0);
        row(x, 174763, 524288);
        due(x.strays(0, 5, 19), 0);
        row(x, 174763, 524288);
        at(36, "NONE: others");
        int[] wrongPlaces = {-1, 6, LOW, HIGH};
        for (int place : wrongPlaces) {
            due(x.strays(place, 0, 1), NONE);
            due(x.strays(0, place, 1), NONE);
        }
        int[] wrongDays = {-1, 21, LOW, HIGH};
        for (int n : wrongDays) {
            due(x.strays(0, 0, n), NONE);
        }
        row(x, 174763, 524288);
    }

    // ---- deeds

    private static LostByState allLost(String deeds) {
        LostByState x = made(eight(), deeds);
        for (int t = 0; t < 8; t++) {
            x.loses(t, t % 6);
        }
        return x;
    }

    private static void with(LostByState x, int k, int want, long things) {
        due(x.with(k), want);
        row(x, things);
    }

    private static void deeds() {
        at(37, "DEEDS that can be done now (bits); the ROW: how many, "
            + "THINGS that some DEED NEEDS and the state has not (bits)");
        LostByState x = made(eight(), "0;1;2;3;4;567");
        due(x.can(), 63);
        row(x, 6, 0);
        x = allLost("0;1;2;3;4;5");
        due(x.can(), 0);
        row(x, 0, 63);
        x = allLost("7");
        due(x.can(), 0);
        row(x, 0, 128);
        x = made(eight(), "");
        due(x.can(), 0);
        row(x, 0, 0);
        at(38, "The most DEEDS that could be done, had the state k (0 .. 8) THINGS more, at most: how many");
        x = allLost("01234567");
        with(x, 0, 0, 0);
        with(x, 7, 0, 0);
        with(x, 8, 1, 255);
        x = made(eight(), "0;7");
        with(x, 0, 2, 0);
        with(x, 8, 2, 0);
        at(38, "(bits: of as good ones the fewest, then the least)");
        x = allLost("0;1;2");
        with(x, 1, 1, 1);
        with(x, 2, 2, 3);
        with(x, 8, 3, 7);
        x = allLost("012;67");
        with(x, 1, 0, 0);
        with(x, 2, 1, 192);
        with(x, 3, 1, 192);
        with(x, 4, 1, 192);
        with(x, 5, 2, 199);
        x = allLost("7;6;5");
        with(x, 1, 1, 32);
        at(38, "NONE: another k");
        int[] wrongMany = {-1, 9, LOW, HIGH};
        for (int k : wrongMany) {
            due(x.with(k), NONE);
        }
        row(x, 32);
        at(39, "by whose loss the most DEEDS can't be done any more: of equal ones the first: it; "
            + "the ROW: these DEEDS (bits)");
        x = made(eight(), "0;0;0;7;7;7");
        due(x.weakest(), 0);
        row(x, 7);
        x.gives(0, 0);
        due(x.weakest(), 7);
        row(x, 56);
        x.gives(7, 0);
        due(x.weakest(), 1);
        row(x, 0);
        x = made(eight(), "67;7");
        x.gives(6, 1);
        due(x.weakest(), 7);
        row(x, 2);
        at(39, "-2: it has none");
        due(allLost("0").weakest(), -2);
        due(new LostByState().weakest(), -2);
        worthAndHanging();
        chances();
    }

    private static void worthAndHanging() {
        int[] wrongThings = {-1, 8, LOW, HIGH};
        at(40, "each being worth 1, shared out evenly over the THINGS that it NEEDS: 0; the ROW: the fraction");
        LostByState x = made(eight(), "0;0;0;0;0;0");
        due(x.worth(0), 0);
        row(x, 6, 1);
        due(x.worth(7), 0);
        row(x, 0, 1);
        x = made(eight(), "01234567;0123456;012345;01234;0123;012");
        due(x.worth(7), 0);
        row(x, 1, 8);
        due(x.worth(6), 0);
        row(x, 15, 56);
        due(x.worth(0), 0);
        row(x, 341, 280);
        due(made("1", "").worth(0), 0);
        at(40, "NONE: none such");
        for (int thing : wrongThings) {
            due(x.worth(thing), NONE);
        }
        due(office().worth(4), NONE);
        at(41, "DEEDS that hang together with one (by a THING that both NEED, or by others between): bits, it too; "
            + "the ROW: THINGS that all of these NEED together (bits)");
        String[] chains = {"01;12;23;34;45;56", "56;45;34;23;12;01", "56;01;34;12;45;23"};
        for (String chain : chains) {
            x = made(eight(), chain);
            for (int d = 0; d < 6; d++) {
                due(x.hangs(d), 63);
                row(x, 127);
            }
        }
        x = made(eight(), "0;1;2;3;4;567");
        due(x.hangs(0), 1);
        row(x, 1);
        due(x.hangs(5), 32);
        row(x, 224);
        x = made(eight(), "07;12;7");
        due(x.hangs(2), 5);
        row(x, 129);
        due(x.hangs(1), 2);
        row(x, 6);
        at(41, "NONE: none such");
        int[] wrongDeeds = {-1, 3, 6, LOW, HIGH};
        for (int deed : wrongDeeds) {
            due(x.hangs(deed), NONE);
        }
        due(new LostByState().hangs(0), NONE);
    }

    private static void likely(LostByState x, int k, int p, long upper, long lower) {
        due(x.likely(k, p), 0);
        row(x, upper, lower);
    }

    private static void chances() {
        at(42, "is LOST by p tenths (0 .. 10), each by itself: how likely k (0 .. 6) DEEDS or more can be done then");
        LostByState x = made(eight(), "01234567".concat(";01234567".repeat(5)));
        likely(x, 6, 0, 1, 1);
        likely(x, 6, 1, 43046721, 100000000);
        likely(x, 6, 9, 1, 100000000);
        likely(x, 6, 10, 0, 1);
        likely(x, 1, 1, 43046721, 100000000);
        likely(x, 0, 10, 1, 1);
        likely(x, 0, 0, 1, 1);
        x.gives(0, 0);
        likely(x, 1, 0, 0, 1);
        x = made(eight(), "0;1");
        likely(x, 1, 5, 3, 4);
        likely(x, 2, 5, 1, 4);
        likely(x, 3, 5, 0, 1);
        x.gives(1, 0);
        likely(x, 1, 3, 7, 10);
        likely(allLost("0"), 0, 3, 1, 1);
        likely(allLost("0"), 1, 3, 0, 1);
        likely(new LostByState(), 0, 10, 1, 1);
        at(42, "NONE: others");
        int[] wrongMany = {-1, 7, LOW, HIGH};
        for (int k : wrongMany) {
            due(x.likely(k, 5), NONE);
        }
        int[] wrongTenths = {-1, 11, LOW, HIGH};
        for (int p : wrongTenths) {
            due(x.likely(1, p), NONE);
        }
        row(x, 7, 10);
    }

    // ---- the hatch, rests, rules, years

    private static int hatch(String s) {
        return text(new LostByState(), s).hatch();
    }

    private static void hatch(String s, int want, long... move) {
        LostByState x = new LostByState();
        x.can();
        due(text(x, s).hatch(), want);
        row(x, move);
    }

    private static void hatchAndRests() {
        at(43, "THE TEXT tells 1 to 6 digits (how many lie in each bay)");
        hatch("9", 1, 0, 9);
        hatch("1", 1, 0, 1);
        hatch("999999", 0);
        hatch("999998", 1, 0, 1);
        hatch("000009", 1, 5, 9);
        at(43, "two take some of one bay (one at least) by turns, who takes the last has won: "
            + "1 if the first one wins by best play, else 0");
        hatch("0", 0);
        hatch("000000", 0);
        hatch("11", 0);
        hatch("12", 1, 1, 1);
        hatch("246", 0);
        hatch("123456", 1, 3, 1);
        at(43, "the ROW: the least move that wins (bay, how many; nothing, if he loses)");
        hatch("111", 1, 0, 1);
        hatch("0111", 1, 1, 1);
        hatch("888", 1, 0, 8);
        hatch("345", 1, 0, 2);
        hatch("33", 0);
        at(43, "-1 - p: the sign at p can't stand there");
        due(hatch("x"), -1);
        due(hatch("1/"), -2);
        due(hatch("1:"), -2);
        due(hatch("12345x7"), -6);
        due(hatch("1" + (char) ('1' + 128)), -2);
        at(43, "(its end for none; a seventh sign: at it)");
        due(hatch(""), -1);
        due(hatch("1111111"), -7);
        due(hatch("111111x"), -7);
        due(hatch("1".repeat(80)), -7);
        LostByState x = new LostByState();
        at(44, "Two finders wait x and y days (0 .. 9) ahead of bringing theirs in");
        due(x.rests(4, 0), 11);
        row(x, 4, 9);
        at(44, "the reward is v (0 .. 20) less x and y together by 2 (cut; 0 at least) for each");
        due(x.rests(0, 0), 19);
        row(x, 0, 9);
        due(x.rests(1, 0), 17);
        row(x, 1, 9);
        due(x.rests(1, 1), 2);
        row(x, 0, 1);
        due(x.rests(20, 3), 3);
        row(x, 0, 0);
        at(44, "and who waits longer has 3 more");
        due(x.rests(10, 2), 2);
        row(x, 0, 1);
        due(x.rests(10, 3), 3);
        row(x, 0, 0);
        due(x.rests(10, 4), 1);
        row(x, 0, 0);
        at(44, "a day costs c (0 .. 5)");
        due(x.rests(20, 2), 2);
        row(x, 0, 1);
        due(x.rests(20, 5), 1);
        row(x, 0, 0);
        due(x.rests(0, 5), 1);
        at(44, "the ROW: the least (nothing without)");
        due(x.rests(20, 0), 0);
        row(x);
        due(x.rests(0, 3), 3);
        row(x, 0, 0);
        due(x.rests(0, 1), 0);
        row(x);
        at(44, "NONE: others");
        int[] wrongRewards = {-1, 21, LOW, HIGH};
        for (int v : wrongRewards) {
            due(x.rests(v, 0), NONE);
        }
        int[] wrongCosts = {-1, 6, LOW, HIGH};
        for (int c : wrongCosts) {
            due(x.rests(0, c), NONE);
        }
        row(x);
    }

    private static void law(LostByState x, String s, int want, long... both) {
        due(text(x, s).law(), want);
        row(x, both);
    }

    private static void lawsAndDraws() {
        at(45, "THE TEXT is another RULE (an empty one: none): how many of all 256 descriptions would get a THING "
            + "by it, less those by THE RULE (below 0, too); the ROW: both, by it first");
        LostByState x = full("1abcdefgh");
        x.set(1, 16);
        law(x, "16", 255, 256, 1);
        law(x, "15", -1, 0, 1);
        law(x, "", 0, 1, 1);
        law(x, "m*2", 0, 1, 1);
        text(x, "16").rule();
        law(x, "", -255, 1, 256);
        law(x, "0", -256, 0, 256);
        due(x.match(0, 0), 1016);
        law(new LostByState(), "99", 0, 0, 0);
        law(office(), "99", 0, 0, 0);
        at(45, "-10000 - p: the sign at p can't stand there (as rule())");
        String[] wrongTexts = {"z", "m+", "(m", "m<x<y", "(((((m", "1000", "-".repeat(40), "-".repeat(40) + "m",
            "-".repeat(39) + "m+", "m" + "+m".repeat(39)};
        for (String s : wrongTexts) {
            int place = -1 - rule(s);
            due(place >= 0, true);
            due(text(x, s).law(), -10000 - place);
        }
        due(text(x, "q").law(), -10000);
        due(text(x, "x+").law(), -10002);
        due(text(x, "-".repeat(39) + "m+").law(), -10040);
        due(x.match(0, 0), 1016);
        row(x, 0, 256);
        at(46, "n times (1 .. 60)");
        drawsAreAsDone(1);
        drawsAreAsDone(60);
        due(new LostByState().years(5, 60), 0);
        due(new LostByState().years(5, 1), 0);
        at(46, "(each if it can be; 1, 2: nothing, no DRAWS more, without THINGS)");
        for (int seed = 0; seed < 9; seed++) {
            x = new LostByState();
            due(x.years(seed, 60), 0);
            row(x, 0, 0);
        }
        drawsAreAsDone(30);
        at(46, "NONE: another n");
        int[] wrongMany = {-1, 0, 61, LOW, HIGH};
        for (int n : wrongMany) {
            due(x.years(5, n), NONE);
        }
        row(x, 0, 0);
        at(46, "R = R times 1103515245 + 12345 (as ints; R is seed at first), (R without sign, by 65536) % n");
        drawsAreAsDone(2);
        // seed 0: R is 12345, which by 65536 is 0: a DAY
        x = full("1");
        x.set(0, 1);
        due(x.years(0, 1), 0);
        row(x, 0, 0);
    }

    private static long drawn;

    private static int draw(int n) {
        drawn = (drawn * 1103515245L + 12345L) & 0xffffffffL;
        return (int) (drawn / 65536 % n);
    }

    /** What years() tells is what the other calls do with the same draws. */
    private static void drawsAreAsDone(int n) {
        int[] seeds = {0, 1, -1, 7, LOW, HIGH, 65536, 123456789, -123456789, 1 << 30, 0x5a5a5a5a, -2, 42, 4711};
        int got = 0;
        for (int seed : seeds) {
            LostByState x = full("5abc;3ab;9d;1;2h;4ef;7a");
            x.set(0, 5);
            x.set(1, -2);
            x.keep(0);
            String ahead = seen(x);
            int told = x.years(seed, n);
            String row = rowOf(x);
            same("years changes nothing", seen(x), ahead);
            drawn = seed & 0xffffffffL;
            int done = 0;
            for (int i = 0; i < n; i++) {
                done += drawnAct(x);
            }
            due(told, done);
            same("the row", row, x.count(6) + " " + x.count(8) + " ");
            got += done;
        }
        due(n < 30 || got > 10, true);
    }

    private static int drawnAct(LostByState x) {
        int kind = draw(4);
        if (kind == 0) {
            x.days(1);
        } else if (kind == 1) {
            int thing = draw(7);
            x.loses(thing, draw(6));
        } else if (kind == 2) {
            int person = draw(6);
            x.finds(person, draw(7));
        } else {
            int who = draw(7);
            return x.claim(who, draw(256)) >= 0 ? 1 : 0;
        }
        return 0;
    }

    // ---- kept

    private static void kept() {
        int[] wrongNumbers = {-1, 2, LOW, HIGH};
        at(47, "What undo() brings back is kept under a number 0 .. 1: true. Refused: others");
        LostByState x = busy();
        String ahead = seen(x);
        due(x.keep(0), true);
        due(x.keep(1), true);
        for (int i : wrongNumbers) {
            due(x.keep(i), false);
        }
        due(new LostByState().keep(0), true);
        due(new LostByState().keep(1), true);
        same("keep changes nothing", seen(x), ahead);
        x.days(99);
        x.gives(2, 1);
        x.claim(3, 7);
        due(x.keep(0), true);
        due(x.again(1), true);
        x = busy();
        x.keep(1);
        x.days(99);
        x.gives(2, 1);
        x.again(1);
        // what can be undone is forgotten
        same("all as it was", seen(x).replaceAll("^((\\S+ ){10})\\S+ ", "$1"),
            ahead.replaceAll("^((\\S+ ){10})\\S+ ", "$1"));
        due(x.count(10), 0);
        at(48, "It is as it was kept under a number");
        x = office();
        x.keep(0);
        bringIn(x, 0, 2);
        x.days(5);
        x.keep(1);
        x.claim(3, 7);
        x.days(1);
        due(x.again(1), true);
        due(x.thing(0, 4), 5);
        due(x.thing(0, 5), 2);
        due(x.count(4), 5);
        due(x.count(5), 0);
        due(x.again(0), true);
        due(x.count(6), 15);
        due(x.count(4), 0);
        due(x.again(1), true);
        due(x.count(8), 1);
        due(x.days(25), 1);
        due(x.again(1), true);
        due(x.thing(0, 4), 5);
        x.gives(3, 1);
        x.keep(1);
        x.gives(3, 2);
        x.again(1);
        due(x.thing(3, 2), 1);
        at(48, "Refused: nothing kept, THINGS or DEEDS came since");
        due(new LostByState().again(0), false);
        due(new LostByState().again(1), false);
        x = office();
        x.keep(1);
        due(x.again(0), false);
        due(x.again(1), true);
        for (int i : wrongNumbers) {
            due(x.again(i), false);
        }
        text(x, "").things();
        text(x, "").deeds();
        text(x, "x").things();
        text(x, "x").deeds();
        due(x.again(1), true);
        x.keep(0);
        text(x, "1").things();
        x.gives(0, 1);
        due(x.again(0), false);
        due(x.again(1), false);
        due(x.thing(0, 2), 1);
        due(x.count(10), 1);
        due(x.keep(1), true);
        due(x.again(0), false);
        due(x.again(1), true);
        x.keep(0);
        text(x, "0").deeds();
        due(x.again(0), false);
        due(x.again(1), false);
        due(x.keep(0), true);
        due(x.again(0), true);
        due(x.again(1), false);
    }

    private static void countsAndRows() {
        at(49, "NONE for another what");
        LostByState x = busy();
        int[] want = {4, 3, 20, 102, 5, 3, 4, 8, 1, 2, 9, 3, 3};
        for (int what = 0; what < want.length; what++) {
            due("count(" + what + ")", x.count(what), want[what]);
        }
        int[] others = {-1, 13, 14, LOW, HIGH};
        for (int what : others) {
            due(x.count(what), NONE);
        }
        at(49, "3: 100 and NEED");
        x.set(1, -99);
        due(x.count(3), 1);
        x.set(1, 99);
        due(x.count(3), 199);
        at(49, "6: THINGS that the state has (bits), 7: that are LOST, 8: that are IN");
        x = made(eight(), "");
        due(x.count(6), 255);
        for (int t = 0; t < 8; t++) {
            x.loses(t, 0);
        }
        due(x.count(6), 0);
        due(x.count(7), 255);
        for (int t = 0; t < 8; t++) {
            x.finds(0, t);
        }
        due(x.count(7), 0);
        due(x.count(8), 255);
        x.days(30);
        due(x.count(6) + x.count(7) + x.count(8), 0);
        at(49, "9: what was said");
        x.said(0, 0);
        due(x.count(9), 1);
        at(49, "10: what can be undone, 11: numbers of the ROW, 12: signs of THE TEXT");
        x = text(office(), "1".repeat(80));
        due(x.count(12), 80);
        due(x.count(11), 0);
        text(x, "123456").looks(10);
        due(x.count(12), 0);
        due(x.count(11), 12);
        for (int i = 0; i < 20; i++) {
            x.days(1);
        }
        due(x.count(10), 12);
        due(x.count(4), 20);
        at(50, "Number i of the ROW");
        x = text(office(), "123456");
        x.looks(10);
        due(x.row(0), 61);
        due(x.row(1), 84);
        int[] places = {5, 4, 3, 2, 5, 4, 1, 3, 2, 5};
        for (int i = 0; i < 10; i++) {
            due(x.row(2 + i), places[i]);
        }
        at(50, "NoSuchElementException: none such");
        none(x, q -> q.row(12));
        none(x, q -> q.row(-1));
        none(x, q -> q.row(LOW));
        none(x, q -> q.row(HIGH));
        x.can();
        due(x.row(1), 0);
        none(x, q -> q.row(2));
        text(x, "33").hatch();
        none(x, q -> q.row(0));
        none(new LostByState(), q -> q.row(0));
    }

    // ---- what changes nothing

    /** The call answers so, and all is as in an office that it was not called in (THE TEXT aside, if it reads it). */
    private static void changesNothing(String setUp, Call call, long answer, boolean reads, boolean rowToo) {
        LostByState x = text(busy(), setUp);
        LostByState y = text(busy(), setUp);
        due(call.on(x), answer);
        if (reads) {
            y.end(0);
        }
        if (rowToo) {
            same("the row", rowOf(x), rowOf(y));
        }
        same("all that is held", usedUp(x), usedUp(y));
    }

    private static void refused(Call call, long answer) {
        changesNothing("7ax", call, answer, false, true);
    }

    private static void refused(String s, Call call, long answer) {
        changesNothing(s, call, answer, true, true);
    }

    private static void refusals() {
        at(TERMS, "Refused calls answer NONE, or false, and change nothing but THE TEXT");
        changesNothing("1".repeat(78), q -> q.sign(0x31313131), NONE, false, true);
        int[] ends = {4, -1, LOW, HIGH};
        for (int n : ends) {
            refused(q -> q.end(n) ? 1 : 0, 0);
        }
        refused("7ax", q -> q.things(), -3);
        refused("7a;1;2;3;4;5;6;7", q -> q.things(), -10);
        refused("012;3;4", q -> q.deeds(), -7);
        refused("0;1;2;3;0", q -> q.deeds(), -7);
        refused("m+", q -> q.rule(), -3);
        refused("-".repeat(41), q -> q.rule(), -41);
        refused("g21d1x", q -> q.year(), -6);
        refused("abc;", q -> q.shares(), -5);
        refused("a;a;a;a;a;a;a", q -> q.shares(), -13);
        refused("12345", q -> q.looks(3), -6);
        refused("000000", q -> q.looks(3), -100);
        refused("123456", q -> q.looks(11), -200);
        refused("x", q -> q.hatch(), -1);
        refused("1111111", q -> q.hatch(), -7);
        refused("m+", q -> q.law(), -10002);
        int[] wrongOnes = {-1, 8, LOW, HIGH};
        for (int v : wrongOnes) {
            refusedWith(v);
        }
        refused(q -> q.set(0, 0), NONE);
        refused(q -> q.set(0, 100), NONE);
        refused(q -> q.set(1, 100), NONE);
        refused(q -> q.set(1, -100), NONE);
        refused(q -> q.sheet(0, 9, 1, 1), NONE);
        refused(q -> q.sheet(3, 9, 1, 1), NONE);
        refused(q -> q.sheet(2, -1, 1, 1), -2);
        refused(q -> q.days(100), NONE);
        refused(q -> q.later(100), NONE);
        refused(q -> q.match(256, 0), NONE);
        refused(q -> q.gets(256), NONE);
        refused(q -> q.strays(0, 0, 21), NONE);
        refused(q -> q.with(9), NONE);
        refused(q -> q.likely(7, 5), NONE);
        refused(q -> q.likely(1, 11), NONE);
        refused(q -> q.rests(21, 0), NONE);
        refused(q -> q.rests(0, 6), NONE);
        refused(q -> q.years(1, 0), NONE);
        refused(q -> q.years(1, 61), NONE);
        refused(q -> q.count(13), NONE);
        notSo();
    }

    /** Calls with a number that is none of a THING, a DEED, somebody, a PLACE, a MARK, or what they ask. */
    private static void refusedWith(int v) {
        refused(q -> q.set(v, 5), NONE);
        refused(q -> q.sheet(v, 4, 1, 1), NONE);
        refused(q -> q.loses(v, 0), NONE);
        refused(q -> q.loses(2, v), NONE);
        refused(q -> q.finds(v, 3), NONE);
        refused(q -> q.finds(0, v), NONE);
        refused(q -> q.claim(v, 7), NONE);
        refused(q -> q.claim(6, v == 8 ? 256 : v), NONE);
        refused(q -> q.gives(v, 0), NONE);
        refused(q -> q.gives(2, v), NONE);
        refused(q -> q.match(0, v), NONE);
        refused(q -> q.fewest(v), NONE);
        refused(q -> q.ways(v), NONE);
        refused(q -> q.until(v), NONE);
        refused(q -> q.confused(v), NONE);
        refused(q -> q.regains(v), NONE);
        refused(q -> q.said(v, 0), NONE);
        refused(q -> q.said(0, v), NONE);
        refused(q -> q.strays(v, 0, 1), NONE);
        refused(q -> q.strays(0, v, 1), NONE);
        refused(q -> q.worth(v), NONE);
        refused(q -> q.hangs(v), NONE);
        refused(q -> q.keep(v) ? 1 : 0, 0);
        refused(q -> q.again(v) ? 1 : 0, 0);
        refused(q -> thrownBy(q, v), 4);
    }

    private static int thrownBy(LostByState x, int v) {
        int thrown = 0;
        Call[] calls = {q -> q.thing(v, 0), q -> q.thing(0, v), q -> q.deed(v, 0), q -> q.row(v)};
        for (Call call : calls) {
            try {
                call.on(x);
            } catch (NoSuchElementException e) {
                thrown++;
            }
        }
        return thrown;
    }

    /** What answers -2 did nothing either. */
    private static void notSo() {
        refused(q -> q.loses(0, 1), -2);
        refused(q -> q.loses(3, 1), -2);
        refused(q -> q.finds(1, 0), -2);
        refused(q -> q.finds(1, 2), -2);
        refused(q -> q.claim(6, 248), -2);
        refused(q -> q.gives(0, 1), -2);
        refused(q -> q.gives(1, 5), -2);
        refused(q -> q.gives(3, 5), -2);
        refused(q -> q.gets(248), -2);
        refused(q -> q.fewest(1), -2);
        refused(q -> q.until(1), -2);
        refused(q -> q.confused(0), -2);
    }

    private static void question(Call call, long answer) {
        changesNothing("7ax", call, answer, false, false);
    }

    private static void question(String s, Call call, long answer) {
        changesNothing(s, call, answer, true, false);
    }

    private static void questions() {
        at(TERMS, "Questions change nothing");
        question(q -> q.thing(1, 2), 5);
        question(q -> q.deed(0, 1), 3);
        question(q -> q.match(7, 0), 1006);
        question(q -> q.gets(7), 0);
        question(q -> q.fewest(0), 2);
        question(q -> q.ways(0), 9);
        question("abc;d", q -> q.shares(), 6);
        question("", q -> q.shares(), 0);
        question(q -> q.until(0), 15);
        question(q -> q.later(99), 0);
        question(q -> q.later(0), 1);
        question(q -> q.advantage(), 5);
        question(q -> q.soonest(), 0);
        question(q -> q.confused(1), 0);
        question(q -> q.regains(0), 1);
        question(q -> q.fits(), 3);
        question(q -> q.ask(), 2);
        question(q -> q.tellsApart(), 3);
        question(q -> q.alike(), 1);
        question("123456", q -> q.looks(10), 0);
        question(q -> q.strays(0, 0, 20), 0);
        question(q -> q.can(), 2);
        question(q -> q.with(8), 3);
        question(q -> q.weakest(), 2);
        question(q -> q.worth(0), 0);
        question(q -> q.hangs(0), 7);
        question(q -> q.likely(1, 5), 0);
        question("345", q -> q.hatch(), 1);
        question(q -> q.rests(20, 5), 1);
        question("99", q -> q.law(), 247);
        question("", q -> q.law(), 0);
        question(q -> q.years(12345, 60) >= 0 ? 1 : 0, 1);
        for (int what = 0; what <= 12; what++) {
            int of = what;
            question(q -> q.count(of) >= 0 ? 1 : 0, 1);
        }
        question(q -> q.row(0), 0);
    }
}
