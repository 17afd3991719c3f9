import java.util.NoSuchElementException;

/** Each promise by hand-made calls: ordinary inputs, the edges that the document names, wrong inputs. */
public final class PromiseTests {
    private static int wrong = 0;
    private static int checks = 0;

    private static void due(String what, long got, long want) {
        checks++;
        if (got != want) {
            wrong++;
            System.out.println(what + " answered " + got + ", due is " + want);
        }
    }

    private static void due(String what, boolean got, boolean want) {
        due(what, got ? 1 : 0, want ? 1 : 0);
    }

    private static LostByState text(LostByState x, String s) {
        x.end(0);
        for (int i = 0; i < s.length(); i += 4) {
            int v = 0;
            for (int j = 0; j < 4; j++) {
                v = v << 8 | (i + j < s.length() ? s.charAt(i + j) & 255 : 0);
            }
            x.sign(v);
        }
        x.end(s.length());
        return x;
    }

    private static void dueRow(String what, LostByState x, long... want) {
        due(what + ": numbers of the row", x.count(11), want.length);
        for (int i = 0; i < want.length; i++) {
            long got = Long.MIN_VALUE;
            try {
                got = x.row(i);
            } catch (NoSuchElementException e) {
                System.out.println(what + ": no row(" + i + ")");
            }
            due(what + ": row(" + i + ")", got, want[i]);
        }
    }

    private static void dueThrows(String what, LostByState x, int kind, int a, int b) {
        int thrown = 0;
        try {
            switch (kind) {
                case 0: x.thing(a, b); break;
                case 1: x.deed(a, b); break;
                default: x.row(a); break;
            }
        } catch (NoSuchElementException e) {
            thrown = 1;
        }
        due(what + " throws", thrown, 1);
    }

    private static String times(String s, int n) {
        return s.repeat(n);
    }

    private static LostByState office() {
        LostByState x = new LostByState();
        text(x, "5abc;3ab;9d;1").things();
        text(x, "01;2;012").deeds();
        return x;
    }

    /** An office with so many things that are all in. */
    private static LostByState full(String things, String deeds) {
        LostByState x = new LostByState();
        int n = text(x, things).things();
        text(x, deeds).deeds();
        for (int t = 0; t < n; t++) {
            x.loses(t, t % 6);
            x.finds(t % 6, t);
        }
        return x;
    }

    public static void main(String[] args) {
        newObject();
        signs();
        things();
        deeds();
        rules();
        questionsAboutThings();
        settings();
        sheets();
        acts();
        days();
        years();
        undoing();
        matches();
        claims();
        sharing();
        later();
        which();
        looking();
        doing();
        hatch();
        rests();
        laws();
        drawn();
        kept();
        rows();
        System.out.println(checks + " checks, " + wrong + " wrong");
        if (wrong != 0) {
            System.exit(1);
        }
    }

    private static void newObject() {
        LostByState x = new LostByState();
        int[] want = {0, 0, 30, 103, 0, 0, 0, 0, 0, 0, 0, 0, 0};
        for (int i = 0; i < want.length; i++) {
            due("1: count(" + i + ")", x.count(i), want[i]);
        }
        due("1: NONE", LostByState.NONE, -1);
        dueThrows("1: thing(0, 0)", x, 0, 0, 0);
        dueThrows("1: deed(0, 0)", x, 1, 0, 0);
        dueThrows("1: row(0)", x, 2, 0, 0);
    }

    private static void signs() {
        LostByState x = new LostByState();
        due("2: sign", x.sign(0x35616263), 4);
        due("2: highest byte first", x.things(), 1);
        due("2: marks", x.thing(0, 0), 7);
        due("2: worth", x.thing(0, 1), 5);
        for (int i = 1; i <= 20; i++) {
            due("2: sign " + i, x.sign(-1), 4 * i);
        }
        due("2: no room", x.sign(0), -1);
        due("2: nothing changed", x.count(12), 80);
        due("3: below 0", x.end(-1), false);
        due("3: not so many", x.end(81), false);
        due("3: all", x.end(80), true);
        due("3: 77", x.end(77), true);
        due("2: three signs too few room", x.sign(0), -1);
        due("3: 78", x.end(78), false);
        due("3: 76", x.end(76), true);
        due("2: room for four", x.sign(0), 80);
        due("3: none", x.end(0), true);
        due("3: signs", x.count(12), 0);
        due("3: lowest int", x.end(Integer.MIN_VALUE), false);
    }

    private static int thingsOf(String s) {
        LostByState x = new LostByState();
        int answer = text(x, s).things();
        due("4: text emptied by " + s, x.count(12), 0);
        due("4: things of " + s, x.count(0), Math.max(0, answer));
        return answer;
    }

    private static void things() {
        due("4: empty", thingsOf(""), 0);
        due("4: one", thingsOf("9"), 1);
        due("4: zero", thingsOf("0"), -1);
        due("4: letter first", thingsOf("a5"), -1);
        due("4: ; first", thingsOf(";5"), -1);
        due("4: ends early", thingsOf("5abc;"), -6);
        due("4: two ;", thingsOf("5;;5"), -3);
        due("4: same letter", thingsOf("5aa"), -3);
        due("4: falling letter", thingsOf("5ba"), -3);
        due("4: i", thingsOf("5i"), -2);
        due("4: sign 255", thingsOf("5" + (char) 255), -2);
        due("4: digit behind letters", thingsOf("5a5"), -3);
        due("4: second line wrong, none comes", thingsOf("5a;6b;x"), -7);
        String line = "1abcdefgh";
        String full = times(line + ";", 7) + line;
        due("4: 79 signs", thingsOf(full), 8);
        due("4: 80 signs", thingsOf(full + ";"), -80);
        due("4: 80 signs, a letter", thingsOf(full + "a"), -80);
        due("4: 80 signs, wrong ahead", thingsOf(full.substring(0, 40) + "x" + full.substring(41) + ";"), -41);
        due("4: ninth line", thingsOf(times("1;", 8) + "1"), -17);
        due("4: ninth line that ends too early", thingsOf(times("1;", 8)), -17);
        LostByState x = new LostByState();
        text(x, "1;2;3").things();
        due("4: more", text(x, "4a;5;6;7;8").things(), 5);
        due("4: behind the others", x.thing(3, 0), 1);
        due("4: worth behind", x.thing(7, 1), 8);
        due("4: full", text(x, "1").things(), -1);
        due("4: full, empty text", text(x, "").things(), 0);
        due("4: still eight", x.count(0), 8);
        due("4: all had by the state", x.count(6), 255);
        LostByState y = new LostByState();
        text(y, "1;2;3;4;5").things();
        due("4: no room for the fourth", text(y, "1;1;1;1").things(), -7);
        due("4: none came", y.count(0), 5);
        due("4: worth of those there", y.thing(4, 1), 5);
    }

    private static int deedsOf(int n, String s) {
        LostByState x = new LostByState();
        text(x, times("1;", n - 1) + "1").things();
        int answer = text(x, s).deeds();
        due("5: text emptied by " + s, x.count(12), 0);
        due("5: deeds of " + s, x.count(1), Math.max(0, answer));
        return answer;
    }

    private static void deeds() {
        due("5: empty", deedsOf(1, ""), 0);
        due("5: one", deedsOf(1, "0"), 1);
        due("5: not there", deedsOf(3, "013"), -3);
        due("5: not there, first", deedsOf(3, "3"), -1);
        due("5: 8", deedsOf(8, "8"), -1);
        due("5: falling", deedsOf(3, "10"), -2);
        due("5: same", deedsOf(3, "0;11"), -4);
        due("5: ; first", deedsOf(3, ";0"), -1);
        due("5: ends early", deedsOf(3, "0;"), -3);
        due("5: two ;", deedsOf(3, "0;;1"), -3);
        due("5: letter", deedsOf(3, "0a"), -2);
        String full = times("01234567;", 5) + "01234567";
        due("5: 53 signs", deedsOf(8, full), 6);
        due("5: 54 signs", deedsOf(8, full + ";"), -54);
        due("5: 80 signs", deedsOf(8, full + times("x", 27)), -54);
        due("5: wrong ahead of 53", deedsOf(8, "01;x" + full), -4);
        due("5: seventh", deedsOf(8, "0;1;2;3;4;5;6"), -13);
        LostByState none = new LostByState();
        due("5: without things", text(none, "0").deeds(), -1);
        LostByState x = office();
        due("5: three more", text(x, "3;13;023").deeds(), 3);
        due("5: needs", x.deed(5, 0), 13);
        due("5: first as it was", x.deed(0, 0), 3);
        due("5: full", text(x, "0").deeds(), -1);
    }

    private static int ruleOf(String s) {
        LostByState x = new LostByState();
        int answer = text(x, s).rule();
        due("6: text emptied by " + s, x.count(12), 0);
        return answer;
    }

    private static int value(String rule, int marks) {
        LostByState x = full("5abc;3ab;9d;1;7defgh", "0");
        x.days(9);
        due("6: rule " + rule, text(x, rule).rule(), 0);
        return x.match(marks, 0) - 1000;
    }

    private static void rules() {
        due("6: empty", ruleOf(""), 0);
        due("6: m", ruleOf("m"), 0);
        due("6: z", ruleOf("z"), -1);
        due("6: 1000", ruleOf("1000"), -4);
        due("6: 007", ruleOf("007"), 0);
        due("6: ends early", ruleOf("m+"), -3);
        due("6: minus alone", ruleOf("-"), -2);
        due("6: plus ahead", ruleOf("+m"), -1);
        due("6: m--x", ruleOf("m--x"), 0);
        due("6: m*-x", ruleOf("m*-x"), 0);
        due("6: m-*x", ruleOf("m-*x"), -3);
        due("6: two things", ruleOf("mx"), -2);
        due("6: number, name", ruleOf("2m"), -2);
        due("6: four brackets", ruleOf("((((m))))"), 0);
        due("6: five", ruleOf("(((((m)))))"), -5);
        due("6: four, then four", ruleOf("((((m))))+((((x))))"), 0);
        due("6: closing too many", ruleOf("(m))"), -4);
        due("6: empty brackets", ruleOf("()"), -2);
        due("6: open", ruleOf("(m"), -3);
        due("6: < twice", ruleOf("m<x=y"), -4);
        due("6: < in brackets", ruleOf("(m<x)=(y>w)"), 0);
        due("6: < twice in brackets", ruleOf("(m<x=y)"), -5);
        due("6: < and <", ruleOf("m<<x"), -3);
        due("6: minuses behind <", ruleOf("m<--x"), 0);
        due("6: 40 signs", ruleOf(times("-", 39) + "m"), 0);
        due("6: 40 signs, ends early", ruleOf(times("-", 40)), -41);
        due("6: 41 signs", ruleOf(times("-", 39) + "m+"), -41);
        due("6: 41 signs, could go on", ruleOf(times("-", 40) + "m"), -41);
        due("6: 80 signs, wrong at 2", ruleOf("m+" + times("+", 78)), -3);
        due("6: wrong at 40 and behind", ruleOf(times("m+", 20) + "zz"), -41);

        due("6: plain", value("", 15), 2 * 3 - 3 * 1);
        due("6: m x y w d n", value("m*100+x*10+y", 9), 100 + 10 + 2);
        due("6: w d n", value("w*100+d*10+n", 0), 592);
        due("6: from the left", value("9-3-2", 0), 4);
        due("6: division from the left", value("100/7/2*3", 0), 21);
        due("6: cut to 0", value("-7/2", 0), -3);
        due("6: by 0", value("7/(m-m)+1", 0), 1);
        due("6: minus binds most", value("-2*3", 0), -6);
        due("6: many minuses", value("5---3", 0), 2);
        due("6: < least", value("1+1<2+1", 0), 1);
        due("6: >", value("3>2+1", 0), 0);
        due("6: =", value("2*3=6", 0), 1);
        due("6: brackets", value("(1+2)*(3-5)", 0), -6);
        due("6: wraps", value("999*999*999*999/999/999", 0), 999 * 999 * 999 * 999 / 999 / 999);
        due("6: put to 999", value("999*2", 0), 999);
        due("6: put to -999", value("-999*2", 0), -999);
        LostByState x = office();
        text(x, "7").rule();
        due("6: refused keeps the rule", text(x, "7+").rule(), -3);
        due("6: 7", x.match(0, 0), 1007);
        text(x, "").rule();
        due("6: none again", x.match(7, 0), 1006);
    }

    private static void questionsAboutThings() {
        LostByState x = office();
        x.loses(0, 5);
        x.loses(1, 4);
        x.finds(3, 1);
        x.days(2);
        x.gives(2, 0);
        int[][] want = {{7, 5, -1, 5, -1, -1, 5}, {3, 3, -1, -1, 2, 3, 5}, {8, 9, 0, -1, -1, -1, 6},
            {0, 1, 6, -1, -1, -1, 0}};
        for (int t = 0; t < 4; t++) {
            for (int what = 0; what < 7; what++) {
                due("7: thing(" + t + ", " + what + ")", x.thing(t, what), want[t][what]);
            }
        }
        int[][] bad = {{-1, 0}, {4, 0}, {8, 0}, {0, -1}, {0, 7}, {Integer.MIN_VALUE, 0}, {0, Integer.MAX_VALUE}};
        for (int[] b : bad) {
            dueThrows("7: thing(" + b[0] + ", " + b[1] + ")", x, 0, b[0], b[1]);
        }
        int[][] deeds = {{3, 3, 0}, {4, 4, 0}, {7, 7, 0}};
        for (int d = 0; d < 3; d++) {
            for (int what = 0; what < 3; what++) {
                due("8: deed(" + d + ", " + what + ")", x.deed(d, what), deeds[d][what]);
            }
        }
        x.gives(2, 6);
        due("8: can be done", x.deed(1, 2), 1);
        due("8: lacks some", x.deed(2, 1), 3);
        int[][] badDeeds = {{-1, 0}, {3, 0}, {6, 0}, {0, -1}, {0, 3}};
        for (int[] b : badDeeds) {
            dueThrows("8: deed(" + b[0] + ", " + b[1] + ")", x, 1, b[0], b[1]);
        }
    }

    private static void settings() {
        LostByState x = new LostByState();
        due("9: term", x.set(0, 99), 130);
        due("9: term back", x.set(0, 1), 199);
        due("9: term low", x.set(0, 0), -1);
        due("9: term high", x.set(0, 100), -1);
        due("9: term is", x.count(2), 1);
        due("9: need", x.set(1, -99), 103);
        due("9: need high", x.set(1, 99), 1);
        due("9: need too high", x.set(1, 100), -1);
        due("9: need too low", x.set(1, -100), -1);
        due("9: need is", x.count(3), 199);
        due("9: another", x.set(2, 5), -1);
        due("9: another below", x.set(-1, 5), -1);
    }

    private static String worths(LostByState x) {
        StringBuilder s = new StringBuilder();
        for (int t = 0; t < x.count(0); t++) {
            s.append(x.thing(t, 1));
        }
        return s.toString();
    }

    private static void dueSheet(String what, LostByState x, int got, int want, String worths) {
        due("10: " + what, got, want);
        due("10: " + what + ": " + worths(x) + ", due " + worths, worths(x).equals(worths), true);
    }

    private static void sheets() {
        LostByState x = office();
        dueSheet("ints", x, x.sheet(2, 4, 2, 2), 20, "2468");
        dueSheet("fewer", x, x.sheet(2, 2, 3, 100), 14, "3911");
        dueSheet("none", x, x.sheet(0, 0, 5, 5), 4, "1111");
        dueSheet("bytes", x, x.sheet(0, 4, 254, 1), 1 + 1 + 1 + 1, "1111");
        dueSheet("bytes that wrap", x, x.sheet(0, 4, 0x105, 1), 5 + 6 + 7 + 8, "5678");
        dueSheet("bytes with sign", x, x.sheet(0, 4, 127, 1), 9 + 1 + 1 + 1, "9111");
        dueSheet("shorts", x, x.sheet(1, 4, 32767, 1), 9 + 1 + 1 + 1, "9111");
        dueSheet("shorts that wrap", x, x.sheet(1, 4, 0x10002, 0x10001), 2 + 3 + 4 + 5, "2345");
        dueSheet("ints that wrap", x, x.sheet(2, 4, Integer.MAX_VALUE, 1), 9 + 1 + 1 + 1, "9111");
        dueSheet("more than things", x, x.sheet(2, 8, 7, 0), 28, "7777");
        dueSheet("n below 0", x, x.sheet(2, -1, 5, 0), -2, "7777");
        dueSheet("n above 8", x, x.sheet(2, 9, 5, 0), -1, "7777");
        dueSheet("n above 8, missing", x, x.sheet(3, 9, 5, 0), -1, "7777");
        dueSheet("kind 4", x, x.sheet(4, -1, 5, 0), -1, "7777");
        dueSheet("kind -1", x, x.sheet(-1, 3, 5, 0), -1, "7777");
        dueSheet("missing", x, x.sheet(3, -5, 5, 0), -3, "1111");
        due("10: no undo of it", x.count(10), 0);
        due("10: without things", new LostByState().sheet(2, 8, 7, 0), 0);
        due("10: without things, missing", new LostByState().sheet(3, 0, 7, 0), -3);
    }

    private static void acts() {
        LostByState x = office();
        due("11: loses", x.loses(1, 5), 1);
        due("11: another", x.loses(3, 0), 2);
        due("11: again", x.loses(3, 1), -2);
        due("11: place", x.loses(0, 6), -1);
        due("11: place below", x.loses(0, -1), -1);
        due("11: place of a lost one", x.loses(3, 6), -1);
        due("11: no such", x.loses(4, 0), -1);
        due("11: below", x.loses(-1, 0), -1);
        due("11: lost", x.count(7), 10);
        due("12: finds", x.finds(5, 3), 1);
        due("12: in already", x.finds(5, 3), -2);
        due("12: had", x.finds(5, 0), -2);
        due("12: the state finds nothing", x.finds(6, 1), -1);
        due("12: nobody", x.finds(-1, 1), -1);
        due("12: no such", x.finds(0, 4), -1);
        due("12: second", x.finds(0, 1), 2);
        due("12: in", x.count(8), 10);
        due("11: one that is in", x.loses(3, 1), -2);
        due("14: one that is in", x.gives(3, 1), -2);
        due("14: gives", x.gives(0, 2), 6);
        due("14: to himself", x.gives(0, 2), -2);
        due("14: on", x.gives(0, 5), 2);
        due("14: back to the state", x.gives(0, 6), 5);
        due("14: who 7", x.gives(0, 7), -1);
        due("14: who -1", x.gives(0, -1), -1);
        due("14: no such", x.gives(4, 1), -1);
        due("14: who 7 of one that is in", x.gives(3, 7), -1);
        x.gives(0, 4);
        due("11: a person loses", x.loses(0, 3), 1);
        due("11: at", x.thing(0, 3), 3);
    }

    private static void days() {
        LostByState x = office();
        x.set(0, 3);
        x.loses(0, 0);
        x.loses(1, 0);
        x.finds(2, 0);
        due("15: one day", x.days(1), 0);
        dueRow("15: one day", x, 0, 2);
        x.finds(3, 1);
        due("15: two", x.days(2), 1);
        dueRow("15: two", x, 1, 2);
        due("15: had by finder", x.thing(0, 2), 2);
        due("15: days of the other", x.thing(1, 4), 2);
        due("15: day", x.count(4), 3);
        due("15: none", x.days(0), 0);
        dueRow("15: none", x, 0, 2);
        due("15: below", x.days(-1), -1);
        due("15: above", x.days(100), -1);
        due("15: day as it was", x.count(4), 3);
        due("15: 99", x.days(99), 1);
        dueRow("15: 99", x, 2, 2);
        due("15: day", x.count(4), 102);
        LostByState y = full("5abc;3ab;9d;1", "0");
        y.set(0, 99);
        due("15: not yet", y.days(98), 0);
        y.set(0, 5);
        due("23: at once", y.until(2), 1);
        due("15: term became less", y.days(1), 4);
        dueRow("15: all", y, 15, 0);
    }

    private static int yearOf(String s) {
        LostByState x = office();
        int answer = text(x, s).year();
        due("16: text emptied by " + s, x.count(12), 0);
        due("16: to undo after " + s, x.count(10), answer > 0 ? 1 : 0);
        return answer;
    }

    private static void years() {
        due("16: empty", yearOf(""), 0);
        due("16: day of none", yearOf("d0"), 1);
        due("16: x", yearOf("x"), -1);
        due("16: l", yearOf("l"), -2);
        due("16: l1", yearOf("l1"), -3);
        due("16: l1x", yearOf("l1x"), -3);
        due("16: lx", yearOf("lxx"), -2);
        due("16: l123", yearOf("l123"), -4);
        due("16: d", yearOf("d"), -2);
        due("16: d12", yearOf("d12"), -3);
        due("16: c6 without letters", yearOf("l00f00c6"), 2);
        due("16: c6 then digit", yearOf("c60"), -3);
        due("16: letters that rise are marks", yearOf("l00f00c6abcd1"), -13);
        due("16: a letter that does not rise is an act", yearOf("l00f00c6abcc6"), 3);
        due("16: dd", yearOf("l20f02c6dd1"), 2);
        due("16: falling, no act", yearOf("c6ba"), -4);
        due("16: no mark i", yearOf("c6i"), -3);
        due("16: mark h", yearOf("c6h"), 0);
        due("16: same, no act", yearOf("c6bb"), -4);
        due("16: nothing is done if wrong", yearOf("l00x"), -4);
        due("16: digits that tell nothing", yearOf("l99"), 0);
        due("16: finds by 9", yearOf("l00f90"), 1);
        due("16: 60 signs", yearOf(times("d1", 30)), 30);
        due("16: 61 signs", yearOf(times("d1", 30) + "d"), -61);
        due("16: 60, ends early", yearOf(times("d1", 28) + "l00l"), -61);
        due("16: 61, could go on", yearOf(times("d1", 28) + "l00l0"), -61);
        due("16: 80, wrong at 3", yearOf("d1d" + times("d", 77)), -4);
        due("16: claim at 60", yearOf(times("d1", 28) + "d1c6a"), -61);
        due("16: claim to 60", yearOf(times("d1", 28) + "c6ab"), 28);
        LostByState x = office();
        due("16: done", text(x, "l02f30d9g13c6ab").year(), 5);
        dueRow("16: done", x, 0, 2);
        due("16: day", x.count(4), 9);
        due("16: paid", x.count(5), 5);
        due("16: not all", text(x, "g12g12l00").year(), 1);
        dueRow("16: not all", x, 1, 2);
        due("16: none", text(x, "g12l00").year(), 0);
        dueRow("16: none", x, 1, 2);
        due("16: to undo", x.count(10), 2);
        due("16: undone as one", x.undo(), 1);
        due("16: had", x.thing(1, 2), 3);
        due("16: all undone", x.undo(), 0);
        due("16: all had by the state", x.count(6), 15);
        due("16: day back", x.count(4), 0);
    }

    private static void undoing() {
        LostByState x = office();
        due("17: none", x.undo(), -1);
        for (int i = 0; i < 20; i++) {
            x.gives(0, i % 6);
        }
        due("17: twelve", x.count(10), 12);
        due("17: not done, none lost", x.gives(0, 1), -2);
        for (int i = 11; i >= 0; i--) {
            due("17: undo", x.undo(), i);
        }
        due("17: the thirteenth latest", x.thing(0, 2), 1);
        due("17: no more", x.undo(), -1);
        due("17: still", x.thing(0, 2), 1);
        x.loses(0, 1);
        x.finds(2, 0);
        x.days(3);
        x.days(0);
        x.claim(4, 7);
        due("17: paid", x.count(5), 5);
        due("17: claim undone", x.undo(), 3);
        due("17: paid back", x.count(5), 0);
        due("17: days", x.thing(0, 4), 3);
        due("17: finder", x.thing(0, 5), 2);
        due("17: days undone", x.undo(), 2);
        due("17: day", x.count(4), 0);
        due("17: days", x.thing(0, 4), 0);
        due("17: finding undone", x.undo(), 1);
        due("17: place", x.thing(0, 3), 1);
        x.loses(1, 1);
        text(x, "").things();
        text(x, "x").things();
        text(x, "").deeds();
        text(x, "9").deeds();
        due("17: kept over empty and wrong texts", x.count(10), 2);
        text(x, "0").deeds();
        due("17: deeds forget", x.count(10), 0);
        x.loses(2, 1);
        text(x, "1").things();
        due("17: things forget", x.count(10), 0);
        due("17: nothing to undo", x.undo(), -1);
        x.set(0, 9);
        x.loses(3, 0);
        x.set(0, 8);
        x.sheet(2, 8, 4, 0);
        x.undo();
        due("17: term stays", x.count(2), 8);
        due("17: worth stays", x.thing(3, 1), 4);
    }

    private static void matches() {
        LostByState x = office();
        due("18: all", x.match(7, 0), 1006);
        due("18: other", x.match(248, 0), 1000 - 15 - 3);
        due("18: nothing told of nothing", x.match(0, 3), 1000);
        due("18: 255", x.match(255, 3), 1000 - 24);
        due("18: 256", x.match(256, 0), -1);
        due("18: -1", x.match(-1, 0), -1);
        due("18: no such", x.match(0, 4), -1);
        due("18: no such below", x.match(0, -1), -1);
        text(x, "-999-999").rule();
        due("18: least", x.match(0, 0), 1);
        text(x, "999+999").rule();
        due("18: most", x.match(0, 0), 1999);
        text(x, "d*10+n").rule();
        x.loses(0, 0);
        x.days(8);
        due("18: not in", x.match(0, 0), 1001);
        x.finds(0, 0);
        x.days(4);
        due("18: in", x.match(0, 0), 1045);
        due("18: row as it was", x.count(11), 2);
    }

    private static void claims() {
        LostByState x = full("5abc;3ab;9d;1", "01;2;012");
        due("19: equal ones: the first", x.gets(0), -2);
        due("19: ab", x.gets(3), 1);
        dueRow("19: ab", x, 1004, 2);
        due("19: none", x.gets(1), -2);
        dueRow("19: the row stays", x, 1004, 2);
        due("19: wrong", x.gets(256), -1);
        due("19: below", x.gets(-1), -1);
        due("20: by ab", x.fewest(1), 2);
        dueRow("20: by ab", x, 3);
        due("20: by ac", x.fewest(0), 2);
        dueRow("20: by ac", x, 5);
        due("20: d is not enough", x.fewest(2), -2);
        due("20: no such", x.fewest(4), -1);
        due("20: below", x.fewest(-1), -1);
        x.set(1, 0);
        due("20: d", x.fewest(2), 1);
        dueRow("20: d", x, 8);
        due("20: by nothing", x.fewest(3), 0);
        dueRow("20: by nothing", x, 0);
        due("21: of nothing", x.ways(3), 1);
        int all = 0;
        for (int t = 0; t < 4; t++) {
            all += x.ways(t);
        }
        dueRow("21: none", x, 256 - all);
        due("21: no such", x.ways(4), -1);
        due("21: below", x.ways(-1), -1);
        LostByState all8 = full("1abcdefgh", "0");
        all8.set(1, 16);
        due("20: all eight", all8.fewest(0), 8);
        dueRow("20: all eight", all8, 255);
        due("21: all eight", all8.ways(0), 1);
        dueRow("21: all eight", all8, 255);
        x.set(1, 3);
        due("13: none", x.claim(6, 1), -2);
        due("13: who", x.claim(7, 7), -1);
        due("13: who below", x.claim(-1, 7), -1);
        due("13: marks", x.claim(0, 256), -1);
        due("13: marks below", x.claim(0, -1), -1);
        due("13: a person claims", x.claim(2, 7), 0);
        due("13: has it", x.thing(0, 2), 2);
        due("13: not in", x.thing(0, 4), -1);
        due("13: no finder", x.thing(0, 5), -1);
        due("13: paid", x.count(5), 5);
        due("13: another is next", x.claim(6, 7), -2);
        text(x, "5").rule();
        due("13: of equal ones the first", x.claim(6, 7), 1);
        due("13: then", x.claim(6, 7), 2);
        due("13: then", x.claim(6, 7), 3);
        due("13: all", x.claim(6, 7), -2);
        due("13: paid in all", x.count(5), 18);
        text(x, "-1").rule();
        x.loses(0, 0);
        x.finds(0, 0);
        x.set(1, -1);
        due("13: need below 0", x.gets(0), 0);
        dueRow("13: need below 0", x, 999, 1);
        text(x, "999*999").rule();
        x.set(1, 99);
        due("19: match is put", x.gets(0), 0);
        dueRow("19: match is put", x, 1999, 1);
        LostByState rich = full("9", "0");
        rich.set(1, -99);
        for (int i = 0; i < 2; i++) {
            for (int j = 0; j < 70; j++) {
                rich.claim(6, 0);
                rich.loses(0, 0);
                rich.finds(0, 0);
            }
            due("13: paid " + i, rich.count(5), 630 * (i + 1));
        }
    }

    private static int sharesOf(LostByState x, String s) {
        int answer = text(x, s).shares();
        due("22: text emptied by " + s, x.count(12), 0);
        return answer;
    }

    private static void sharing() {
        LostByState x = full("5abc;3ab;9d;1", "0");
        due("22: one each", sharesOf(x, "ab;abc;d"), 4 + 6 + 2);
        dueRow("22: one each", x, 1, 0, 2);
        due("22: two want one", sharesOf(x, "d;d"), 2);
        dueRow("22: two want one: the least row", x, -1, 2);
        due("22: ab; ab", sharesOf(x, "ab;ab"), 7);
        dueRow("22: ab; ab", x, 0, 1);
        due("22: one between gets none", sharesOf(x, "abc;h;d"), 8);
        dueRow("22: one between gets none", x, 0, -1, 2);
        due("22: none", sharesOf(x, "h"), 0);
        dueRow("22: none", x, -1);
        due("22: wrong", sharesOf(x, "ab;"), -4);
        dueRow("22: the row stays", x, -1);
        due("22: empty", sharesOf(x, ""), 0);
        dueRow("22: empty", x);
        due("22: ; first", sharesOf(x, ";a"), -1);
        due("22: two ;", sharesOf(x, "a;;a"), -3);
        due("22: falling", sharesOf(x, "ba"), -2);
        due("22: same", sharesOf(x, "aa"), -2);
        due("22: i", sharesOf(x, "ai"), -2);
        due("22: six", sharesOf(x, "a;a;a;a;a;a") >= 0, true);
        due("22: six numbers", x.count(11), 6);
        due("22: seventh", sharesOf(x, "a;a;a;a;a;a;a"), -13);
        due("22: seventh that ends", sharesOf(x, "a;a;a;a;a;a;"), -13);
        String full = times("abcdefgh;", 5) + "abcdefgh";
        due("22: 53 signs", sharesOf(x, full) >= 0, true);
        due("22: seventh at 54", sharesOf(x, full + ";a"), -55);
        text(x, "999*9").rule();
        due("22: each is put", sharesOf(x, "a;b;c;d;e"), 4 * 999);
        dueRow("22: the least row", x, -1, 0, 1, 2, 3);
        text(x, "0").rule();
        due("22: all 0", sharesOf(x, "a;b"), 0);
        dueRow("22: all 0", x, -1, -1);
        x.set(1, 99);
        text(x, "1").rule();
        due("22: need aside", sharesOf(x, "a"), 1);
        dueRow("22: need aside", x, 0);
    }

    private static void later() {
        LostByState x = office();
        x.set(0, 10);
        x.loses(0, 0);
        x.finds(3, 0);
        x.days(4);
        x.loses(1, 0);
        x.finds(5, 1);
        due("23: until", x.until(0), 6);
        due("23: the other", x.until(1), 10);
        due("23: not in", x.until(2), -2);
        due("23: no such", x.until(4), -1);
        due("23: below", x.until(-1), -1);
        due("24: now", x.later(0), 3);
        dueRow("24: now", x, 12, 0);
        due("24: 6", x.later(6), 2);
        dueRow("24: 6", x, 12, 8);
        due("24: 10", x.later(10), 0);
        dueRow("24: 10", x, 12, 40);
        due("24: 99", x.later(99), 0);
        due("24: 100", x.later(100), -1);
        due("24: -1", x.later(-1), -1);
        due("24: changes nothing", x.count(8), 3);
        due("24: day", x.count(4), 4);
        due("26: soonest", x.soonest(), 0);
        dueRow("26: soonest", x, 6, 3);
        x.set(0, 3);
        due("26: soonest at once", x.soonest(), 0);
        dueRow("26: soonest at once", x, 1, 3);
        due("24: 1 day", x.later(1), 2);
        x.set(0, 1);
        due("26: of equal ones the first", x.soonest(), 0);
        x.set(0, 99);
        due("26: 95 days", x.soonest(), 0);
        dueRow("26: 95 days", x, 95, 3);
        x.set(0, 1);
        x.days(1);
        due("26: none", x.soonest(), -2);
        LostByState long1 = full("1", "0");
        long1.set(0, 99);
        due("26: 99 days", long1.soonest(), 0);
        dueRow("26: 99 days", long1, 99, 0);
        due("23: 99 days", long1.until(0), 99);
        due("25: advantage", x.advantage(), 3);
        dueRow("25: advantage", x, 5, 1);
        x.gives(3, 5);
        x.gives(2, 1);
        due("25: more", x.advantage(), 1);
        dueRow("25: more", x, 9, 4);
        x.sheet(3, 0, 0, 0);
        due("25: two of one", x.advantage(), 5);
        dueRow("25: two of one", x, 2, 10);
        x.gives(3, 0);
        due("25: equal ones", x.advantage(), 0);
        dueRow("25: equal ones", x, 1, 8);
        LostByState y = full("5abc;3ab;9d;1", "01;2;012");
        due("27: confused", y.confused(0), 1);
        dueRow("27: confused", y, 1000 + 4 - 3, 1006);
        due("27: of nothing", y.confused(3), 2);
        dueRow("27: of nothing", y, 999, 1000);
        due("27: no such", y.confused(4), -1);
        due("27: below", y.confused(-1), -1);
        due("27: equal ones", y.confused(2), 3);
        dueRow("27: equal ones", y, 997, 1002);
        LostByState z = office();
        due("27: none in", z.confused(0), -2);
        z.loses(0, 0);
        z.finds(0, 0);
        due("27: none other in", z.confused(0), -2);
        due("27: one that is not in", z.confused(2), 0);
        z.loses(1, 0);
        z.gives(2, 4);
        due("28: regains", z.regains(2), 1);
        dueRow("28: regains", z, 2, 4, 17);
        due("28: some needs", z.regains(0), 1);
        dueRow("28: some needs", z, 2, 0, 8);
        due("28: no such", z.regains(3), -1);
        due("28: below", z.regains(-1), -1);
        due("28: nothing lacking", office().regains(2), 0);
    }

    private static void which() {
        LostByState x = office();
        due("31: all", x.fits(), 15);
        dueRow("31: all", x, 4, 0);
        due("32: ask", x.ask(), 0);
        dueRow("32: ask", x, 2);
        due("29: said", x.said(1, 1), 1);
        due("31: two", x.fits(), 3);
        dueRow("31: two", x, 2, 3);
        due("32: c", x.ask(), 2);
        dueRow("32: c", x, 1);
        due("29: again", x.said(1, 1), 2);
        due("29: mark", x.said(8, 1), -1);
        due("29: mark below", x.said(-1, 1), -1);
        due("29: is", x.said(0, 2), -1);
        due("29: is below", x.said(0, -1), -1);
        due("29: against it", x.said(1, 0), 3);
        due("31: none", x.fits(), 0);
        dueRow("31: none", x, 0, 255);
        due("32: none", x.ask(), -2);
        for (int i = 4; i <= 12; i++) {
            due("29: said " + i, x.said(7, 0), i);
        }
        due("29: twelve", x.said(7, 0), -1);
        due("29: count", x.count(9), 12);
        due("30: forget", x.forget(), 12);
        due("30: nothing", x.forget(), 0);
        due("31: all again", x.fits(), 15);
        due("29: has not", x.said(0, 0), 1);
        due("31: has not", x.fits(), 12);
        due("33: apart", x.tellsApart(), 3);
        dueRow("33: apart", x, 13);
        due("34: alike", x.alike(), 1);
        dueRow("34: alike", x, 0, 1, 3);
        LostByState y = new LostByState();
        due("33: none", y.tellsApart(), 0);
        text(y, "1a").things();
        due("33: one", y.tellsApart(), 0);
        dueRow("33: one", y, 0);
        due("34: one", y.alike(), -2);
        LostByState eight = new LostByState();
        text(eight, "1;1a;1b;1c;1d;1e;1f;1g").things();
        due("33: seven marks", eight.tellsApart(), 7);
        dueRow("33: seven marks", eight, 127);
        LostByState two = new LostByState();
        text(two, "1;1abcdefgh").things();
        due("34: by all", two.alike(), 8);
        dueRow("34: by all", two, 0, 1, 0);
        due("33: by the first", two.tellsApart(), 1);
        dueRow("33: by the first", two, 1);
        due("32: one fits: the first mark", y.ask(), 0);
        dueRow("32: one fits", y, 1);
        text(y, "1h;1ah").things();
        due("33: three", y.tellsApart(), 2);
        dueRow("33: three", y, 129);
        due("34: of like ones", y.alike(), 1);
        dueRow("34: of like ones", y, 0, 2, 1);
        text(y, "1h").things();
        due("33: two are the same", y.tellsApart(), -2);
        due("34: the same", y.alike(), 0);
        dueRow("34: the same", y, 1, 3, 128);
    }

    private static int looksOf(LostByState x, String s, int n) {
        int answer = text(x, s).looks(n);
        due("35: text emptied by " + s, x.count(12), 0);
        return answer;
    }

    private static void looking() {
        LostByState x = new LostByState();
        due("35: looks", looksOf(x, "310000", 3), 0);
        dueRow("35: looks", x, 11, 16, 0, 0, 1);
        due("35: like ones", looksOf(x, "111111", 8), 0);
        dueRow("35: like ones", x, 7, 12, 0, 1, 2, 3, 4, 5, 0, 1);
        due("35: ten", looksOf(x, "000009", 10), 0);
        dueRow("35: ten", x, 1023, 1024, 5, 5, 5, 5, 5, 5, 5, 5, 5, 5);
        due("35: none", looksOf(x, "123456", 0), 0);
        dueRow("35: none", x, 0, 1);
        due("35: all 0", looksOf(x, "000000", 1), -100);
        due("35: n 11", looksOf(x, "x", 11), -200);
        due("35: n -1", looksOf(x, "000000", -1), -200);
        due("35: empty", looksOf(x, "", 1), -1);
        due("35: five", looksOf(x, "12345", 1), -6);
        due("35: seven", looksOf(x, "1234567", 1), -7);
        due("35: letter", looksOf(x, "12a456", 1), -3);
        due("35: letter ahead of the seventh", looksOf(x, "1234a678", 1), -5);
        dueRow("35: the row stays", x, 0, 1);
        due("36: strays", x.strays(0, 0, 2), 0);
        dueRow("36: strays", x, 1, 2);
        due("36: round", x.strays(5, 0, 1), 0);
        dueRow("36: round", x, 1, 2);
        due("36: round back", x.strays(0, 5, 1), 0);
        dueRow("36: round back", x, 1, 2);
        due("36: odd", x.strays(0, 0, 19), 0);
        dueRow("36: odd", x, 0, 1);
        due("36: 20", x.strays(3, 3, 20), 0);
        dueRow("36: 20", x, 349526 / 2, 1048576 / 2);
        due("36: none", x.strays(1, 2, 0), 0);
        dueRow("36: none", x, 0, 1);
        int[][] bad = {{-1, 0, 0}, {6, 0, 0}, {0, -1, 0}, {0, 6, 0}, {0, 0, -1}, {0, 0, 21}};
        for (int[] b : bad) {
            due("36: wrong", x.strays(b[0], b[1], b[2]), -1);
        }
    }

    private static void doing() {
        LostByState x = office();
        due("37: can", x.can(), 7);
        dueRow("37: can", x, 3, 0);
        x.loses(0, 0);
        x.loses(3, 0);
        due("37: one lost", x.can(), 2);
        dueRow("37: one lost", x, 1, 1);
        due("38: none more", x.with(0), 1);
        dueRow("38: none more", x, 0);
        due("38: one more", x.with(1), 3);
        dueRow("38: one more", x, 1);
        due("38: eight: the fewest", x.with(8), 3);
        dueRow("38: eight: the fewest", x, 1);
        due("38: nine", x.with(9), -1);
        due("38: below", x.with(-1), -1);
        x.loses(1, 0);
        x.loses(2, 0);
        due("38: one of four", x.with(1), 1);
        dueRow("38: one of four", x, 4);
        due("38: two: the least", x.with(2), 1);
        dueRow("38: two", x, 4);
        due("38: three", x.with(3), 3);
        dueRow("38: three", x, 7);
        due("39: none", x.weakest(), -2);
        LostByState y = office();
        due("39: weakest", y.weakest(), 0);
        dueRow("39: weakest", y, 5);
        y.loses(0, 0);
        due("39: without 0", y.weakest(), 2);
        dueRow("39: without 0", y, 2);
        y.loses(2, 0);
        due("39: nothing can be done", y.weakest(), 1);
        dueRow("39: nothing can be done", y, 0);
        due("40: worth", y.worth(0), 0);
        dueRow("40: worth", y, 5, 6);
        due("40: of none", y.worth(3), 0);
        dueRow("40: of none", y, 0, 1);
        due("40: no such", y.worth(4), -1);
        due("40: below", y.worth(-1), -1);
        LostByState z = new LostByState();
        text(z, "1;1;1;1;1;1;1;1").things();
        text(z, "0;01234;0123456;01234567;12;67").deeds();
        due("40: 1 + 1/5 + 1/7 + 1/8", z.worth(0), 0);
        dueRow("40: 1 + 1/5 + 1/7 + 1/8", z, 411, 280);
        LostByState h = new LostByState();
        text(h, "1;1;1;1;1;1;1;1").things();
        text(h, "67;01;45;12;56;3").deeds();
        due("41: by others between", h.hangs(0), 0b010101);
        dueRow("41: by others between", h, 0b11110000);
        due("41: two", h.hangs(3), 0b001010);
        dueRow("41: two", h, 0b111);
        due("41: one", h.hangs(5), 0b100000);
        dueRow("41: one", h, 8);
        due("41: no such", h.hangs(6), -1);
        due("41: below", h.hangs(-1), -1);
        LostByState w = office();
        due("42: two", w.likely(2, 3), 0);
        dueRow("42: two", w, 343, 1000);
        due("42: one", w.likely(1, 3), 0);
        dueRow("42: one", w, 847, 1000);
        due("42: never", w.likely(4, 3), 0);
        dueRow("42: never", w, 0, 1);
        due("42: none lost", w.likely(3, 0), 0);
        dueRow("42: none lost", w, 1, 1);
        due("42: all lost", w.likely(1, 10), 0);
        dueRow("42: all lost", w, 0, 1);
        due("42: all lost, none", w.likely(0, 10), 0);
        dueRow("42: all lost, none", w, 1, 1);
        w.loses(2, 0);
        due("42: of what the state has", w.likely(1, 5), 0);
        dueRow("42: of what the state has", w, 1, 4);
        int[][] bad = {{-1, 0}, {7, 0}, {0, -1}, {0, 11}};
        for (int[] b : bad) {
            due("42: wrong", w.likely(b[0], b[1]), -1);
        }
    }

    private static int hatchOf(LostByState x, String s) {
        int answer = text(x, s).hatch();
        due("43: text emptied by " + s, x.count(12), 0);
        return answer;
    }

    private static void hatch() {
        LostByState x = new LostByState();
        due("43: 345", hatchOf(x, "345"), 1);
        dueRow("43: 345", x, 0, 2);
        due("43: 123", hatchOf(x, "123"), 0);
        dueRow("43: 123", x);
        due("43: 0007", hatchOf(x, "0007"), 1);
        dueRow("43: 0007", x, 3, 7);
        due("43: six", hatchOf(x, "999998"), 1);
        dueRow("43: six", x, 0, 1);
        due("43: of several the least", hatchOf(x, "111"), 1);
        dueRow("43: of several the least", x, 0, 1);
        due("43: zeros", hatchOf(x, "000000"), 0);
        dueRow("43: zeros", x);
        hatchOf(x, "5");
        due("43: none", hatchOf(x, ""), -1);
        due("43: letter", hatchOf(x, "12a"), -3);
        due("43: seventh", hatchOf(x, "1111111"), -7);
        dueRow("43: the row stays", x, 0, 5);
    }

    private static void rests() {
        LostByState x = new LostByState();
        due("44: nothing to have", x.rests(0, 0), 19);
        dueRow("44: nothing to have", x, 0, 9);
        int without = 0;
        for (int v = 0; v <= 20; v++) {
            for (int c = 0; c <= 5; c++) {
                int pairs = x.rests(v, c);
                due("44: row of " + v + ", " + c, x.count(11), pairs == 0 ? 0 : 2);
                without += pairs == 0 ? 1 : 0;
            }
        }
        due("44: some have no rest", without > 0, true);
        due("44: dear days", x.rests(20, 5), 1);
        dueRow("44: dear days", x, 0, 0);
        due("44: v 21", x.rests(21, 0), -1);
        due("44: v -1", x.rests(-1, 0), -1);
        due("44: c 6", x.rests(0, 6), -1);
        due("44: c -1", x.rests(0, -1), -1);
        dueRow("44: the row stays", x, 0, 0);
    }

    private static void laws() {
        LostByState x = full("5abc;3ab;9d;1", "0");
        due("45: the same", text(x, "m*2-x*3-y").law(), 0);
        due("45: all", text(x, "99").law() > 0, true);
        due("45: by it", x.row(0), 256);
        long by = x.row(1);
        due("45: by none", text(x, "0").law(), -by);
        dueRow("45: by none", x, 0, by);
        due("45: empty", text(x, "").law(), 0);
        dueRow("45: empty", x, by, by);
        due("45: wrong", text(x, "m+").law(), -10002);
        due("45: wrong at 0", text(x, "q").law(), -10000);
        due("45: 41 signs", text(x, times("-", 40) + "m").law(), -10040);
        due("45: text emptied", x.count(12), 0);
        dueRow("45: the row stays", x, by, by);
        due("45: the rule stays", x.match(7, 0), 1006);
        text(x, "5").rule();
        text(x, "").law();
        dueRow("45: against the rule", x, by, 256);
    }

    private static int state;

    private static int draw(int n) {
        state = state * 1103515245 + 12345;
        return (int) ((state & 0xffffffffL) / 65536 % n);
    }

    /** What years() would do, done by the other calls on an object of its own. */
    private static int drawnBy(LostByState y, int seed, int n) {
        state = seed;
        int got = 0;
        int many = y.count(0);
        for (int i = 0; i < n; i++) {
            switch (draw(4)) {
                case 0:
                    y.days(1);
                    break;
                case 1:
                    if (many > 0) {
                        int thing = draw(many);
                        y.loses(thing, draw(6));
                    }
                    break;
                case 2:
                    if (many > 0) {
                        int person = draw(6);
                        y.finds(person, draw(many));
                    }
                    break;
                default:
                    int who = draw(7);
                    got += y.claim(who, draw(256)) >= 0 ? 1 : 0;
                    break;
            }
        }
        return got;
    }

    private static void drawn() {
        int all = 0;
        for (int seed = -40; seed < 40; seed++) {
            LostByState x = seed % 5 == 0 ? new LostByState() : full("5abc;3ab;9d;1", "0");
            LostByState y = seed % 5 == 0 ? new LostByState() : full("5abc;3ab;9d;1", "0");
            x.set(1, -3);
            y.set(1, -3);
            x.set(0, 4);
            y.set(0, 4);
            int n = 1 + (seed & 31) + (seed < 0 ? 28 : 0);
            int in = x.count(8);
            int got = drawnBy(y, seed * 77777777, n);
            due("46: years", x.years(seed * 77777777, n), got);
            dueRow("46: years", x, y.count(6), y.count(8));
            due("46: changes nothing", x.count(8), in);
            due("46: nor the day", x.count(4), 0);
            all += got;
        }
        due("46: some claims got something", all > 20, true);
        LostByState z = office();
        due("46: none", z.years(1, 0), -1);
        due("46: 61", z.years(1, 61), -1);
        due("46: below", z.years(1, -1), -1);
        due("46: 60", z.years(1, 60) >= 0, true);
    }

    private static void kept() {
        LostByState x = office();
        due("48: nothing kept", x.again(0), false);
        due("47: -1", x.keep(-1), false);
        due("47: 2", x.keep(2), false);
        due("47: 0", x.keep(0), true);
        x.loses(0, 1);
        x.finds(2, 0);
        x.days(5);
        due("47: 1", x.keep(1), true);
        x.claim(3, 7);
        x.days(1);
        x.set(0, 44);
        due("48: 2", x.again(2), false);
        due("48: -1", x.again(-1), false);
        due("48: 1", x.again(1), true);
        due("48: days", x.thing(0, 4), 5);
        due("48: finder", x.thing(0, 5), 2);
        due("48: day", x.count(4), 5);
        due("48: paid", x.count(5), 0);
        due("48: term stays", x.count(2), 44);
        due("48: nothing to undo", x.count(10), 0);
        due("48: refused undo", x.undo(), -1);
        due("48: 0", x.again(0), true);
        due("48: all the state's", x.count(6), 15);
        due("48: once more", x.again(1), true);
        due("48: in", x.count(8), 1);
        text(x, "").things();
        text(x, "x").deeds();
        due("48: nothing came", x.again(0), true);
        x.loses(1, 1);
        text(x, "0").deeds();
        due("48: deeds came", x.again(0), false);
        due("48: deeds came", x.again(1), false);
        due("47: anew", x.keep(1), true);
        due("48: anew", x.again(1), true);
        due("48: the other not", x.again(0), false);
        text(x, "1").things();
        due("48: things came", x.again(1), false);
    }

    private static void rows() {
        LostByState x = office();
        due("49: 13", x.count(13), -1);
        due("49: -1", x.count(-1), -1);
        due("49: highest", x.count(Integer.MAX_VALUE), -1);
        x.can();
        due("50: 0", x.row(0), 3);
        dueThrows("50: row(-1)", x, 2, -1, 0);
        dueThrows("50: row(2)", x, 2, 2, 0);
        dueThrows("50: row(max)", x, 2, Integer.MAX_VALUE, 0);
        dueThrows("50: row(min)", x, 2, Integer.MIN_VALUE, 0);
        x.loses(0, 1);
        x.loses(1, 1);
        x.finds(1, 1);
        x.said(1, 1);
        x.sign(0);
        x.set(1, -99);
        x.days(3);
        x.claim(0, 0);
        int[] want = {4, 3, 30, 1, 3, 3, 12, 1, 0, 1, 5, 2, 4};
        for (int i = 0; i < want.length; i++) {
            due("49: count(" + i + ")", x.count(i), want[i]);
        }
    }
}
