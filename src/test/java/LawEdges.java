/** The edges that part 4 of the document and promises 32 to 38 name: the tape, the law's text and what it gives. */
public final class LawEdges extends Due {
    static final String DIGITS = "0123456789", SIGNS = "|&<=>+-*", SIGNS_BEHIND_TEST = "|&+-*", AHEAD = " (!-" + DIGITS;
    static final String PASS_NAMES = "vntkm", BIND_NAMES = "ycwusq";

    static void feedAtMost() {
        sentence("feed: Twelve bytes come to THE TAPE, the highest of each number first: how many it has. FULL: more than 96.");
        RoomsDesk x = new RoomsDesk();
        for (int bytes = 12; bytes <= 96; bytes += 12) {
            due("feed", x.feed(-1, LEAST, MOST), bytes);
            due("bytes", x.count(5), bytes);
        }
        due("108 bytes", x.feed(0, 0, 0), FULL);
        due("96 stay", x.count(5), 96);
        int[] kept = {95, 85, 84};
        for (int n : kept) {
            x.trim(n);
            due("twelve more than " + n, x.feed(0, 0, 0), n > 84 ? FULL : 96);
        }
        x.trim(0);
        due("on from none", x.feed(0, 0, 0), 12);
        x.trim(0);
        // "pass v bind y", each number's highest byte first.
        x.feed(0x70617373, 0x20762062, 0x696e6420);
        x.feed(0x79808182, 0xff0000ff, 0);
        x.trim(13);
        due("the text", x.law(), 4);
    }

    static void trim() {
        sentence("trim: THE TAPE keeps its first n bytes: n. BAD: n is below 0, or it has not so many.");
        RoomsDesk x = new RoomsDesk();
        dueBeyond("n of none", n -> x.trim(n), 0, 0, BAD);
        due("0 of none", x.trim(0), 0);
        x.feed(0x20202020, 0x70202020, 0);
        dueBeyond("n of 12", n -> x.trim(n), 0, 12, BAD);
        due("12 stay", x.count(5), 12);
        due("12 of 12", x.trim(12), 12);
        due("11 of 12", x.trim(11), 11);
        due("12 of 11", x.trim(12), BAD);
        due("6 of 11", x.trim(6), 6);
        x.feed(0x61737320, 0x76206269, 0x6e642079);
        due("what comes then stands right behind", x.count(5), 18);
        due("the first bytes stay: a fault at the 6th, behind p", x.law(), -105);
        due("used up", x.count(5), 0);
        due("1 of none", x.trim(1), BAD);
        for (int i = 0; i < 8; i++) {
            x.feed(0, 0, 0);
        }
        dueBeyond("n of 96", n -> x.trim(n), 0, 96, BAD);
        due("96 of 96", x.trim(96), 96);
        due("0 of 96", x.trim(0), 0);
        due("none is left", x.count(5), 0);
    }

    /** Of all bytes those with which a text that begins so goes on. */
    static void dueNext(String begin, String next) {
        RoomsDesk x = new RoomsDesk();
        for (int b = 0; b < 256; b++) {
            if (b % 64 == 0) {
                x = new RoomsDesk();
            }
            feed(x, begin + (char) b);
            x.trim(begin.length() + 1);
            int answer = x.law();
            boolean goesOn = answer > 0 || answer < -100 - begin.length();
            due("'" + begin + "' and byte " + b + " (" + answer + "): goes on", goesOn ? 1 : 0, next.indexOf(b) >= 0 ? 1 : 0);
            due("used up", x.count(5), 0);
        }
    }

    static void nextBytes() {
        sentence("FAULTS: the place (from 0) of the first byte with which no such TEXT goes on");
        for (String blanks : new String[] {"", " ", "   "}) {
            dueNext(blanks, " p");
            dueNext(blanks + "p", "a");
            dueNext(blanks + "pa", "s");
            dueNext(blanks + "pas", "s");
            dueNext(blanks + "pass", " (!-");
            dueNext(blanks + "pass ", AHEAD + PASS_NAMES);
        }
        for (int i = 0; i < PASS_NAMES.length(); i++) {
            dueNext("pass " + PASS_NAMES.charAt(i), " " + SIGNS);
        }
        dueNext("pass v ", " b" + SIGNS);
        dueNext("pass v   ", " b" + SIGNS);
        dueNext("pass v b", "i");
        dueNext("pass v bi", "n");
        dueNext("pass v bin", "d");
        dueNext("pass v bind", " (!-");
        dueNext("pass(v)bind", " (!-");
        dueNext("pass v bind ", AHEAD + BIND_NAMES);
        for (int i = 0; i < BIND_NAMES.length(); i++) {
            dueNext("pass v bind " + BIND_NAMES.charAt(i), " " + SIGNS);
        }
        dueNext("pass v bind y ", " " + SIGNS);
        dueNext("pass v bind y  ", " " + SIGNS);
    }

    static void nextBehindSigns() {
        sentence("OR: AND { | AND }; AND: TEST { & TEST }; TEST: SUM [ (< | <= | = | >= | >) SUM ]; SUM: TERM { (+ | -) TERM };"
                + " TERM: PART { * PART }");
        for (String e : new String[] {"pass ", "pass v bind "}) {
            String names = e.equals("pass ") ? PASS_NAMES : BIND_NAMES;
            String behind = e.equals("pass ") ? "b" : "";
            String name = names.substring(1, 2);
            for (String sign : new String[] {"|", "&", "+", "-", "*", "=", "<=", ">="}) {
                dueNext(e + name + sign, AHEAD + names);
                dueNext(e + name + " " + sign + " ", AHEAD + names);
            }
            dueNext(e + name + "<", "=" + AHEAD + names);
            dueNext(e + name + ">", "=" + AHEAD + names);
            dueNext(e + name + "< ", AHEAD + names);
            dueNext(e + name + "> ", AHEAD + names);
            for (String test : new String[] {"<", "<=", "=", ">=", ">"}) {
                String one = e + name + test + name;
                dueNext(one, " " + SIGNS_BEHIND_TEST);
                dueNext(one + "+" + name + "*" + name, " " + SIGNS_BEHIND_TEST);
                dueNext(one + "&" + name, " " + SIGNS);
                dueNext(one + "|" + name, " " + SIGNS);
                dueNext(e + "(" + name + test + name, " )" + SIGNS_BEHIND_TEST);
                dueNext(e + "(" + name + test + name + ")", " " + SIGNS + behind);
                dueNext(one + "+(" + name, " )" + SIGNS);
            }
        }
    }

    static void nextOfParts() {
        sentence("PART: NUMBER (digits, 6 at most) | NAME | ! PART | - PART | ( OR ). / the seventh digit");
        dueNext("pass 1", " " + DIGITS + SIGNS);
        dueNext("pass 12345", " " + DIGITS + SIGNS);
        dueNext("pass 123456", " " + SIGNS);
        dueNext("pass 000000", " " + SIGNS);
        dueNext("pass 1 ", " b" + SIGNS);
        dueNext("pass 123456 ", " b" + SIGNS);
        dueNext("pass v bind 123456", " " + SIGNS);
        dueNext("pass v bind 1 ", " " + SIGNS);
        dueNext("pass 123456+12345", " " + DIGITS + SIGNS);
        sentence("a ninth ( within one another");
        String seven = "(".repeat(7), eight = "(".repeat(8), noBracket = " !-" + DIGITS;
        dueNext("pass" + seven, AHEAD + PASS_NAMES);
        dueNext("pass" + eight, noBracket + PASS_NAMES);
        dueNext("pass" + "( ".repeat(8), noBracket + PASS_NAMES);
        dueNext("pass" + eight + "v+", noBracket + PASS_NAMES);
        dueNext("pass" + eight + "v", " )" + SIGNS);
        dueNext("pass" + eight + "v)", " )" + SIGNS);
        dueNext("pass" + eight + "v)+", AHEAD + PASS_NAMES);
        dueNext("pass" + eight + "v)+(", noBracket + PASS_NAMES);
        dueNext("pass" + eight + "v" + ")".repeat(7), " )" + SIGNS);
        dueNext("pass" + eight + "v" + ")".repeat(8), " b" + SIGNS);
        dueNext("pass" + eight + "v" + ")".repeat(8) + "*" + seven, AHEAD + PASS_NAMES);
        dueNext("pass" + eight + "v" + ")".repeat(8) + "*" + eight, noBracket + PASS_NAMES);
        dueNext("pass v bind" + eight, noBracket + BIND_NAMES);
        dueNext("pass (v) bind (y)", " " + SIGNS);
        dueNext("pass (v) bind ((y)", " )" + SIGNS);
    }

    static void nextOfMarks() {
        sentence("a 21st ! or - right ahead of one PART, that between two not counted");
        String noMark = " (" + DIGITS;
        for (String mark : new String[] {"!", "-", "! ", "- "}) {
            dueNext("pass " + mark.repeat(19), AHEAD + PASS_NAMES);
            dueNext("pass " + mark.repeat(20), noMark + PASS_NAMES);
            dueNext("pass v bind " + mark.repeat(20), noMark + BIND_NAMES);
        }
        dueNext("pass " + "!-".repeat(10), noMark + PASS_NAMES);
        dueNext("pass " + "-!".repeat(9) + "-", AHEAD + PASS_NAMES);
        dueNext("pass v-" + "-".repeat(19), AHEAD + PASS_NAMES);
        dueNext("pass v-" + "-".repeat(20), noMark + PASS_NAMES);
        dueNext("pass v - " + "!".repeat(20), noMark + PASS_NAMES);
        dueNext("pass v*" + "-".repeat(20), noMark + PASS_NAMES);
        dueNext("pass " + "!".repeat(20) + "(", AHEAD + PASS_NAMES);
        dueNext("pass " + "!".repeat(20) + "(" + "!".repeat(20), noMark + PASS_NAMES);
        dueNext("pass " + "!".repeat(20) + "v*", AHEAD + PASS_NAMES);
        dueNext("pass " + "!".repeat(20) + "v*" + "!".repeat(20), noMark + PASS_NAMES);
        dueNext("pass v!", "");
    }

    static void ends() {
        sentence("the end, if it comes too soon / law: -100 less the place of its fault");
        RoomsDesk x = new RoomsDesk();
        String whole = "pass v bind y";
        for (int length = 0; length < whole.length(); length++) {
            due("the first " + length, law(x, whole.substring(0, length)), -100 - length);
        }
        due("the whole", law(x, whole), 4);
        String[] soon = {" ", "  pass", "pass v ", "pass v bind ", "pass v bind y|", "pass v bind y< ", "pass v bind (y", "pass v bind !",
            "pass v bind y-", "pass (", "pass v bind ((y)", "pass v bind y+ 1 * "};
        for (String text : soon) {
            due("'" + text + "'", law(x, text), -100 - text.length());
        }
        due("THE LAW stays", x.count(8), 4);
    }

    static void blanks() {
        sentence("Blanks (byte 32) may stand ahead of words and at the end; one must between pass, bind and a letter or digit"
                + " ahead of them, or behind.");
        RoomsDesk x = new RoomsDesk();
        Object[][] texts = {
            {"pass v bind y", 4}, {" pass v bind y ", 4}, {"   pass   v   bind   y   ", 4}, {"pass(v)bind(y)", 8},
            {"pass ( v ) bind ( y )", 8}, {"pass!v bind!y", 6}, {"pass-v bind-y", 6}, {"pass -1 bind - 1", 6},
            {"pass v + n bind y", 6}, {"pass v+n bind y", 6}, {"pass v <= n bind y", 6}, {"pass v<=n bind y", 6},
            {"passv bind y", -104}, {"pass1 bind y", -104}, {"passpass v", -104}, {"pass vbind y", -106}, {"pass 1bind y", -106},
            {"pass v bindy", -111}, {"pass v bind1", -111}, {"pass v bindbind", -111}, {"pa ss v bind y", -102},
            {"pass v b ind y", -108}, {"pass v < = n bind y", -109}, {"pass 1 2 bind y", -107}, {"pass\tv bind y", -104},
            {"pass v bind y\n", -113}, {"pass v bind y\0", -113}, {"pass v bind y \0", -114}, {"pass v\0bind y", -106},
        };
        for (Object[] text : texts) {
            due("'" + text[0] + "'", law(x, (String) text[0]), (int) text[1]);
        }
    }

    static void words() {
        sentence("law: how many words it has (pass, bind, NUMBERS, NAMES, signs, ( and ) each one)");
        RoomsDesk x = new RoomsDesk();
        due("without", x.count(8), 0);
        Object[][] texts = {
            {"pass 123456 bind 0", 4}, {"pass 1<=2 bind 1>=2", 8}, {"pass 1<2 bind 1>2", 8}, {"pass 1=2 bind !2", 7},
            {"pass --1 bind !!2", 8}, {"pass (1) bind ((2))", 10}, {"pass v|n&t bind y*c+w-u", 14},
            {"pass v-(-n) bind s", 9}, {"pass 1 bind 2", 4},
        };
        for (Object[] text : texts) {
            due("'" + text[0] + "'", law(x, (String) text[0]), (int) text[1]);
            due("words of '" + text[0] + "'", x.count(8), (int) text[1]);
        }
    }

    static void tapeAtMost() {
        sentence("THE TAPE (96 bytes at most; an act that reads it uses it up, whatever it answers)");
        RoomsDesk x = new RoomsDesk();
        due("an empty one", x.law(), -100);
        String blanks = " ".repeat(96), text = "pass 5 bind 7";
        due("96 blanks", law(x, blanks), -196);
        due("blanks at the end", law(x, text + blanks.substring(0, 83)), 4);
        due("blanks ahead", law(x, blanks.substring(0, 83) + text), 4);
        due("the fault in the last byte", law(x, text + blanks.substring(0, 82) + "5"), -195);
        due("the end too soon at 96", law(x, text + blanks.substring(0, 82) + "+"), -196);
        due("a blank too many, so that the end is missing", law(x, blanks.substring(0, 84) + "pass 5 bind "), -196);
        due("used up", x.count(5), 0);
        due("used up: an empty one again", x.law(), -100);
        due("THE LAW stays", x.count(8), 4);
        due("THE LAW gives", x.binds(), 7);
        StringBuilder long96 = new StringBuilder("pass 1");
        while (long96.length() < 88) {
            long96.append("+1");
        }
        long96.append(" bind 42");
        due("96 bytes of words", law(x, long96.toString()), 86);
        due("bind gives", x.binds(), 42);
        x.firm();
        x.claim(0, 0, 0, 1);
        x.put(0, 0);
        due("pass gives", x.says(0), 42);
        due("every other byte a sign", law(x, "pass " + "!".repeat(20) + "(" + "-".repeat(20) + "(" + "!".repeat(20) + "("
                + "-".repeat(17) + "1))) bind 3"), 87);
        due("pass gives", x.says(0), 1);
    }

    /** One claim that votes yes: v, n and t are 100, k is 0, m is 1. */
    static void dueGives(String e, int want) {
        RoomsDesk x = room(new int[] {10}, new int[] {1});
        int words = law(x, "pass " + e + " bind 1");
        due("'" + e + "' is a law", words > 0 ? 1 : 0, 1);
        due("'" + e + "' of pass", x.says(0), want);
        due("'" + e + "' passes", x.passes(0), want == 0 ? 0 : 1);
        RoomsDesk y = room(new int[] {10}, new int[] {1});
        String ofBind = e.replace('m', 'c').replace("v", "(y*100)").replace("k", "q");
        law(y, "pass 1 bind " + ofBind);
        due("'" + ofBind + "' of bind", y.binds(), want);
    }

    static void signs() {
        sentence("tests, & | ! give 1 or 0 (what is not 0 is true; both sides are worked out)");
        for (int one = -1; one <= 2; one++) {
            for (int other = -1; other <= 2; other++) {
                String left = one < 0 ? "-1" : "" + one, right = other < 0 ? "-1" : "" + other;
                dueGives(left + "|" + right, one != 0 || other != 0 ? 1 : 0);
                dueGives(left + "&" + right, one != 0 && other != 0 ? 1 : 0);
                dueGives(left + "<" + right, one < other ? 1 : 0);
                dueGives(left + "<=" + right, one <= other ? 1 : 0);
                dueGives(left + "=" + right, one == other ? 1 : 0);
                dueGives(left + ">=" + right, one >= other ? 1 : 0);
                dueGives(left + ">" + right, one > other ? 1 : 0);
                dueGives(left + "+" + right, one + other);
                dueGives(left + "-" + right, one - other);
                dueGives(left + "*" + right, one * other);
            }
            String left = one < 0 ? "-1" : "" + one;
            dueGives("!" + left, one == 0 ? 1 : 0);
            dueGives("!!" + left, one == 0 ? 0 : 1);
            dueGives("-(" + left + ")", -one);
        }
        dueGives("v", 100);
        dueGives("7", 7);
        dueGives("-m", -1);
        dueGives("k", 0);
    }

    static void loosestFirst() {
        sentence("E, the loosest first: OR, AND, TEST, SUM, TERM, PART");
        dueGives("1|0&0", 1);
        dueGives("0&0|1", 1);
        dueGives("2&0=0", 1);
        dueGives("1=2&2", 0);
        dueGives("1+1=2", 1);
        dueGives("2=1+1", 1);
        dueGives("1+2*3", 7);
        dueGives("2*3+1", 7);
        dueGives("-2*3", -6);
        dueGives("2*-3", -6);
        dueGives("!0+5", 6);
        dueGives("!(0+5)", 0);
        dueGives("-!0", -1);
        dueGives("!-1", 0);
        dueGives("9-3-2", 4);
        dueGives("9-(3-2)", 8);
        dueGives("9-3+2", 8);
        dueGives("2-0-0-5*0", 2);
        dueGives("(1|0)&0", 0);
        dueGives("(1=1)=1", 1);
        dueGives("1=(2=2)", 1);
        dueGives("5<4+3*2&1|0", 1);
        dueGives("9>8&8>7", 1);
    }

    static void wraps() {
        sentence("Ints that wrap");
        String least = "65536*32768";
        dueGives("999999", 999999);
        dueGives("999999*999999", 999999 * 999999);
        dueGives("65536*32767+65535", MOST);
        dueGives(least, LEAST);
        dueGives("65536*32767+65535+1", LEAST);
        dueGives("-(" + least + ")", LEAST);
        dueGives(least + "-1", MOST);
        dueGives(least + "-1>" + least, 1);
        dueGives(least + "<0", 1);
        dueGives(least + "<=0-1", 1);
        dueGives(least + ">0", 0);
        dueGives("0-1<" + least + "-1", 1);
        dueGives("65536*65536", 0);
        dueGives("!(65536*65536)", 1);
        dueGives("65536*65536|0", 0);
        dueGives("(" + least + ")+(" + least + ")", 0);
    }

    static void letters() {
        sentence("name: A NAME's value (its letter, 97 to 122): of pass for a CLASS, of bind (class NONE). BAD: also if the CLASS has no"
                + " CLAIMS.");
        RoomsDesk x = room(new int[] {10, 20}, new int[] {1, 2});
        for (int letter = -1; letter <= 256; letter++) {
            boolean isPass = PASS_NAMES.indexOf(letter) >= 0, isBind = BIND_NAMES.indexOf(letter) >= 0;
            due("letter " + letter + " of a CLASS", x.name(letter, 0) == BAD ? 1 : 0, isPass ? 0 : 1);
            if (letter == 127) {
                x = room(new int[] {10, 20}, new int[] {1, 2});
            }
            due("letter " + letter + " of NONE", x.name(letter, NONE) == BAD ? 1 : 0, isBind ? 0 : 1);
        }
        RoomsDesk y = room(new int[] {10, 20}, new int[] {1, 2});
        int[] odd = {LEAST, MOST, NONE, BAD, 'v' + 256, 'v' - 256, 'v' + 65536, 96, 123};
        dueAll("letter, of a CLASS,", letter -> y.name(letter, 0), BAD, odd);
        dueAll("letter, of NONE,", letter -> y.name(letter, NONE), BAD, odd);
        for (int i = 0; i < PASS_NAMES.length(); i++) {
            int letter = PASS_NAMES.charAt(i);
            dueBeyond("pass letter " + letter + " of class", k -> y.name(letter, k), 0, 5, BAD);
            dueAll("pass letter " + letter + " without CLAIMS, class", k -> y.name(letter, k), BAD, 1, 5, NONE, NONE + 1);
        }
        for (int i = 0; i < BIND_NAMES.length(); i++) {
            int letter = BIND_NAMES.charAt(i);
            dueBeyond("bind letter " + letter + " of class", k -> y.name(letter, k), 0, 5, BAD);
            dueAll("bind letter " + letter + " of class", k -> y.name(letter, k), BAD, 0, 1, 5, NONE + 1, NONE - 1);
        }
    }

    static void dueNames(String what, RoomsDesk x, int... want) {
        for (int i = 0; i < PASS_NAMES.length(); i++) {
            due(what + ": " + PASS_NAMES.charAt(i), x.name(PASS_NAMES.charAt(i), 0), want[i]);
        }
    }

    static void passNames() {
        sentence("v hundredths (cut) of VALUE that votes yes, of all that votes (0, if that is 0), n likewise of how many CLAIMS,"
                + " t hundredths of VALUE that votes, of all (0, if that is 0), k the KIND of its first CLAIM, m how many");
        dueNames("none votes", room(new int[] {10, 20}, new int[] {0, 0}), 0, 0, 0, 0, 2);
        dueNames("all vote yes", room(new int[] {10, 20}, new int[] {1, 1}), 100, 100, 100, 0, 2);
        dueNames("all vote no", room(new int[] {10, 20}, new int[] {2, 2}), 0, 0, 100, 0, 2);
        dueNames("one of two, one none", room(new int[] {1, 2, 1}, new int[] {1, 2, 0}), 33, 50, 75, 0, 3);
        dueNames("two thirds", room(new int[] {2, 1}, new int[] {1, 2}), 66, 50, 100, 0, 2);
        dueNames("just below all", room(new int[] {99999, 1}, new int[] {1, 2}), 99, 50, 100, 0, 2);
        dueNames("less than one", room(new int[] {1, 99999}, new int[] {1, 2}), 0, 50, 100, 0, 2);
        dueNames("one hundredth", room(new int[] {1, 99}, new int[] {1, 2}), 1, 50, 100, 0, 2);
        dueNames("few vote", room(new int[] {1, 99999, 1}, new int[] {1, 0, 2}), 50, 50, 0, 0, 3);
        RoomsDesk x = room(new int[] {10, 20}, new int[] {1, 2});
        x.dispute(0, 0);
        x.dispute(1, 0);
        dueNames("VALUE 0 that votes", x, 0, 50, 0, 0, 2);
        x.dispute(0, 100000);
        dueNames("a told sum", x, 100, 50, 100, 0, 2);
        int[] amounts = new int[24], votes = new int[24];
        java.util.Arrays.fill(amounts, 100000);
        java.util.Arrays.fill(votes, 1);
        votes[23] = 2;
        dueNames("the most", room(amounts, votes), 95, 95, 100, 0, 24);
        RoomsDesk y = desk(1);
        for (int c = 0; c < 3; c++) {
            y.claim(4 - c, 0, 0, 5);
            y.put(c, 0);
        }
        dueNames("the first is NEW", y, 0, 0, 0, 4, 3);
        y.put(0, 1);
        dueNames("the first is AFTER", y, 0, 0, 0, 3, 2);
        y.put(1, NONE);
        dueNames("one alone, FIRST", y, 0, 0, 0, 2, 1);
        sentence("THE RECORD DAY");
        RoomsDesk z = room(new int[] {30, 10}, new int[] {1, 2});
        z.days(1);
        z.amend(0, 90);
        dueNames("as known on day 0", z, 75, 50, 100, 0, 2);
        z.record(1);
        dueNames("as known on day 1", z, 90, 50, 100, 0, 2);
    }

    static void dueBind(String what, RoomsDesk x, int... want) {
        for (int i = 0; i < BIND_NAMES.length(); i++) {
            due(what + ": " + BIND_NAMES.charAt(i), x.name(BIND_NAMES.charAt(i), NONE), want[i]);
        }
    }

    static void bindNames() {
        sentence("y how many CLASSES pass, c how many CLASSES have CLAIMS, w how many CLASSES are WORSE at LOW, u at HIGH,"
                + " s whether a CLASS whose first CLAIM is SECURED passes (1, 0), q whether one QUARRELS");
        dueBind("a new object", new RoomsDesk(), 0, 0, 0, 0, 0, 0);
        RoomsDesk x = desk(1);
        for (int c = 0; c < 13; c++) {
            x.claim(c % 2 == 0 ? 1 : 0, 0, 0, 10);
        }
        dueBind("CLAIMS in no CLASS", x, 0, 0, 0, 0, 0, 0);
        for (int k = 0; k < 6; k++) {
            x.put(2 * k, k);
        }
        dueBind("six CLASSES", x, 0, 6, 0, 0, 0, 0);
        law(x, "pass v bind 1");
        x.vote(10, 1);
        dueBind("the last passes, SECURED", x, 1, 6, 0, 0, 1, 0);
        for (int k = 0; k < 5; k++) {
            x.vote(2 * k, 1);
        }
        dueBind("all pass", x, 6, 6, 0, 0, 1, 0);
        x.asset(0, 130, 130, 0);
        dueBind("all are WORSE", x, 6, 6, 6, 6, 1, 0);
        x.put(11, 5);
        dueBind("the last QUARRELS", x, 6, 6, 6, 6, 1, 1);
        for (int k = 0; k < 5; k++) {
            x.put(2 * k, NONE);
        }
        dueBind("the last alone", x, 1, 1, 1, 1, 1, 1);
        x.put(10, NONE);
        x.vote(11, 1);
        dueBind("the last, of KIND 0", x, 1, 1, 1, 1, 0, 0);
        x.put(12, 5);
        dueBind("the first of the last is of KIND 0", x, 1, 1, 1, 1, 0, 1);
        x.put(0, 0);
        x.put(1, 0);
        dueBind("two QUARREL, and that is 1, too", x, 2, 2, 2, 2, 1, 1);
        RoomsDesk y = desk(1);
        y.asset(0, 5, 6, 0);
        y.claim(0, 0, 0, 100);
        y.put(0, 0);
        y.terms(0, 5, 0, 0);
        dueBind("WORSE at HIGH alone", y, 0, 1, 0, 1, 0, 0);
        sentence("s whether a CLASS whose first CLAIM is SECURED passes");
        RoomsDesk z = desk(1);
        z.claim(1, 0, 0, 5);
        z.claim(0, 0, 0, 5);
        z.put(0, 0);
        z.put(1, 1);
        z.vote(1, 1);
        law(z, "pass v bind s");
        dueBind("another CLASS passes", z, 1, 2, 0, 0, 0, 0);
        due("binds", z.binds(), 0);
        z.vote(0, 1);
        z.put(1, NONE);
        dueBind("the very first CLAIM", z, 1, 1, 0, 0, 1, 0);
        due("binds then", z.binds(), 1);
        z.put(0, 5);
        dueBind("in the last CLASS", z, 1, 1, 0, 0, 1, 0);
    }

    static void withoutLaw() {
        sentence("A CLASS PASSES if it has CLAIMS, and its E isn't 0 / Without a LAW nothing passes, nor is bound.");
        RoomsDesk x = room(new int[] {10}, new int[] {1});
        due("says", x.says(0), NO);
        due("says without CLAIMS", x.says(1), BAD);
        due("binds", x.binds(), NO);
        due("passes", x.passes(0), 0);
        due("y", x.name('y', NONE), 0);
        due("buy", x.buy(0, 1), NO);
        due("part", x.part(0), NO);
        law(x, "pass 1 bin");
        due("a text with a fault is none: says", x.says(0), NO);
        due("binds", x.binds(), NO);
        due("words", x.count(8), 0);
        law(x, "pass 1 bind 0");
        dueBeyond("says of class", k -> x.says(k), 0, 5, BAD);
        dueBeyond("passes of class", k -> x.passes(k), 0, 5, BAD);
        dueAll("says without CLAIMS, class", k -> x.says(k), BAD, 1, 5, NONE);
        dueAll("passes without CLAIMS, class", k -> x.passes(k), 0, 1, 5);
        due("says", x.says(0), 1);
        due("passes", x.passes(0), 1);
        due("bind 0", x.binds(), 0);
        law(x, "pass 0 bind -5");
        due("says 0", x.says(0), 0);
        due("passes not", x.passes(0), 0);
        due("binds below 0", x.binds(), -5);
        law(x, "pass -1 bind y");
        due("below 0 isn't 0", x.passes(0), 1);
        due("y", x.binds(), 1);
        due("a fault", law(x, "pass 0 bind 0 bind"), -114);
        due("THE LAW stays: pass", x.says(0), -1);
        due("THE LAW stays: bind", x.binds(), 1);
        due("a fault behind pass alone", law(x, "pass 0 bind"), -111);
        due("THE LAW stays: pass", x.says(0), -1);
    }

    public static void main(String[] args) {
        feedAtMost();
        trim();
        nextBytes();
        nextBehindSigns();
        nextOfParts();
        nextOfMarks();
        ends();
        blanks();
        words();
        tapeAtMost();
        signs();
        loosestFirst();
        wraps();
        letters();
        passNames();
        bindNames();
        withoutLaw();
        end("the edges of the law hold");
    }
}
