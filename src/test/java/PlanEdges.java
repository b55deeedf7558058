/** The edges that part 3 of the document and promises 23 to 31 name: classes, the plan, votes. */
public final class PlanEdges extends Due {
    static void put() {
        sentence("CLASSES 0 .. 5 (a CLAIM is in one, or in none, as at first) / put: in which it was (NONE). BAD.");
        RoomsDesk x = desk(1);
        x.claim(0, 0, 0, 5);
        x.claim(0, 0, 0, 5);
        dueBeyond("claim", c -> x.put(c, 0), 0, 1, BAD);
        dueBeyond("claim, into none", c -> x.put(c, NONE), 0, 1, BAD);
        dueAll("class", k -> x.put(0, k), BAD, -1, 6, LEAST, MOST, BAD, NONE - 1, NONE + 1);
        due("in none at first", x.put(0, NONE), NONE);
        int was = NONE;
        for (int aClass = 0; aClass < 6; aClass++) {
            due("into " + aClass, x.put(0, aClass), was);
            due("CLASS", x.told(0, 2), aClass);
            was = aClass;
        }
        due("into the same", x.put(0, 5), 5);
        due("one is in none", x.count(7), 1);
        due("into none", x.put(0, NONE), 5);
        due("into none again", x.put(0, NONE), NONE);
        due("two are in none", x.count(7), 2);
        due("the other one", x.told(1, 2), NONE);
    }

    static void quarrels() {
        sentence("A CLASS QUARRELS, if two of its CLAIMS are not ALIKE / quarrel: the first pair; NONE. BAD.");
        RoomsDesk x = desk(2);
        dueBeyond("class", k -> x.quarrel(k), 0, 5, BAD);
        dueAll("without CLAIMS: class", k -> x.quarrel(k), NONE, 0, 5);
        int[] kinds = {0, 1, 2, 3, 4};
        for (int i = 0; i < 24; i++) {
            x.claim(i == 0 ? 3 : i >= 22 ? kinds[i - 22] : 0, i == 10 ? 1 : 0, 0, 5);
        }
        x.put(0, 0);
        due("one CLAIM", x.quarrel(0), NONE);
        x.put(23, 0);
        due("the first and the last", x.quarrel(0), 23);
        x.put(22, 0);
        due("the least greater one", x.quarrel(0), 22);
        x.put(1, 0);
        due("the two first", x.quarrel(0), 1);
        x.put(0, NONE);
        due("the least lesser one, and the last", x.quarrel(0), 123);
        x.put(1, NONE);
        due("the two last", x.quarrel(0), 2223);
        x.put(23, NONE);
        x.put(9, 0);
        x.put(11, 0);
        due("three ALIKE", x.quarrel(0), NONE);
        x.put(10, 0);
        due("on another FIRM", x.quarrel(0), 910);
        x.put(9, 5);
        due("the lesser of the second pair", x.quarrel(0), 1011);
        due("one alone in the last CLASS", x.quarrel(5), NONE);
        sentence("quarrel: .. (of CLAIMS in no CLASS none)");
        due("class NONE", x.quarrel(NONE), BAD);
    }

    static void alike() {
        sentence("ALIKE are two CLAIMS on one FIRM, of the very same KIND, and, if SECURED, with just the same ASSETS CHARGED.");
        for (int one = 0; one < 5; one++) {
            for (int other = 0; other < 5; other++) {
                RoomsDesk x = desk(2);
                x.claim(one, 0, 0, 5);
                x.claim(other, 0, 9, 99);
                x.put(0, 3);
                x.put(1, 3);
                due("kinds " + one + ", " + other, x.quarrel(3), one == other ? NONE : 1);
                RoomsDesk y = desk(2);
                y.claim(one, 0, 1, 5);
                y.claim(other, 1, 1, 5);
                y.put(0, 3);
                y.put(1, 3);
                due("kinds " + one + ", " + other + " on two firms", y.quarrel(3), 1);
            }
        }
        RoomsDesk x = desk(1);
        x.asset(0, 1, 1, 0);
        x.asset(0, 1, 1, 0);
        for (int c = 0; c < 3; c++) {
            x.claim(1, 0, c, 5);
            x.put(c, c == 2 ? NONE : 4);
        }
        due("none has ASSETS", x.quarrel(4), NONE);
        x.charge(1, 2);
        due("one of no CLASS has", x.quarrel(4), NONE);
        x.charge(0, 0);
        due("the first has", x.quarrel(4), 1);
        x.charge(0, 1);
        due("the second has", x.quarrel(4), 1);
        x.charge(1, 0);
        due("each has one", x.quarrel(4), 1);
        x.charge(0, NONE);
        x.charge(1, NONE);
        due("none has any more", x.quarrel(4), NONE);
    }

    static void terms() {
        sentence("TERMS for each CLASS: NOW, LATER 0 .. 100 (hundredths), MONTHS 0 .. 60 (all 0 at first) / terms: 0. BAD.");
        RoomsDesk x = desk(1);
        for (int k = 0; k < 6; k++) {
            x.claim(0, 0, 0, 1000);
            x.put(k, k);
            due("at first", x.worth(k), 0);
        }
        dueBeyond("class", k -> x.terms(k, 1, 1, 1), 0, 5, BAD);
        dueBeyond("now", n -> x.terms(0, n, 1, 1), 0, 100, BAD);
        dueBeyond("later", l -> x.terms(0, 1, l, 1), 0, 100, BAD);
        dueBeyond("months", m -> x.terms(0, 1, 1, m), 0, 60, BAD);
        due("still as at first", x.worth(0), 0);
        due("now the most", x.terms(0, 100, 0, 0), 0);
        due("worth", x.worth(0), 1000);
        due("later the most", x.terms(0, 0, 100, 0), 0);
        due("worth", x.worth(0), 1000);
        due("all the most", x.terms(5, 100, 100, 60), 0);
        due("worth", x.worth(5), 1000 + 1000 * 720 / 1200);
        due("a refused one changes nothing", x.terms(5, 0, 0, 61), BAD);
        due("worth", x.worth(5), 1600);
        due("months the most", x.terms(1, 0, 100, 60), 0);
        due("worth", x.worth(1), 600);
        due("all the least", x.terms(5, 0, 0, 0), 0);
        due("worth", x.worth(5), 0);
        due("each CLASS its own", x.worth(0) + x.worth(2) + x.worth(4), 1000);
    }

    static void worth() {
        sentence("WORTH: AMOUNT times NOW / 100, and (AMOUNT times LATER / 100) times (1200 less OFF times MONTHS) / 1200, each cut");
        RoomsDesk x = desk(1);
        x.claim(0, 0, 0, 99);
        x.claim(0, 0, 0, 1);
        x.claim(0, 0, 0, 100000);
        due("in no CLASS", x.worth(2), 0);
        x.terms(0, 99, 99, 1);
        due("in no CLASS with TERMS", x.worth(0), 0);
        for (int c = 0; c < 3; c++) {
            x.put(c, 0);
        }
        // 98.01 and 98.01, of this 97.34; 0.99 twice; 99000 and 98340.
        int[] due = {98 + 97, 0, 99000 + 98340};
        for (int c = 0; c < 3; c++) {
            due("claim " + c, x.worth(c), due[c]);
        }
        dueBeyond("claim", c -> x.worth(c), 0, 2, BAD);
        x.terms(0, 100, 100, 0);
        due("1 of 1, twice", x.worth(1), 2);
        x.terms(0, 0, 100, 1);
        due("less than 1 of 1", x.worth(1), 0);
        sentence("OFF 0 .. 20 (8 at first)");
        x.terms(0, 0, 100, 60);
        int[] offs = {0, 1, 8, 19, 20}, left = {1200, 1140, 720, 60, 0};
        for (int i = 0; i < offs.length; i++) {
            x.rule(1, offs[i]);
            due("OFF " + offs[i] + " of 100000", x.worth(2), 100000 * left[i] / 1200);
            due("OFF " + offs[i] + " of 99", x.worth(0), 99 * left[i] / 1200);
            due("OFF " + offs[i] + " of 1", x.worth(1), offs[i] == 0 ? 1 : 0);
        }
        sentence("AMOUNTS AS KNOWN TODAY");
        x.rule(1, 0);
        x.days(1);
        x.amend(2, 0);
        due("amended to 0", x.worth(2), 0);
        x.record(1);
        x.amend(2, 7);
        x.dispute(2, 100);
        due("neither a told sum nor THE RECORD DAY", x.worth(2), 7);
        x.put(2, NONE);
        due("in no CLASS again", x.worth(2), 0);
    }

    static void worse() {
        sentence("WORSE is a CLASS at a SIDE, if one of its CLAIMS would get more .. than its WORTH / worse: 0 without CLAIMS. BAD.");
        RoomsDesk x = desk(1);
        x.asset(0, 50, 90, 0);
        x.claim(4, 0, 0, 20);
        x.claim(2, 0, 0, 100);
        dueBeyond("class", k -> x.worse(k, 0), 0, 5, BAD);
        dueBeyond("side", s -> x.worse(0, s), 0, 1, BAD);
        dueAll("without CLAIMS: class", k -> x.worse(k, 0) + x.worse(k, 1), 0, 0, 5);
        x.put(1, 5);
        // The second claim gets 30 at low, 70 at high.
        int[] now = {29, 30, 31, 69, 70, 71}, low = {1, 0, 0, 0, 0, 0}, high = {1, 1, 1, 1, 0, 0};
        for (int i = 0; i < now.length; i++) {
            x.terms(5, now[i], 0, 0);
            due("worth " + now[i] + " at low", x.worse(5, 0), low[i]);
            due("worth " + now[i] + " at high", x.worse(5, 1), high[i]);
        }
        due("the other class", x.worse(0, 0), 0);
        x.put(0, 5);
        due("one that gets all of 20, worth 14", x.worse(5, 0), 1);
        x.terms(5, 100, 0, 0);
        due("none gets more", x.worse(5, 1), 0);
    }

    static void vote() {
        sentence("VOTES: of each CLAIM 0 none, 1 yes, 2 no / vote: what it did. BAD.");
        RoomsDesk x = desk(1);
        x.claim(0, 0, 0, 5);
        x.claim(0, 0, 0, 5);
        dueBeyond("claim", c -> x.vote(c, 1), 0, 1, BAD);
        dueBeyond("v", v -> x.vote(0, v), 0, 2, BAD);
        due("none at first", x.vote(0, 2), 0);
        due("no", x.vote(0, 1), 2);
        due("yes", x.vote(0, 1), 1);
        due("refused", x.vote(0, 3), BAD);
        due("yes still", x.vote(0, 0), 1);
        due("none", x.vote(0, 0), 0);
        due("the other one", x.told(1, 3), 0);
    }

    static void votesOfSheet() {
        sentence("votes: place by place (what is not 0 .. 2 counts as 0; those without a place stay). BAD; NOTHING.");
        RoomsDesk x = desk(1);
        dueBeyond("sheet", s -> x.votes(s), 0, 1, BAD);
        dueAll("missing: sheet", s -> x.votes(s), NOTHING, 0, 1);
        x.sheet(0, 24);
        x.mark(0, 0, 1);
        due("without CLAIMS", x.votes(0), 0);
        due("the other one is missing", x.votes(1), NOTHING);
        x.claim(0, 0, 0, 1);
        due("what was told ahead of its coming", x.told(0, 3), 0);
        for (int c = 1; c < 24; c++) {
            x.claim(0, 0, 0, 1);
        }
        int[] marks = {-1, 0, 1, 2, 3, 127, -128, 255, 256, 257, 258, 259}, due = {0, 0, 1, 2, 0, 0, 0, 0, 0, 1, 2, 0};
        for (int c = 0; c < 24; c++) {
            x.vote(c, 2 - c % 2);
            x.mark(0, c, marks[c % marks.length]);
        }
        due("all CLAIMS have a place", x.votes(0), 24);
        for (int c = 0; c < 24; c++) {
            due("vote " + c, x.told(c, 3), due[c % due.length]);
        }
        x.sheet(1, 0);
        due("a sheet without places", x.votes(1), 0);
        due("votes stay", x.told(2, 3), 1);
        x.sheet(1, 3);
        due("three places", x.votes(1), 3);
        int[] then = {0, 0, 0, 2};
        for (int c = 0; c < 4; c++) {
            due("then vote " + c, x.told(c, 3), then[c]);
        }
        x.mark(1, 2, 2);
        due("the last place", x.votes(1), 3);
        due("its vote", x.told(2, 3), 2);
        RoomsDesk y = desk(1);
        for (int c = 0; c < 3; c++) {
            y.claim(0, 0, 0, 1);
        }
        int[] places = {2, 3, 4, 24};
        for (int n : places) {
            y.sheet(0, n);
            due(n + " places for three CLAIMS", y.votes(0), Math.min(3, n));
        }
    }

    static void record() {
        sentence("THE RECORD DAY (0 at first, TODAY at most) / record: what it was. BAD: d is not 0 .. TODAY.");
        RoomsDesk x = desk(1);
        due("at first", x.count(6), 0);
        dueBeyond("d", d -> x.record(d), 0, 0, BAD);
        due("TODAY is 0", x.record(0), 0);
        x.days(60);
        due("it does not go with the days", x.count(6), 0);
        dueBeyond("d", d -> x.record(d), 0, 60, BAD);
        due("TODAY", x.record(60), 0);
        due("back to 0", x.record(0), 60);
        due("the day ahead of TODAY", x.record(59), 0);
        due("a refused one", x.record(61), BAD);
        due("stays", x.count(6), 59);
        sentence("VALUE of a CLAIM is its AMOUNT AS KNOWN then, or, if DISPUTED, the told sum");
        x.claim(0, 0, 0, 30);
        due("the day ahead of its coming", x.told(0, 4), 0);
        x.record(60);
        due("the day of its coming", x.told(0, 4), 30);
        x.amend(0, 31);
        due("the latest of that day", x.told(0, 4), 31);
        x.days(1);
        x.amend(0, 32);
        due("not as known today", x.told(0, 4), 31);
        x.record(61);
        due("as known today", x.told(0, 4), 32);
        x.dispute(0, 0);
        due("the told sum", x.told(0, 4), 0);
        x.record(0);
        x.dispute(0, 33);
        due("the told sum ahead of its coming, too", x.told(0, 4), 33);
        RoomsDesk y = desk(1);
        for (int i = 0; i < 6; i++) {
            y.days(60);
        }
        y.days(40);
        due("the last day", y.record(400), 0);
        due("behind it", y.record(401), BAD);
    }

    static void rule() {
        sentence("WAIT (0 .. 4; 0 at first), OFF 0 .. 20 (8 at first) / rule: what it was: 0 WAIT, 1 OFF. BAD.");
        RoomsDesk x = desk(1);
        dueBeyond("which", w -> x.rule(w, 0), 0, 1, BAD);
        dueBeyond("WAIT", v -> x.rule(0, v), 0, 4, BAD);
        dueBeyond("OFF", v -> x.rule(1, v), 0, 20, BAD);
        due("WAIT 8 is none", x.rule(0, 8), BAD);
        due("WAIT at first", x.rule(0, 4), 0);
        due("WAIT the most", x.rule(0, 0), 4);
        due("WAIT the least", x.rule(0, 3), 0);
        due("OFF at first", x.rule(1, 20), 8);
        due("OFF the most", x.rule(1, 0), 20);
        due("OFF the least", x.rule(1, 5), 0);
        due("refused", x.rule(0, 5), BAD);
        due("refused", x.rule(1, 21), BAD);
        due("WAIT stays", x.rule(0, 3), 3);
        due("OFF stays", x.rule(1, 5), 5);
    }

    public static void main(String[] args) {
        put();
        quarrels();
        alike();
        terms();
        worth();
        worse();
        vote();
        votesOfSheet();
        record();
        rule();
        end("the edges of classes, the plan and votes hold");
    }
}
