/** The edges that part 1 of the document and promises 1 to 15 name: days, firms, assets, claims. */
public final class FactsEdges extends Due {
    static void constants() {
        sentence("public static final int BAD = -1000000001, ..");
        due("BAD", BAD, -1000000001);
        due("NO", NO, -1000000002);
        due("FULL", FULL, -1000000003);
        due("NONE", NONE, -1000000005);
        due("NOTHING", NOTHING, -1000000011);
        due("INDEX", INDEX, -1000000013);
        due("SIZE", SIZE, -1000000014);
    }

    static void allCalls() {
        sentence("An object is used for at most 512 calls after it has been made");
        RoomsDesk x = desk(1);
        x.claim(0, 0, 0, 100);
        for (int call = 3; call <= 511; call++) {
            due("call " + call, x.vote(0, call % 3), call == 3 ? 0 : (call - 1) % 3);
        }
        due("the 512th call", x.told(0, 3), 511 % 3);
    }

    static void nothingYet() {
        sentence("Promise 1: No FIRMS.");
        RoomsDesk x = new RoomsDesk();
        for (int what = 0; what <= 8; what++) {
            due("count(" + what + ")", x.count(what), 0);
        }
        dueAll("an asset of firm", f -> x.asset(f, 1, 2, 0), BAD, 0, -1);
        dueAll("a claim on firm", f -> x.claim(0, f, 0, 1), BAD, 0, -1);
        dueAll("cash of firm", f -> x.cash(f, 0), BAD, 0, -1);
        dueAll("brings of asset", a -> x.brings(a, 0), BAD, 0, -1);
        dueAll("charge of asset", a -> x.charge(a, NONE), BAD, 0, -1);
        dueAll("claim", c -> x.isOf(c, 0), BAD, 0, -1);
        dueAll("claim", c -> x.amend(c, 1), BAD, 0, -1);
        dueAll("claim", c -> x.trade(c, 1), BAD, 0, -1);
        dueAll("claim", c -> x.guard(c, 0, 0), BAD, 0, -1);
        dueAll("claim", c -> x.dispute(c, NONE), BAD, 0, -1);
        dueAll("claim", c -> x.told(c, 0), BAD, 0, -1);
        dueAll("claim", c -> x.known(c, 0), BAD, 0, -1);
        dueAll("claim", c -> x.holder(c, 0), BAD, 0, -1);
        dueAll("claim", c -> x.gets(c, 0), BAD, 0, -1);
        dueAll("claim", c -> x.put(c, 0), BAD, 0, -1);
        dueAll("claim", c -> x.worth(c), BAD, 0, -1);
        dueAll("claim", c -> x.vote(c, 0), BAD, 0, -1);
    }

    static void daysAtMost() {
        sentence("DAYS 0 .. 400; TODAY is 0 at first. / days: n (1 .. 60) DAYS go: TODAY. BAD");
        RoomsDesk x = new RoomsDesk();
        due("TODAY at first", x.count(3), 0);
        dueBeyond("n", n -> x.days(n), 1, 60, BAD);
        due("refused calls let none go", x.count(3), 0);
        due("the least", x.days(1), 1);
        due("the most", x.days(60), 61);
        due("TODAY", x.count(3), 61);
        dueBeyond("n, later", n -> x.days(n), 1, 60, BAD);
    }

    static void lastDay() {
        sentence("days: BAD: also if it would be above 400.");
        RoomsDesk x = new RoomsDesk();
        for (int i = 1; i <= 6; i++) {
            x.days(60);
        }
        due("401", x.days(41), BAD);
        due("420", x.days(60), BAD);
        due("399", x.days(39), 399);
        due("401 by two", x.days(2), BAD);
        due("400", x.days(1), 400);
        due("401 by one", x.days(1), BAD);
        due("TODAY stays", x.count(3), 400);
        RoomsDesk y = new RoomsDesk();
        for (int i = 1; i <= 5; i++) {
            y.days(60);
        }
        y.days(40);
        due("sixty at once to 400", y.days(60), 400);
        RoomsDesk z = new RoomsDesk();
        for (int i = 1; i <= 5; i++) {
            z.days(60);
        }
        z.days(41);
        due("sixty at once to 401", z.days(60), BAD);
        due("fifty-nine at once to 400", z.days(59), 400);
    }

    static void firms() {
        sentence("FIRMS, 6 at most, numbered from 0. / firm: One more FIRM: its number. FULL.");
        RoomsDesk x = new RoomsDesk();
        for (int i = 0; i < 6; i++) {
            due("FIRMS ahead", x.count(0), i);
            due("firm()", x.firm(), i);
        }
        due("a seventh", x.firm(), FULL);
        due("an eighth", x.firm(), FULL);
        due("FIRMS", x.count(0), 6);
        due("the last one is there", x.cash(5, 0), 0);
        due("the seventh isn't", x.cash(6, 0), BAD);
    }

    static void assetArguments() {
        sentence("LOW and HIGH (0 .. 100000, LOW not above HIGH), MONTHS till they are sold (0 .. 24)");
        RoomsDesk x = desk(2);
        dueBeyond("firm", f -> x.asset(f, 1, 2, 0), 0, 1, BAD);
        dueBeyond("low", low -> x.asset(0, low, 100000, 0), 0, 100000, BAD);
        dueBeyond("high", high -> x.asset(0, 0, high, 0), 0, 100000, BAD);
        due("both too high", x.asset(0, 100001, 100001, 0), BAD);
        due("both too low", x.asset(0, -1, -1, 0), BAD);
        due("low above high by one", x.asset(0, 51, 50, 0), BAD);
        due("low above high 0", x.asset(0, 1, 0, 0), BAD);
        due("low 100000 above high", x.asset(0, 100000, 99999, 0), BAD);
        dueBeyond("months", m -> x.asset(0, 1, 2, m), 0, 24, BAD);
        due("none has come", x.count(1), 0);
        due("the least of all", x.asset(0, 0, 0, 0), 0);
        due("the most of all", x.asset(1, 100000, 100000, 24), 1);
        due("low is high", x.asset(1, 50, 50, 1), 2);
        due("low is 0, high the most", x.asset(0, 0, 100000, 23), 3);
        due("ASSETS", x.count(1), 4);
        due("the first brings", x.brings(0, 1), 0);
        due("the second brings", x.brings(1, 0), 100000);
    }

    static void assetsAtMost() {
        sentence("ASSETS, 16 at most / asset: One more ASSET, CHARGED to none: its number. BAD; FULL.");
        RoomsDesk x = desk(2);
        x.claim(1, 1, 0, 100000);
        for (int a = 0; a < 16; a++) {
            due("asset", x.asset(a % 2, a, 2 * a, a), a);
            due("charged to none", a % 2 == 1 ? x.charge(a, NONE) : NONE, NONE);
        }
        due("a seventeenth", x.asset(0, 1, 2, 0), FULL);
        due("BAD stands first", x.asset(2, 1, 2, 0), BAD);
        due("BAD stands first", x.asset(0, 3, 2, 0), BAD);
        due("ASSETS", x.count(1), 16);
        due("the last one is there", x.brings(15, 1), 30);
        due("the seventeenth isn't", x.brings(16, 0), BAD);
        due("each one's own FIRM: 0", x.cash(0, 0), 0 + 2 + 4 + 6 + 8 + 10 + 12 + 14);
        due("each one's own FIRM: 1 (its claim takes all)", x.gets(0, 0), 1 + 3 + 5 + 7 + 9 + 11 + 13 + 15);
    }

    static void charges() {
        sentence("CHARGED to one CLAIM of that FIRM that is SECURED, or to none.");
        RoomsDesk x = desk(2);
        for (int kind = 0; kind < 5; kind++) {
            x.claim(kind, 0, 0, 10);
        }
        x.claim(1, 1, 0, 10);
        x.claim(1, 0, 0, 10);
        x.asset(0, 8, 8, 0);
        x.asset(1, 8, 8, 0);
        dueAll("asset 0 to claim", c -> x.charge(0, c), NO, 0, 2, 3, 4, 5);
        dueAll("asset 1 to claim", c -> x.charge(1, c), NO, 0, 1, 2, 3, 4, 6);
        dueBeyond("asset", a -> x.charge(a, 1), 0, 1, BAD);
        dueAll("claim", c -> x.charge(0, c), BAD, -1, 7, LEAST, MOST, BAD, NONE - 1, NONE + 1);
        due("asset 2 to a claim that is not SECURED: BAD stands first", x.charge(2, 0), BAD);
        due("none has been charged", x.charge(0, 1), NONE);
        due("to another one", x.charge(0, 6), 1);
        due("one claim alone has it", x.gets(1, 0), 0);
        due("that one", x.gets(6, 0), 8);
        due("on the other firm", x.charge(1, 5), NONE);
        due("a refused one leaves it", x.charge(0, 0), NO);
        due("to none", x.charge(0, NONE), 6);
        due("to none again", x.charge(0, NONE), NONE);
        due("the other one stays", x.charge(1, NONE), 5);
    }

    static void brings() {
        sentence("What an ASSET BRINGS at a SIDE (0 LOW, 1 HIGH): that, less WAIT hundredths of it for each MONTH");
        RoomsDesk x = desk(1);
        x.asset(0, 100, 100000, 24);
        x.asset(0, 0, 100000, 0);
        x.asset(0, 99, 150, 1);
        dueBeyond("side", s -> x.brings(0, s), 0, 1, BAD);
        dueBeyond("asset", a -> x.brings(a, 0), 0, 2, BAD);
        int[][] due = {{100, 100000, 0, 100000, 99, 150}, {76, 76000, 0, 100000, 99, 149}, {52, 52000, 0, 100000, 98, 147},
            {28, 28000, 0, 100000, 97, 146}, {4, 4000, 0, 100000, 96, 144}};
        for (int wait = 0; wait <= 4; wait++) {
            x.rule(0, wait);
            for (int i = 0; i < 6; i++) {
                due("wait " + wait + ", asset " + i / 2 + ", side " + i % 2, x.brings(i / 2, i % 2), due[wait][i]);
            }
        }
        sentence("(the loss all together, cut)");
        RoomsDesk y = desk(1);
        y.asset(0, 150, 99, 0);
        y.asset(0, 33, 150, 3);
        y.rule(0, 1);
        // Month by month it would be three times 1; what is left, cut, would be 145.
        due("150 for three months", y.brings(0, 1), 146);
        due("a loss of 0.99", y.brings(0, 0), 33);
        y.asset(0, 34, 50, 3);
        due("a loss of 1.02", y.brings(1, 0), 33);
        y.rule(0, 2);
        due("a loss of 3 to the point", y.brings(1, 1), 47);
    }

    static void claimArguments() {
        sentence("a KIND 0 .. 4; on a FIRM; of a HOLDER (0 .. 9 people, or 10 and a FIRM, but not that on which it is)");
        RoomsDesk x = desk(3);
        dueBeyond("kind", k -> x.claim(k, 0, 0, 1), 0, 4, BAD);
        dueBeyond("firm", f -> x.claim(0, f, 0, 1), 0, 2, BAD);
        dueBeyond("holder", h -> x.claim(0, 0, h, 1), 0, 12, BAD);
        for (int f = 0; f < 3; f++) {
            due("its own firm " + f, x.claim(0, f, 10 + f, 1), BAD);
        }
        sentence("an AMOUNT 1 .. 100000");
        dueBeyond("amount", a -> x.claim(0, 0, 0, a), 1, 100000, BAD);
        due("none has come", x.count(2), 0);
        due("least kind, firm, holder, amount", x.claim(0, 0, 0, 1), 0);
        due("most kind, firm, people, amount", x.claim(4, 2, 9, 100000), 1);
        due("the first firm holds", x.claim(0, 1, 10, 1), 2);
        due("the last firm holds", x.claim(0, 1, 12, 1), 3);
        due("a firm holds a claim on the first", x.claim(0, 0, 11, 1), 4);
        due("held by firm 10 - 10", x.holder(2, 0), 10);
        due("held by people 9", x.holder(1, 0), 9);
        due("amount", x.known(1, 0), 100000);
        RoomsDesk y = desk(6);
        due("firm 5 holds", y.claim(0, 0, 15, 1), 0);
        due("firm 6 does not", y.claim(0, 0, 16, 1), BAD);
        due("people hold a claim on firm 5", y.claim(0, 5, 9, 1), 1);
        due("firm 5 holds no claim on itself", y.claim(0, 5, 15, 1), BAD);
        due("firm 4 holds one", y.claim(0, 5, 14, 1), 2);
    }

    static void claimsAtMost() {
        sentence("CLAIMS, 24 at most, numbered from 0 / claim: One more CLAIM: its number. BAD; FULL.");
        RoomsDesk x = desk(2);
        for (int c = 0; c < 24; c++) {
            due("CLAIMS ahead", x.count(2), c);
            due("the next isn't there", x.told(c, 0), BAD);
            due("claim", x.claim(c % 5, c % 2, c % 10, 1 + c), c);
            due("in no CLASS", x.told(c, 2), NONE);
            due("no VOTE", x.told(c, 3), 0);
            due("none GUARDS it", x.told(c, 5), 0);
        }
        due("a 25th", x.claim(0, 0, 0, 1), FULL);
        due("BAD stands first", x.claim(5, 0, 0, 1), BAD);
        due("BAD stands first", x.claim(0, 2, 0, 1), BAD);
        due("BAD stands first", x.claim(0, 0, 10, 1), BAD);
        due("BAD stands first", x.claim(0, 0, 0, 0), BAD);
        due("CLAIMS", x.count(2), 24);
        due("the last one is there", x.known(23, 0), 24);
        due("the 25th isn't", x.known(24, 0), BAD);
        for (int c = 0; c < 24; c++) {
            due("KIND", x.told(c, 0), c % 5);
            due("FIRM", x.told(c, 1), c % 2);
        }
    }

    static void kinds() {
        sentence("0 CLAIM, 1 SECURED, 2 FIRST, 3 AFTER, 4 NEW, under FIRST (all are CLAIMS) / isOf: BAD");
        RoomsDesk x = desk(1);
        String[] due = {"10000", "11000", "10100", "10010", "10101"};
        for (int kind = 0; kind < 5; kind++) {
            int claim = x.claim(kind, 0, 0, 1);
            for (int of = 0; of < 5; of++) {
                due("kind " + kind + " of " + of, x.isOf(claim, of), due[kind].charAt(of) - '0');
            }
            dueBeyond("kind", k -> x.isOf(claim, k), 0, 4, BAD);
        }
        dueBeyond("claim", c -> x.isOf(c, 0), 0, 4, BAD);
    }

    static void amended() {
        sentence("An AMOUNT may be AMENDED on a day, to 0 .. 100000 / amend: the AMOUNT it had. BAD; FULL: 8 times.");
        RoomsDesk x = desk(1);
        x.claim(0, 0, 0, 70);
        x.claim(0, 0, 0, 5);
        dueBeyond("amount", a -> x.amend(0, a), 0, 100000, BAD);
        dueBeyond("claim", c -> x.amend(c, 5), 0, 1, BAD);
        int[] amounts = {0, 100000, 1, 1, 0, 99999, 3, 4};
        int had = 70;
        for (int i = 0; i < 8; i++) {
            x.days(i % 2 + 1);
            due("refused ones do not count", x.amend(0, -1), BAD);
            due("time " + (i + 1), x.amend(0, amounts[i]), had);
            had = amounts[i];
        }
        due("a ninth", x.amend(0, 5), FULL);
        due("a ninth, with what it has", x.amend(0, 4), FULL);
        due("BAD stands first", x.amend(0, -1), BAD);
        due("BAD stands first", x.amend(0, 100001), BAD);
        due("AMOUNT", x.known(0, x.count(3)), 4);
        due("another one was not", x.amend(1, 6), 5);
        x.days(1);
        due("a ninth on another day", x.amend(0, 5), FULL);
    }

    static void known() {
        sentence("AS KNOWN on day k it is as told on k or the latest day ahead of it (on one day the latest; with its coming, too;"
                + " 0 ahead of that)");
        RoomsDesk x = desk(1);
        x.claim(0, 0, 0, 9);
        x.days(10);
        x.claim(0, 0, 0, 50);
        due("with its coming", x.known(1, 10), 50);
        due("the day ahead of its coming", x.known(1, 9), 0);
        due("day 0", x.known(1, 0), 0);
        x.amend(1, 40);
        x.amend(1, 41);
        due("the latest of the day of its coming", x.known(1, 10), 41);
        due("still 0 ahead", x.known(1, 9), 0);
        x.days(5);
        x.amend(1, 0);
        x.days(5);
        x.amend(1, 60);
        x.amend(1, 61);
        x.amend(1, 62);
        int[] days = {10, 11, 14, 15, 16, 19, 20}, due = {41, 41, 41, 0, 0, 0, 62};
        for (int i = 0; i < days.length; i++) {
            due("day " + days[i], x.known(1, days[i]), due[i]);
        }
        due("one never amended, on day 0", x.known(0, 0), 9);
        due("one never amended, today", x.known(0, 20), 9);
        sentence("known: BAD: claim, day (0 .. TODAY).");
        dueBeyond("day", d -> x.known(1, d), 0, 20, BAD);
        dueBeyond("claim", c -> x.known(c, 0), 0, 1, BAD);
        RoomsDesk y = desk(1);
        y.claim(0, 0, 0, 9);
        due("TODAY is 0", y.known(0, 0), 9);
        dueBeyond("day", d -> y.known(0, d), 0, 0, BAD);
    }

    static void traded() {
        sentence("A CLAIM of people may be TRADED to other people / trade: BAD: claim, holder (0 .. 9); NO; FULL: 8 times.");
        RoomsDesk x = desk(2);
        x.claim(0, 0, 3, 70);
        x.claim(0, 0, 11, 70);
        x.claim(0, 0, 4, 70);
        dueBeyond("holder", h -> x.trade(0, h), 0, 9, BAD);
        dueAll("a firm as holder", h -> x.trade(0, h), BAD, 10, 11, 12);
        dueBeyond("claim", c -> x.trade(c, 1), 0, 2, BAD);
        dueAll("a firm holds it; to", h -> x.trade(1, h), NO, 0, 1, 9);
        RoomsDesk held = desk(6);
        held.claim(0, 3, 10, 70);
        held.claim(0, 3, 15, 70);
        held.claim(0, 3, 9, 70);
        dueAll("the first firm holds it; to", h -> held.trade(0, h), NO, 0, 9);
        dueAll("the last firm holds it; to", h -> held.trade(1, h), NO, 0, 5, 9);
        due("the last people hold it", held.trade(2, 0), 9);
        due("the first people hold it", held.trade(2, 9), 0);
        due("BAD stands first", x.trade(1, 10), BAD);
        due("they do", x.trade(0, 3), NO);
        int[] holders = {0, 9, 8, 0, 1, 2, 3, 4};
        int had = 3;
        for (int i = 0; i < 8; i++) {
            x.days(i % 2 + 1);
            due("refused ones do not count", x.trade(0, had), NO);
            due("time " + (i + 1), x.trade(0, holders[i]), had);
            had = holders[i];
        }
        due("a ninth", x.trade(0, 5), FULL);
        due("NO stands ahead of FULL", x.trade(0, 4), NO);
        due("BAD stands first", x.trade(0, -1), BAD);
        due("HOLDER", x.holder(0, x.count(3)), 4);
        due("another one was not", x.trade(2, 6), 4);
        due("a firm still holds the other", x.holder(1, x.count(3)), 11);
        sentence("VOTES: told anew when it is TRADED: 0");
        x.vote(0, 2);
        x.trade(0, 5);
        due("a refused one leaves it", x.told(0, 3), 2);
        x.vote(2, 1);
        x.trade(2, 6);
        due("to them that have it", x.told(2, 3), 1);
        x.trade(2, 7);
        due("VOTE", x.told(2, 3), 0);
        due("another one's VOTE", x.told(0, 3), 2);
    }

    static void holders() {
        sentence("its HOLDER AS OF a day likewise (the one with which it came ahead of its coming, too)");
        RoomsDesk x = desk(2);
        x.claim(0, 0, 9, 9);
        x.days(10);
        x.claim(0, 0, 1, 50);
        x.claim(0, 0, 11, 50);
        due("ahead of its coming", x.holder(1, 9), 1);
        due("on day 0", x.holder(1, 0), 1);
        due("with its coming", x.holder(1, 10), 1);
        due("a firm, ahead of its coming", x.holder(2, 0), 11);
        x.trade(1, 2);
        x.trade(1, 3);
        due("the latest of the day of its coming", x.holder(1, 10), 3);
        due("ahead of its coming the one with which it came", x.holder(1, 9), 1);
        x.days(5);
        x.trade(1, 4);
        x.days(5);
        x.trade(1, 5);
        x.trade(1, 1);
        x.trade(1, 0);
        int[] days = {0, 9, 10, 14, 15, 19, 20}, due = {1, 1, 3, 3, 4, 4, 0};
        for (int i = 0; i < days.length; i++) {
            due("day " + days[i], x.holder(1, days[i]), due[i]);
        }
        due("one never traded", x.holder(0, 20), 9);
        sentence("holder: BAD likewise.");
        dueBeyond("day", d -> x.holder(1, d), 0, 20, BAD);
        dueBeyond("claim", c -> x.holder(c, 0), 0, 2, BAD);
        RoomsDesk y = desk(1);
        y.claim(0, 0, 8, 9);
        due("TODAY is 0", y.holder(0, 0), 8);
        dueBeyond("day", d -> y.holder(0, d), 0, 0, BAD);
    }

    static void guards() {
        sentence("GUARDED may a CLAIM be by FIRMS other than that on which it is, and other than its HOLDER.");
        RoomsDesk x = desk(6);
        x.claim(0, 0, 15, 5);
        x.claim(4, 5, 0, 5);
        x.claim(0, 3, 2, 5);
        dueBeyond("claim", c -> x.guard(c, 1, 1), 0, 2, BAD);
        dueBeyond("firm", f -> x.guard(0, f, 1), 0, 5, BAD);
        dueBeyond("on", on -> x.guard(0, 1, on), 0, 1, BAD);
        due("BAD stands ahead of NO", x.guard(0, 0, 2), BAD);
        due("its firm is 0", x.guard(0, 0, 1), NO);
        due("its firm is 0, off", x.guard(0, 0, 0), NO);
        due("its holder is firm 5", x.guard(0, 5, 1), NO);
        due("its holder is firm 5, off", x.guard(0, 5, 0), NO);
        due("its firm is 5", x.guard(1, 5, 1), NO);
        due("people 2 are no firm", x.guard(2, 2, 1), 0);
        for (int f = 0; f < 6; f++) {
            due("claim 0, firm " + f, x.guard(0, f, 1), f == 0 || f == 5 ? NO : 0);
            due("claim 1, firm " + f, x.guard(1, f, 1), f == 5 ? NO : 0);
        }
        sentence("told: 5 FIRMS that GUARD it, as bits");
        due("1 to 4", x.told(0, 5), 2 + 4 + 8 + 16);
        due("0 to 4", x.told(1, 5), 1 + 2 + 4 + 8 + 16);
        due("2", x.told(2, 5), 4);
        sentence("guard: A FIRM GUARDS a CLAIM (on 1) or not (0): what it was.");
        due("on again", x.guard(0, 4, 1), 1);
        due("off", x.guard(0, 4, 0), 1);
        due("off again", x.guard(0, 4, 0), 0);
        due("the others stay", x.told(0, 5), 2 + 4 + 8);
        due("the other claim's, too", x.told(1, 5), 31);
    }

    static void disputes() {
        sentence("dispute: with a sum 0 .. 100000 (NONE: it is not): what it was (NONE). BAD.");
        RoomsDesk x = desk(1);
        x.claim(0, 0, 0, 5);
        x.claim(0, 0, 0, 6);
        dueAll("sum", s -> x.dispute(0, s), BAD, -1, 100001, LEAST, MOST, BAD, NONE - 1, NONE + 1);
        dueBeyond("claim", c -> x.dispute(c, 1), 0, 1, BAD);
        dueBeyond("claim, no more", c -> x.dispute(c, NONE), 0, 1, BAD);
        due("it was not", x.dispute(0, 0), NONE);
        due("VALUE 0", x.told(0, 4), 0);
        due("0 was the sum", x.dispute(0, 100000), 0);
        due("VALUE", x.told(0, 4), 100000);
        due("no more", x.dispute(0, NONE), 100000);
        due("VALUE as known", x.told(0, 4), 5);
        due("no more again", x.dispute(0, NONE), NONE);
        due("the other one is not", x.told(1, 4), 6);
        sentence("DISPUTED may it be: then it votes with a told sum.");
        x.dispute(1, 7);
        x.amend(1, 9);
        due("AMOUNT", x.known(1, 0), 9);
        due("VALUE", x.told(1, 4), 7);
    }

    static void told() {
        sentence("told: what 0 KIND, 1 FIRM, 2 CLASS (NONE), 3 VOTE, 4 VALUE, 5 FIRMS that GUARD it. BAD.");
        RoomsDesk x = desk(2);
        x.claim(3, 1, 0, 50);
        int[] first = {3, 1, NONE, 0, 50, 0}, then = {3, 1, 5, 2, 0, 1};
        for (int what = 0; what < 6; what++) {
            due("at first, what " + what, x.told(0, what), first[what]);
        }
        x.put(0, 5);
        x.vote(0, 2);
        x.amend(0, 0);
        x.guard(0, 0, 1);
        for (int what = 0; what < 6; what++) {
            due("then, what " + what, x.told(0, what), then[what]);
        }
        dueBeyond("what", w -> x.told(0, w), 0, 5, BAD);
        for (int what = 0; what < 6; what++) {
            int w = what;
            dueBeyond("what " + what + " of claim", c -> x.told(c, w), 0, 0, BAD);
        }
    }

    public static void main(String[] args) {
        constants();
        allCalls();
        nothingYet();
        daysAtMost();
        lastDay();
        firms();
        assetArguments();
        assetsAtMost();
        charges();
        brings();
        claimArguments();
        claimsAtMost();
        kinds();
        amended();
        known();
        traded();
        holders();
        guards();
        disputes();
        told();
        end("the edges of firms, assets and claims hold");
    }
}
