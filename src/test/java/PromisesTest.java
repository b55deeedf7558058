/** For each promise of the document ordinary calls, the edges that it names, and wrong ones. */
public final class PromisesTest extends Due {
    static void due(int promise, String what, int got, int want) {
        sentence("promise " + promise);
        due(what, got, want);
    }

    static void newObject() {
        RoomsDesk x = new RoomsDesk();
        int[] due = {0, 0, 0, 0, 0, 0, 0, 0, 0};
        for (int what = 0; what < due.length; what++) {
            due(1, "count(" + what + ")", x.count(what), due[what]);
        }
        due(1, "cash of no firm", x.cash(0, 0), BAD);
        due(1, "wind(0)", x.wind(0), 0);
        due(1, "the round in which nothing is paid", x.ends(0, 0), 1);
        due(1, "WAIT at first", x.rule(0, 0), 0);
        due(1, "OFF at first", x.rule(1, 0), 8);
    }

    static void firm() {
        RoomsDesk x = new RoomsDesk();
        for (int i = 0; i < 6; i++) {
            due(2, "firm()", x.firm(), i);
        }
        due(2, "a seventh", x.firm(), FULL);
        due(2, "still six", x.count(0), 6);
    }

    static void asset() {
        RoomsDesk x = desk(2);
        due(3, "firm -1", x.asset(-1, 0, 0, 0), BAD);
        due(3, "firm 2", x.asset(2, 0, 0, 0), BAD);
        due(3, "low -1", x.asset(0, -1, 5, 0), BAD);
        due(3, "low above high", x.asset(0, 6, 5, 0), BAD);
        due(3, "high 100001", x.asset(0, 0, 100001, 0), BAD);
        due(3, "months -1", x.asset(0, 0, 1, -1), BAD);
        due(3, "months 25", x.asset(0, 0, 1, 25), BAD);
        due(3, "the least", x.asset(0, 0, 0, 0), 0);
        due(3, "the most", x.asset(1, 100000, 100000, 24), 1);
        due(3, "charged to none", x.charge(1, NONE), NONE);
        for (int i = 2; i < 16; i++) {
            due(3, "asset", x.asset(0, i, i + 1, i), i);
        }
        due(3, "a seventeenth", x.asset(0, 1, 1, 0), FULL);
        due(3, "BAD ahead of FULL", x.asset(0, 2, 1, 0), BAD);
    }

    static void charge() {
        RoomsDesk x = desk(2);
        x.asset(0, 10, 20, 0);
        int plain = x.claim(0, 0, 1, 5), secured = x.claim(1, 0, 1, 5), far = x.claim(1, 1, 1, 5), next = x.claim(1, 0, 1, 5);
        due(4, "asset 1", x.charge(1, secured), BAD);
        due(4, "asset -1", x.charge(-1, NONE), BAD);
        due(4, "claim 4", x.charge(0, 4), BAD);
        due(4, "claim -1", x.charge(0, -1), BAD);
        due(4, "not secured", x.charge(0, plain), NO);
        due(4, "on another firm", x.charge(0, far), NO);
        due(4, "first", x.charge(0, secured), NONE);
        due(4, "next", x.charge(0, next), secured);
        due(4, "refused ones change nothing", x.charge(0, plain), NO);
        due(4, "to none", x.charge(0, NONE), next);
        due(4, "again", x.charge(0, NONE), NONE);
    }

    static void brings() {
        RoomsDesk x = desk(1);
        x.asset(0, 99, 100000, 7);
        due(5, "low", x.brings(0, 0), 99);
        due(5, "high", x.brings(0, 1), 100000);
        x.rule(0, 3);
        due(5, "the loss is cut", x.brings(0, 0), 79);
        due(5, "high less", x.brings(0, 1), 79000);
        due(5, "side 2", x.brings(0, 2), BAD);
        due(5, "side -1", x.brings(0, -1), BAD);
        due(5, "asset 1", x.brings(1, 0), BAD);
        x.asset(0, 1, 100, 24);
        x.rule(0, 4);
        due(5, "the most loss", x.brings(1, 1), 4);
        due(5, "a cut loss of nothing", x.brings(1, 0), 1);
    }

    static void claim() {
        RoomsDesk x = desk(2);
        due(6, "kind 5", x.claim(5, 0, 0, 1), BAD);
        due(6, "kind -1", x.claim(-1, 0, 0, 1), BAD);
        due(6, "firm 2", x.claim(0, 2, 0, 1), BAD);
        due(6, "holder -1", x.claim(0, 0, -1, 1), BAD);
        due(6, "its own firm holds", x.claim(0, 0, 10, 1), BAD);
        due(6, "no such firm holds", x.claim(0, 0, 12, 1), BAD);
        due(6, "holder most", x.claim(0, 0, MOST, 1), BAD);
        due(6, "amount 0", x.claim(0, 0, 0, 0), BAD);
        due(6, "amount 100001", x.claim(0, 0, 0, 100001), BAD);
        due(6, "people", x.claim(4, 0, 9, 100000), 0);
        due(6, "a firm", x.claim(0, 1, 10, 1), 1);
        due(6, "in no class", x.told(0, 2), NONE);
        due(6, "no vote", x.told(0, 3), 0);
        for (int i = 2; i < 24; i++) {
            due(6, "claim", x.claim(0, 0, 0, i), i);
        }
        due(6, "a 25th", x.claim(0, 0, 0, 1), FULL);
        due(6, "BAD ahead of FULL", x.claim(0, 0, 0, 0), BAD);
    }

    static void isOf() {
        RoomsDesk x = desk(1);
        int[][] due = {{1, 0, 0, 0, 0}, {1, 1, 0, 0, 0}, {1, 0, 1, 0, 0}, {1, 0, 0, 1, 0}, {1, 0, 1, 0, 1}};
        for (int kind = 0; kind < 5; kind++) {
            x.claim(kind, 0, 0, 1);
            for (int of = 0; of < 5; of++) {
                due(7, "kind " + kind + " of " + of, x.isOf(kind, of), due[kind][of]);
            }
        }
        due(7, "claim 5", x.isOf(5, 0), BAD);
        due(7, "kind 5", x.isOf(0, 5), BAD);
        due(7, "kind -1", x.isOf(0, -1), BAD);
    }

    static void amend() {
        RoomsDesk x = desk(1);
        x.claim(0, 0, 0, 70);
        due(8, "claim 1", x.amend(1, 5), BAD);
        due(8, "amount -1", x.amend(0, -1), BAD);
        due(8, "amount 100001", x.amend(0, 100001), BAD);
        due(8, "first", x.amend(0, 0), 70);
        x.days(1);
        for (int i = 2; i <= 8; i++) {
            due(8, "amended " + i, x.amend(0, i), i == 2 ? 0 : i - 1);
        }
        due(8, "a ninth", x.amend(0, 9), FULL);
        due(8, "BAD ahead of FULL", x.amend(0, -1), BAD);
        due(8, "as it was", x.known(0, 1), 8);
        due(8, "as it was on day 0", x.known(0, 0), 0);
    }

    static void trade() {
        RoomsDesk x = desk(2);
        x.claim(0, 0, 0, 70);
        x.claim(0, 0, 11, 70);
        due(9, "claim 2", x.trade(2, 1), BAD);
        due(9, "holder 10", x.trade(0, 10), BAD);
        due(9, "holder -1", x.trade(0, -1), BAD);
        due(9, "a firm holds it", x.trade(1, 1), NO);
        due(9, "they do", x.trade(0, 0), NO);
        x.vote(0, 2);
        due(9, "first", x.trade(0, 1), 0);
        due(9, "the vote is told anew", x.told(0, 3), 0);
        for (int i = 2; i <= 8; i++) {
            due(9, "traded " + i, x.trade(0, i), i - 1);
        }
        x.vote(0, 1);
        due(9, "a ninth", x.trade(0, 9), FULL);
        due(9, "NO ahead of FULL", x.trade(0, 8), NO);
        due(9, "a refused one leaves the vote", x.told(0, 3), 1);
    }

    static void guard() {
        RoomsDesk x = desk(3);
        x.claim(0, 0, 11, 5);
        due(10, "claim 1", x.guard(1, 2, 1), BAD);
        due(10, "firm 3", x.guard(0, 3, 1), BAD);
        due(10, "on 2", x.guard(0, 2, 2), BAD);
        due(10, "on -1", x.guard(0, 2, -1), BAD);
        due(10, "the firm on which it is", x.guard(0, 0, 1), NO);
        due(10, "its holder", x.guard(0, 1, 0), NO);
        due(10, "on", x.guard(0, 2, 1), 0);
        due(10, "on again", x.guard(0, 2, 1), 1);
        due(10, "off", x.guard(0, 2, 0), 1);
        due(10, "off again", x.guard(0, 2, 0), 0);
    }

    static void dispute() {
        RoomsDesk x = desk(1);
        x.claim(0, 0, 0, 5);
        due(11, "claim 1", x.dispute(1, 1), BAD);
        due(11, "sum -1", x.dispute(0, -1), BAD);
        due(11, "sum 100001", x.dispute(0, 100001), BAD);
        due(11, "first", x.dispute(0, 100000), NONE);
        due(11, "value", x.told(0, 4), 100000);
        due(11, "0 is a sum", x.dispute(0, 0), 100000);
        due(11, "value 0", x.told(0, 4), 0);
        due(11, "no more", x.dispute(0, NONE), 0);
        due(11, "value as known", x.told(0, 4), 5);
    }

    static void told() {
        RoomsDesk x = desk(4);
        x.claim(3, 1, 10, 50);
        x.guard(0, 2, 1);
        x.guard(0, 3, 1);
        x.put(0, 5);
        x.vote(0, 2);
        int[] due = {3, 1, 5, 2, 50, 12};
        for (int what = 0; what < due.length; what++) {
            due(12, "told " + what, x.told(0, what), due[what]);
        }
        due(12, "what 6", x.told(0, 6), BAD);
        due(12, "what -1", x.told(0, -1), BAD);
        due(12, "claim 1", x.told(1, 0), BAD);
    }

    static void known() {
        RoomsDesk x = desk(1);
        x.days(3);
        x.claim(0, 0, 0, 5);
        due(13, "ahead of its coming", x.known(0, 2), 0);
        due(13, "with its coming", x.known(0, 3), 5);
        x.amend(0, 6);
        due(13, "the latest of a day, its coming too", x.known(0, 3), 6);
        x.days(2);
        x.amend(0, 7);
        x.amend(0, 8);
        due(13, "between", x.known(0, 4), 6);
        due(13, "the latest of a day", x.known(0, 5), 8);
        due(13, "day -1", x.known(0, -1), BAD);
        due(13, "day 6", x.known(0, 6), BAD);
        due(13, "claim 1", x.known(1, 0), BAD);
    }

    static void holder() {
        RoomsDesk x = desk(2);
        x.days(3);
        x.claim(0, 0, 4, 5);
        x.claim(0, 0, 11, 5);
        due(14, "the one with which it came ahead of it", x.holder(0, 0), 4);
        x.trade(0, 5);
        due(14, "traded on the day of its coming", x.holder(0, 3), 5);
        due(14, "and ahead of it the first", x.holder(0, 2), 4);
        x.days(1);
        x.trade(0, 6);
        x.trade(0, 7);
        due(14, "the latest of a day", x.holder(0, 4), 7);
        due(14, "the day ahead", x.holder(0, 3), 5);
        due(14, "a firm", x.holder(1, 4), 11);
        due(14, "day 5", x.holder(0, 5), BAD);
        due(14, "day -1", x.holder(0, -1), BAD);
        due(14, "claim 2", x.holder(2, 0), BAD);
    }

    static void days() {
        RoomsDesk x = new RoomsDesk();
        due(15, "0", x.days(0), BAD);
        due(15, "61", x.days(61), BAD);
        due(15, "-1", x.days(-1), BAD);
        for (int i = 1; i <= 6; i++) {
            due(15, "60", x.days(60), 60 * i);
        }
        due(15, "above 400", x.days(41), BAD);
        due(15, "to 400", x.days(40), 400);
        due(15, "above 400 by one", x.days(1), BAD);
        due(15, "today", x.count(3), 400);
    }

    /** Two firms: a charged asset, all ranks, one guarded claim, one claim held by a firm. */
    static RoomsDesk group() {
        RoomsDesk x = desk(2);
        x.asset(0, 50, 80, 0);
        x.asset(0, 100, 300, 0);
        x.claim(1, 0, 0, 60);
        x.claim(4, 0, 1, 30);
        x.claim(2, 0, 2, 20);
        x.claim(0, 0, 11, 90);
        x.claim(3, 0, 3, 40);
        x.claim(3, 1, 4, 45);
        x.guard(5, 0, 1);
        x.charge(0, 0);
        return x;
    }

    static void wind() {
        RoomsDesk x = group();
        // At low: 50 to claim 0, then 30, 20, and 50 by 10 : 90 : 45, which is 3, 31, 15; the 31 go on to claim 5.
        due(16, "people at low", x.wind(0), 50 + 30 + 20 + 3 + 15 + 30);
        // At high: 60, then 30, 20, 90, 45, 40; 90 come to firm 1.
        due(16, "people at high", x.wind(1), 60 + 30 + 20 + 45 + 40);
        due(16, "side 2", x.wind(2), BAD);
        due(16, "side -1", x.wind(-1), BAD);
        x.amend(1, 0);
        due(16, "amounts as known today", x.wind(0), 50 + 20 + 5 + 24 + 21);
    }

    static void gets() {
        RoomsDesk x = group();
        int[] low = {53, 30, 20, 31, 0, 45}, high = {60, 30, 20, 90, 40, 45};
        for (int c = 0; c < 6; c++) {
            due(17, "claim " + c + " at low", x.gets(c, 0), low[c]);
            due(17, "claim " + c + " at high", x.gets(c, 1), high[c]);
        }
        due(17, "claim 6", x.gets(6, 0), BAD);
        due(17, "side 2", x.gets(0, 2), BAD);
        x.charge(0, NONE);
        due(17, "without the charge", x.gets(0, 0), 30);
        x.rule(0, 4);
        x.asset(0, 1000, 1000, 0);
        due(17, "with more assets", x.gets(0, 0), 60);
    }

    static void ends() {
        RoomsDesk x = group();
        due(18, "rounds at low", x.ends(0, 0), 2);
        due(18, "rows at low", x.ends(0, 1), 7);
        due(18, "cash at low", x.ends(0, 2), 150 - 148);
        due(18, "rounds at high", x.ends(1, 0), 2);
        due(18, "rows at high", x.ends(1, 1), 6);
        due(18, "cash at high", x.ends(1, 2), 380 - 195);
        due(18, "what 3", x.ends(0, 3), BAD);
        due(18, "what -1", x.ends(0, -1), BAD);
        due(18, "side 2", x.ends(2, 0), BAD);
        RoomsDesk y = long600();
        due(18, "never above 60 rounds", y.ends(0, 0), 60);
    }

    /** Firms that owe all to one another, so that there are more than 600 rows. */
    static RoomsDesk long600() {
        RoomsDesk x = desk(6);
        for (int f = 0; f < 6; f++) {
            x.asset(f, 1000, 1000, 0);
        }
        for (int c = 0; c < 24; c++) {
            int f = c % 6;
            x.claim(0, f, 10 + (f + 1 + c / 6) % 6, 100000);
        }
        return x;
    }

    static void cash() {
        RoomsDesk x = group();
        due(19, "firm 0 at low", x.cash(0, 0), 1);
        due(19, "firm 1 at low", x.cash(1, 0), 1);
        due(19, "firm 0 at high", x.cash(0, 1), 95);
        due(19, "firm 1 at high", x.cash(1, 1), 90);
        due(19, "firm 2", x.cash(2, 0), BAD);
        due(19, "firm -1", x.cash(-1, 0), BAD);
        due(19, "side 2", x.cash(0, 2), BAD);
    }

    static final int[][] LOW_ROWS = {{0, 0, 0, 50}, {1, 0, 1, 30}, {1, 0, 2, 20}, {1, 0, 0, 3}, {1, 0, 3, 31}, {1, 0, 5, 15},
        {1, 1, 5, 30}};

    static void row() {
        RoomsDesk x = group();
        for (int i = 0; i < LOW_ROWS.length; i++) {
            for (int what = 0; what < 4; what++) {
                due(20, "row " + i + ", " + what, x.row(0, i, what), LOW_ROWS[i][what]);
            }
        }
        due(20, "not so many", x.row(0, 7, 0), NONE);
        due(20, "the most", x.row(0, MOST, 3), NONE);
        due(20, "i -1", x.row(0, -1, 0), BAD);
        due(20, "i least", x.row(0, LEAST, 0), BAD);
        due(20, "what 4", x.row(0, 0, 4), BAD);
        due(20, "what -1", x.row(0, 0, -1), BAD);
        due(20, "side 2", x.row(2, 0, 0), BAD);
        RoomsDesk y = long600();
        due(20, "more than 600 are counted", y.ends(0, 1) > 600 ? 1 : 0, 1);
        due(20, "the 600th is told", y.row(0, 599, 3) > 0 ? 1 : 0, 1);
        due(20, "the 601st is not", y.row(0, 600, 0), NONE);
    }

    static void tell() {
        RoomsDesk x = new RoomsDesk();
        for (int i = 1; i <= 200; i++) {
            due(21, "tell", x.tell(-i), i);
        }
        due(21, "a 201st", x.tell(1), FULL);
        due(21, "200 wait", x.count(4), 200);
    }

    static void check() {
        RoomsDesk x = group();
        for (int[] row : LOW_ROWS) {
            for (int part : row) {
                x.tell(part);
            }
        }
        due(22, "all rows", x.check(0), 0);
        due(22, "none wait", x.count(4), 0);
        due(22, "the first is missing", x.check(0), 1);
        for (int[] row : LOW_ROWS) {
            for (int part : row) {
                x.tell(part);
            }
        }
        x.tell(0);
        due(22, "one too many", x.check(0), 29);
        x.tell(0);
        x.tell(0);
        x.tell(0);
        x.tell(51);
        due(22, "the fourth is not", x.check(0), 4);
        x.tell(0);
        due(22, "the second is missing", x.check(0), 2);
        x.tell(0);
        due(22, "side 2", x.check(2), BAD);
        due(22, "none wait behind BAD", x.count(4), 0);
        due(22, "no rows, no numbers", new RoomsDesk().check(1), 0);
        RoomsDesk y = new RoomsDesk();
        y.tell(NONE);
        due(22, "one too many that looks like no row", y.check(0), 1);
    }

    static void put() {
        RoomsDesk x = desk(1);
        x.claim(0, 0, 0, 5);
        due(23, "claim 1", x.put(1, 0), BAD);
        due(23, "class 6", x.put(0, 6), BAD);
        due(23, "class -1", x.put(0, -1), BAD);
        due(23, "first", x.put(0, 5), NONE);
        due(23, "another", x.put(0, 0), 5);
        due(23, "none", x.put(0, NONE), 0);
        due(23, "in none", x.count(7), 1);
    }

    static void quarrel() {
        RoomsDesk x = desk(2);
        int[][] claims = {{0, 0}, {0, 0}, {1, 0}, {1, 0}, {0, 1}, {2, 0}, {4, 0}};
        for (int[] c : claims) {
            x.claim(c[0], c[1], 0, 5);
        }
        x.asset(0, 1, 2, 0);
        due(24, "an empty class", x.quarrel(0), NONE);
        x.put(0, 0);
        x.put(1, 0);
        due(24, "alike", x.quarrel(0), NONE);
        x.put(4, 0);
        due(24, "another firm", x.quarrel(0), 4);
        x.put(3, 0);
        due(24, "the least greater one", x.quarrel(0), 3);
        x.put(0, NONE);
        due(24, "the least lesser one", x.quarrel(0), 103);
        x.put(2, 1);
        x.put(3, 1);
        due(24, "secured by none", x.quarrel(1), NONE);
        x.charge(0, 3);
        due(24, "secured by other assets", x.quarrel(1), 203);
        x.put(5, 2);
        x.put(6, 2);
        due(24, "the very same kind", x.quarrel(2), 506);
        due(24, "class 6", x.quarrel(6), BAD);
        due(24, "class NONE", x.quarrel(NONE), BAD);
    }

    static void terms() {
        RoomsDesk x = desk(1);
        x.claim(0, 0, 0, 100);
        x.put(0, 5);
        due(25, "most", x.terms(5, 100, 100, 60), 0);
        due(25, "worth", x.worth(0), 160);
        due(25, "class 6", x.terms(6, 0, 0, 0), BAD);
        due(25, "class -1", x.terms(-1, 0, 0, 0), BAD);
        due(25, "now 101", x.terms(5, 101, 0, 0), BAD);
        due(25, "now -1", x.terms(5, -1, 0, 0), BAD);
        due(25, "later 101", x.terms(5, 0, 101, 0), BAD);
        due(25, "later -1", x.terms(5, 0, -1, 0), BAD);
        due(25, "months 61", x.terms(5, 0, 0, 61), BAD);
        due(25, "months -1", x.terms(5, 0, 0, -1), BAD);
        due(25, "a refused one changes nothing", x.worth(0), 160);
        due(25, "anew", x.terms(5, 1, 0, 0), 0);
        due(25, "worth anew", x.worth(0), 1);
    }

    static void worth() {
        RoomsDesk x = desk(1);
        x.claim(0, 0, 0, 99);
        x.terms(0, 33, 33, 7);
        due(26, "in no class", x.worth(0), 0);
        x.put(0, 0);
        // 32 now; 32 later, times 1144 / 1200.
        due(26, "each cut", x.worth(0), 32 + 30);
        x.rule(1, 20);
        due(26, "off 20", x.worth(0), 32 + 28);
        x.terms(0, 0, 100, 60);
        due(26, "nothing is left of later", x.worth(0), 0);
        x.rule(1, 0);
        x.days(1);
        x.amend(0, 100000);
        due(26, "as known today", x.worth(0), 100000);
        due(26, "claim 1", x.worth(1), BAD);
        due(26, "claim -1", x.worth(-1), BAD);
    }

    static void worse() {
        RoomsDesk x = desk(1);
        x.asset(0, 50, 90, 0);
        x.claim(0, 0, 0, 100);
        due(27, "without claims", x.worse(0, 0), 0);
        x.put(0, 0);
        x.terms(0, 50, 0, 0);
        due(27, "as much is not worse", x.worse(0, 0), 0);
        due(27, "at high", x.worse(0, 1), 1);
        x.terms(0, 49, 0, 0);
        due(27, "less by one", x.worse(0, 0), 1);
        due(27, "class 6", x.worse(6, 0), BAD);
        due(27, "class -1", x.worse(-1, 0), BAD);
        due(27, "side 2", x.worse(0, 2), BAD);
        due(27, "side -1", x.worse(0, -1), BAD);
    }

    static void vote() {
        RoomsDesk x = desk(1);
        x.claim(0, 0, 0, 1);
        due(28, "yes", x.vote(0, 1), 0);
        due(28, "no", x.vote(0, 2), 1);
        due(28, "3", x.vote(0, 3), BAD);
        due(28, "-1", x.vote(0, -1), BAD);
        due(28, "claim 1", x.vote(1, 0), BAD);
        due(28, "none", x.vote(0, 0), 2);
    }

    static void votes() {
        RoomsDesk x = desk(1);
        for (int c = 0; c < 4; c++) {
            x.claim(0, 0, 0, 1);
            x.vote(c, 1);
        }
        due(29, "missing", x.votes(0), NOTHING);
        due(29, "sheet 2", x.votes(2), BAD);
        due(29, "sheet -1", x.votes(-1), BAD);
        x.sheet(1, 3);
        x.mark(1, 0, 2);
        x.mark(1, 1, -1);
        x.mark(1, 2, 258);
        due(29, "three places", x.votes(1), 3);
        int[] due = {2, 0, 2, 1};
        for (int c = 0; c < 4; c++) {
            due(29, "vote " + c, x.told(c, 3), due[c]);
        }
        x.sheet(1, 24);
        x.mark(1, 3, 3);
        due(29, "no more than claims", x.votes(1), 4);
        due(29, "3 counts as 0", x.told(3, 3), 0);
        x.sheet(1, 0);
        due(29, "no places", x.votes(1), 0);
    }

    static void record() {
        RoomsDesk x = desk(1);
        x.days(5);
        x.claim(0, 0, 0, 30);
        due(30, "day 0 at first: value", x.told(0, 4), 0);
        due(30, "6", x.record(6), BAD);
        due(30, "-1", x.record(-1), BAD);
        due(30, "5", x.record(5), 0);
        due(30, "value", x.told(0, 4), 30);
        due(30, "4", x.record(4), 5);
        due(30, "count", x.count(6), 4);
    }

    static void rule() {
        RoomsDesk x = desk(1);
        due(31, "wait 5", x.rule(0, 5), BAD);
        due(31, "wait -1", x.rule(0, -1), BAD);
        due(31, "off 21", x.rule(1, 21), BAD);
        due(31, "off -1", x.rule(1, -1), BAD);
        due(31, "rule 2", x.rule(2, 0), BAD);
        due(31, "rule -1", x.rule(-1, 0), BAD);
        due(31, "wait", x.rule(0, 4), 0);
        due(31, "wait again", x.rule(0, 1), 4);
        due(31, "off", x.rule(1, 20), 8);
        due(31, "off again", x.rule(1, 0), 20);
        x.asset(0, 100, 100, 10);
        x.claim(0, 0, 0, 1000);
        due(31, "winding up by wait", x.wind(0), 90);
        x.rule(0, 2);
        due(31, "winding up by more", x.wind(0), 80);
    }

    static void feed() {
        RoomsDesk x = new RoomsDesk();
        for (int i = 1; i <= 8; i++) {
            due(32, "feed", x.feed(0, 0, 0), 12 * i);
        }
        due(32, "a ninth", x.feed(0, 0, 0), FULL);
        x.trim(85);
        due(32, "97 bytes", x.feed(0, 0, 0), FULL);
        x.trim(84);
        due(32, "96 bytes", x.feed(0, 0, 0), 96);
        x.trim(0);
        // "pass v bind y" with the highest byte first.
        x.feed(0x70617373, 0x20762062, 0x696e6420);
        x.feed(0x79202020, -1, -1);
        x.trim(16);
        due(32, "the highest first", x.law(), 4);
    }

    static void trim() {
        RoomsDesk x = new RoomsDesk();
        due(33, "of none", x.trim(0), 0);
        due(33, "1 of none", x.trim(1), BAD);
        x.feed(0, 0, 0);
        due(33, "-1", x.trim(-1), BAD);
        due(33, "13", x.trim(13), BAD);
        due(33, "12", x.trim(12), 12);
        due(33, "5", x.trim(5), 5);
        due(33, "6", x.trim(6), BAD);
        due(33, "bytes", x.count(5), 5);
        due(33, "on from there", x.feed(0, 0, 0), 17);
    }

    static void law() {
        RoomsDesk x = new RoomsDesk();
        Object[][] texts = {
            {"pass v bind y", 4}, {"  pass  v  bind  y  ", 4}, {"pass(v)bind(y)", 8}, {"pass!v bind-y", 6},
            {"pass v<=n bind y>=c", 8}, {"pass 5*v+3-t<k&m|n bind w+u*s-q", 22}, {"pass - - v - - v bind 0", 9},
            {"", -100}, {"   ", -103}, {"p", -101}, {"past", -103}, {"Pass v", -100}, {"pa ss", -102},
            {"pass5 bind y", -104}, {"pass bind y", -105}, {"pass y bind y", -105}, {"pass v", -106},
            {"pass vbind y", -106}, {"pass 5bind y", -106}, {"pass v bindy", -111}, {"pass v bind5", -111},
            {"pass v bin", -110}, {"pass v bind", -111}, {"pass v b ind y", -108}, {"pass v bind ", -112},
            {"pass v bind v", -112}, {"pass v bind y bind y", -114}, {"pass v bind y\0", -113}, {"pass v n bind y", -107},
            {"pass v 5 bind y", -107}, {"pass 1 2 bind y", -107}, {"pass (v bind y", -108}, {"pass v) bind y", -106},
            {"pass () bind y", -106}, {"pass v< =n bind y", -108}, {"pass v==n bind y", -107}, {"pass v=<n bind y", -107},
            {"pass v<n>t bind y", -108}, {"pass v<n&t<k bind y", 10}, {"pass (v<n)<t bind y", 10}, {"pass v! bind y", -106},
            {"pass v&&n bind y", -107}, {"pass v&|n bind y", -107}, {"pass *v bind y", -105}, {"pass +v bind y", -105},
            {"pass 999999 bind 000000", 4}, {"pass 0000000 bind 0", -111}, {"pass v/n bind y", -106},
            {"pass v bind y!", -113}, {"pass v bind (y", -114}, {"pass v\u00a0bind y", -106},
        };
        for (Object[] text : texts) {
            due(34, "law '" + text[0] + "'", law(x, (String) text[0]), (int) text[1]);
            due(34, "the tape is used up", x.count(5), 0);
        }
        String deep = "(".repeat(8) + "v" + ")".repeat(8);
        due(34, "eight (", law(x, "pass " + deep + "+" + deep + " bind y"), 38);
        due(34, "a ninth (", law(x, "pass (" + deep + ") bind y"), -113);
        due(34, "twenty marks", law(x, "pass " + "!-".repeat(10) + "v bind y"), 24);
        due(34, "a 21st mark", law(x, "pass " + "!-".repeat(10) + "-v bind y"), -125);
        due(34, "that between two is not counted", law(x, "pass v-" + "-".repeat(20) + "v bind y"), 26);
        due(34, "twenty more behind a (", law(x, "pass " + "!".repeat(20) + "(" + "-".repeat(20) + "v) bind y"), 46);
        due(34, "marks parted by blanks", law(x, "pass " + "! ".repeat(20) + "!v bind y"), -145);
        due(34, "96 bytes", law(x, "pass v bind y" + " ".repeat(83)), 4);
        due(34, "a fault leaves the law", law(x, "pass"), -104);
        due(34, "words as they were", x.count(8), 4);
    }

    static void says() {
        RoomsDesk x = room(new int[] {60, 40}, new int[] {1, 2});
        due(35, "no law", x.says(0), NO);
        due(35, "no claims ahead of no law", x.says(1), BAD);
        Object[][] texts = {
            {"v", 60}, {" n ", 50}, {"t", 100}, {"k", 0}, {"m", 2}, {"v+n*2", 160}, {"(v+n)*2", 220}, {"v-n-t", -90},
            {"-v", -60}, {"!v", 0}, {"!k", 1}, {"!-!k", 0}, {"--v", 60}, {"-n*2", -100}, {"!k+1", 2}, {"v|n", 1}, {"k|!n", 0},
            {"v&n", 1}, {"v&k", 0}, {"v>n", 1}, {"v>=60", 1}, {"v>60", 0}, {"v<60", 0}, {"v<=60", 1},
            {"v=60", 1}, {"k&k|v", 1}, {"v|k&k", 1}, {"v>5&n>5", 1}, {"v+1=61", 1}, {"999999*999999", 999999 * 999999},
            {"0-2*(v>n)", -2}, {"1000*1000*1000*4", 4000000000L},
        };
        for (Object[] text : texts) {
            law(x, "pass " + text[0] + " bind y");
            due(35, "says " + text[0], x.says(0), (int) ((Number) text[1]).longValue());
        }
        due(35, "class 6", x.says(6), BAD);
        due(35, "class -1", x.says(-1), BAD);
        due(35, "without claims", x.says(1), BAD);
    }

    static void binds() {
        RoomsDesk x = desk(1);
        due(36, "no law", x.binds(), NO);
        law(x, "pass v>50 bind y*10000+c*1000+w*100+u*10+s*2+q");
        due(36, "nothing", x.binds(), 0);
        x.asset(0, 10, 20, 0);
        x.claim(1, 0, 0, 10);
        x.claim(0, 0, 0, 10);
        x.charge(0, 0);
        x.put(0, 0);
        x.put(1, 1);
        x.terms(0, 100, 0, 0);
        x.terms(1, 0, 0, 0);
        due(36, "no votes", x.binds(), 2010);
        x.vote(1, 1);
        due(36, "the plain class", x.binds(), 12010);
        x.vote(0, 1);
        due(36, "the secured class", x.binds(), 22012);
        x.put(1, 0);
        due(36, "a quarrel", x.binds(), 11003);
        x.terms(0, 0, 0, 0);
        due(36, "worse", x.binds(), 11113);
    }

    static void passes() {
        RoomsDesk x = room(new int[] {60, 40}, new int[] {1, 2});
        due(37, "without a law", x.passes(0), 0);
        law(x, "pass v-60 bind 1");
        due(37, "0", x.passes(0), 0);
        law(x, "pass v-61 bind 1");
        due(37, "what is not 0", x.passes(0), 1);
        due(37, "without claims", x.passes(1), 0);
        due(37, "class 6", x.passes(6), BAD);
        due(37, "class -1", x.passes(-1), BAD);
    }

    static void name() {
        RoomsDesk x = room(new int[] {50, 25, 25, 51}, new int[] {1, 1, 2, 0});
        char[] pass = {'v', 'n', 't', 'k', 'm'};
        int[] due = {75, 66, 66, 0, 4};
        for (int i = 0; i < pass.length; i++) {
            due(38, "" + pass[i], x.name(pass[i], 0), due[i]);
            due(38, pass[i] + " of no class", x.name(pass[i], NONE), BAD);
            due(38, pass[i] + " without claims", x.name(pass[i], 1), BAD);
            due(38, pass[i] + " of class 6", x.name(pass[i], 6), BAD);
        }
        for (int c = 0; c < 4; c++) {
            x.vote(c, 0);
            x.dispute(c, 0);
        }
        due(38, "v of nothing", x.name('v', 0), 0);
        due(38, "n of nothing", x.name('n', 0), 0);
        due(38, "t of nothing", x.name('t', 0), 0);
        x.claim(1, 0, 0, 5);
        x.claim(3, 0, 0, 5);
        x.put(4, 1);
        x.put(5, 1);
        due(38, "k of the first", x.name('k', 1), 1);
        char[] bind = {'y', 'c', 'w', 'u', 's', 'q'};
        int[] dueBind = {0, 2, 0, 0, 0, 1};
        for (int i = 0; i < bind.length; i++) {
            due(38, "" + bind[i], x.name(bind[i], NONE), dueBind[i]);
            due(38, bind[i] + " of a class", x.name(bind[i], 0), BAD);
        }
        law(x, "pass 1 bind 1");
        x.asset(0, 5, 1000, 0);
        x.terms(1, 60, 0, 0);
        int[] then = {2, 2, 1, 2, 1, 1};
        for (int i = 0; i < bind.length; i++) {
            due(38, bind[i] + " then", x.name(bind[i], NONE), then[i]);
        }
        due(38, "a", x.name('a', NONE), BAD);
        due(38, "96", x.name(96, 0), BAD);
        due(38, "V", x.name('V', 0), BAD);
        due(38, "v and much more", x.name('v' + 65536, 0), BAD);
        due(38, "least", x.name(LEAST, NONE), BAD);
    }

    static void buy() {
        RoomsDesk x = room(new int[] {40, 30, 20, 10, 15}, new int[] {1, 2, 2, 2, 0});
        due(39, "without a law", x.buy(0, 100), NO);
        law(x, "pass v>=70 bind 1");
        due(39, "at 100", x.buy(0, 100), 30);
        due(39, "at 1", x.buy(0, 1), 0);
        due(39, "at 200", x.buy(0, 200), 60);
        due(39, "at 55: each cut", x.buy(0, 55), 16);
        due(39, "price 0", x.buy(0, 0), BAD);
        due(39, "price 201", x.buy(0, 201), BAD);
        due(39, "class 6", x.buy(6, 1), BAD);
        due(39, "class -1", x.buy(-1, 1), BAD);
        due(39, "without claims", x.buy(1, 1), NO);
        law(x, "pass v>=40 bind 1");
        due(39, "it passes without any", x.buy(0, 200), 0);
        law(x, "pass t=100 bind 1");
        due(39, "there is none", x.buy(0, 100), NO);
        due(39, "nothing is changed", x.told(1, 3), 2);
    }

    static void bought() {
        RoomsDesk x = room(new int[] {40, 30, 20, 10, 30}, new int[] {1, 2, 2, 2, 2});
        law(x, "pass v>=53 bind 1");
        // 30 more are asked: {1}, {4} and {2, 3} cost as much.
        due(40, "the fewest, then the first by bits", x.bought(0, 100, 0), 1);
        due(40, "no second", x.bought(0, 100, 1), NONE);
        law(x, "pass v>=69 bind 1");
        // 50 more: {1, 2} and {2, 4} cost as much.
        due(40, "first of two", x.bought(0, 100, 0), 1);
        due(40, "second of two", x.bought(0, 100, 1), 2);
        due(40, "no third", x.bought(0, 100, MOST), NONE);
        due(40, "i -1", x.bought(0, 100, -1), BAD);
        due(40, "price 0", x.bought(0, 0, 0), BAD);
        due(40, "class 6", x.bought(6, 1, 0), BAD);
        due(40, "no claims", x.bought(1, 1, 0), NO);
        law(x, "pass v>=30 bind 1");
        due(40, "passes without any", x.bought(0, 100, 0), NONE);
        int[] amounts = new int[24], votes = new int[24];
        for (int c = 0; c < 24; c++) {
            amounts[c] = c < 12 ? 100 : 1;
            votes[c] = 2;
        }
        RoomsDesk y = room(amounts, votes);
        law(y, "pass n>=4 bind 1");
        due(40, "of the first ten alone", y.buy(0, 100), 100);
        due(40, "the first of them", y.bought(0, 100, 0), 0);
        law(y, "pass n>=41 bind 1");
        due(40, "all ten", y.buy(0, 100), 1000);
        law(y, "pass n>=42 bind 1");
        due(40, "ten are not enough", y.bought(0, 100, 0), NO);
    }

    static void part() {
        RoomsDesk x = room(new int[] {10, 20, 30, 40}, new int[] {2, 1, 1, 0});
        due(41, "without a law", x.part(0), NO);
        law(x, "pass v>=75 bind 1");
        due(41, "one", x.part(0), 1);
        law(x, "pass v>=75&m>=3 bind 1");
        due(41, "three", x.part(0), 3);
        law(x, "pass m>4 bind 1");
        due(41, "there is none", x.part(0), NO);
        due(41, "without claims", x.part(1), NO);
        due(41, "class 6", x.part(6), BAD);
        due(41, "class NONE", x.part(NONE), BAD);
    }

    static void parted() {
        RoomsDesk x = room(new int[] {10, 20, 30, 40}, new int[] {2, 1, 1, 0});
        law(x, "pass v>=75&m>=2 bind 1");
        due(42, "first: {0, 2} is ahead of {1, 2} and {1, 3}", x.parted(0, 0), 0);
        due(42, "second", x.parted(0, 1), 2);
        due(42, "no third", x.parted(0, 2), NONE);
        due(42, "i -1", x.parted(0, -1), BAD);
        due(42, "class 6", x.parted(6, 0), BAD);
        due(42, "without claims", x.parted(1, 0), NO);
        int[] votes = new int[24];
        votes[9] = 1;
        votes[10] = 1;
        int[] amounts = new int[24];
        java.util.Arrays.fill(amounts, 5);
        RoomsDesk y = room(amounts, votes);
        law(y, "pass v=100 bind 1");
        due(42, "the tenth", y.parted(0, 0), 9);
        y.vote(9, 0);
        due(42, "the eleventh is not looked at", y.parted(0, 0), NO);
        RoomsDesk z = desk(1);
        z.claim(0, 0, 0, 1);
        z.claim(3, 0, 0, 1);
        z.put(0, 0);
        z.put(1, 0);
        law(z, "pass k=3 bind 1");
        due(42, "the kind of the part's first", z.parted(0, 0), 1);
    }

    static void keep() {
        RoomsDesk x = desk(1);
        due(43, "no claims", x.keep(), 0);
        x.claim(0, 0, 0, 1);
        x.claim(0, 0, 0, 1);
        due(43, "two", x.keep(), 2);
        x.put(0, 3);
        x.vote(0, 1);
        x.keep();
        x.put(0, 4);
        x.vote(0, 2);
        x.back();
        due(43, "the latest is kept", x.told(0, 2) * 10 + x.told(0, 3), 31);
    }

    static void back() {
        RoomsDesk x = desk(1);
        due(44, "nothing is kept", x.back(), NO);
        x.claim(0, 0, 0, 100);
        x.put(0, 1);
        x.vote(0, 1);
        x.terms(1, 10, 0, 0);
        x.keep();
        x.put(0, 2);
        x.vote(0, 2);
        x.terms(1, 20, 0, 0);
        x.rule(1, 3);
        x.claim(0, 0, 0, 100);
        x.put(1, 5);
        x.vote(1, 2);
        due(44, "of one", x.back(), 1);
        due(44, "class", x.told(0, 2), 1);
        due(44, "vote", x.told(0, 3), 1);
        due(44, "terms", x.worth(0), 10);
        due(44, "a later claim's class stays", x.told(1, 2), 5);
        due(44, "a later claim's vote stays", x.told(1, 3), 2);
        due(44, "rules are not kept", x.rule(1, 0), 3);
        x.vote(0, 0);
        due(44, "once more", x.back(), 1);
        due(44, "vote once more", x.told(0, 3), 1);
        RoomsDesk y = desk(1);
        y.keep();
        due(44, "of none", y.back(), 0);
    }

    static void sheet() {
        RoomsDesk x = new RoomsDesk();
        due(45, "sheet 2", x.sheet(2, 1), BAD);
        due(45, "sheet -1", x.sheet(-1, 1), BAD);
        due(45, "25", x.sheet(0, 25), BAD);
        due(45, "-1", x.sheet(0, -1), SIZE);
        due(45, "BAD ahead of SIZE", x.sheet(2, -1), BAD);
        due(45, "still missing", x.mark(0, 0, 0), NOTHING);
        due(45, "24", x.sheet(0, 24), 24);
        x.mark(0, 23, 5);
        due(45, "refused", x.sheet(0, -1), SIZE);
        due(45, "as it was", x.mark(0, 23, 6), 5);
        due(45, "anew", x.sheet(0, 24), 24);
        due(45, "all 0", x.mark(0, 23, 0), 0);
        due(45, "0", x.sheet(1, 0), 0);
        due(45, "no places", x.mark(1, 0, 0), INDEX);
        x.sheet(0, 3);
        x.sheet(1, 3);
        x.mark(1, 0, 9);
        due(45, "each its own", x.mark(0, 0, 0), 0);
    }

    static void mark() {
        RoomsDesk x = new RoomsDesk();
        due(46, "sheet 2", x.mark(2, 0, 0), BAD);
        due(46, "missing", x.mark(1, -1, 0), NOTHING);
        x.sheet(1, 2);
        due(46, "place -1", x.mark(1, -1, 0), INDEX);
        due(46, "place 2", x.mark(1, 2, 0), INDEX);
        due(46, "place most", x.mark(1, MOST, 0), INDEX);
        due(46, "200", x.mark(1, 1, 200), 0);
        due(46, "with its sign", x.mark(1, 1, 256 + 7), -56);
        due(46, "as a byte", x.mark(1, 1, -1), 7);
        due(46, "-1", x.mark(1, 1, 0), -1);
    }

    static void copy() {
        RoomsDesk x = new RoomsDesk();
        due(47, "sheet 2", x.copy(0, 0, 2, 0, 0), BAD);
        due(47, "sheet -1", x.copy(-1, 0, 0, 0, 0), BAD);
        due(47, "missing", x.copy(0, -1, 1, 0, 0), NOTHING);
        x.sheet(0, 5);
        due(47, "the other one is missing", x.copy(0, 0, 1, 0, 0), NOTHING);
        x.sheet(1, 3);
        due(47, "many -1", x.copy(0, 0, 1, 0, -1), INDEX);
        due(47, "place -1", x.copy(0, -1, 1, 0, 1), INDEX);
        due(47, "at -1", x.copy(0, 0, 1, -1, 1), INDEX);
        due(47, "beyond the end of the first", x.copy(0, 4, 1, 0, 2), INDEX);
        due(47, "beyond the end of the other", x.copy(0, 0, 1, 1, 3), INDEX);
        due(47, "sums that wrap", x.copy(0, 1, 1, 1, MOST), INDEX);
        due(47, "places that wrap", x.copy(0, MOST, 1, 0, MOST), INDEX);
        due(47, "none, at the end", x.copy(0, 5, 1, 3, 0), 0);
        due(47, "none, beyond the end", x.copy(0, 6, 1, 0, 0), INDEX);
        for (int i = 0; i < 5; i++) {
            x.mark(0, i, i + 1);
        }
        due(47, "up, over itself", x.copy(0, 0, 0, 1, 4), 4);
        due(47, "down, over itself", x.copy(0, 2, 0, 0, 3), 3);
        due(47, "to another", x.copy(0, 1, 1, 1, 2), 2);
        int[] due = {2, 3, 4, 3, 4}, other = {0, 3, 4};
        for (int i = 0; i < 5; i++) {
            due(47, "place " + i, x.mark(0, i, 0), due[i]);
        }
        for (int i = 0; i < 3; i++) {
            due(47, "the other's place " + i, x.mark(1, i, 0), other[i]);
        }
    }

    static void count() {
        RoomsDesk x = desk(2);
        x.asset(0, 1, 1, 0);
        x.asset(0, 1, 1, 0);
        x.asset(0, 1, 1, 0);
        for (int c = 0; c < 5; c++) {
            x.claim(0, 0, 0, 1);
        }
        x.put(2, 2);
        x.days(9);
        x.record(8);
        x.tell(1);
        law(x, "pass v bind (y)");
        x.feed(0, 0, 0);
        int[] due = {2, 3, 5, 9, 1, 12, 8, 4, 6};
        for (int what = 0; what < due.length; what++) {
            due(48, "what " + what, x.count(what), due[what]);
        }
        due(48, "what 9", x.count(9), BAD);
        due(48, "what -1", x.count(-1), BAD);
    }

    static void firstToWinding() {
        newObject();
        firm();
        asset();
        charge();
        brings();
        claim();
        isOf();
        amend();
        trade();
        guard();
        dispute();
        told();
        known();
        holder();
        days();
        wind();
        gets();
        ends();
        cash();
        row();
        tell();
        check();
    }

    static void classesToSheets() {
        put();
        quarrel();
        terms();
        worth();
        worse();
        vote();
        votes();
        record();
        rule();
        feed();
        trim();
        law();
        says();
        binds();
        passes();
        name();
        buy();
        bought();
        part();
        parted();
        keep();
        back();
        sheet();
        mark();
        copy();
        count();
    }

    public static void main(String[] args) {
        firstToWinding();
        classesToSheets();
        end("all promises hold");
    }
}
