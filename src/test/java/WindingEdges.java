/** The edges that part 2 of the document and promises 16 to 22 name: winding up, its rounds and rows. */
public final class WindingEdges extends Due {
    /** All rows at a side, and that there are no more. */
    static void dueRows(RoomsDesk x, int side, int[][] rows) {
        due("ROWS", x.ends(side, 1), rows.length);
        for (int i = 0; i < rows.length; i++) {
            for (int what = 0; what < 4; what++) {
                due("row " + i + ", what " + what, x.row(side, i, what), rows[i][what]);
            }
        }
        for (int what = 0; what < 4; what++) {
            due("the row behind the last, what " + what, x.row(side, rows.length, what), NONE);
        }
    }

    static RoomsDesk withAsset(int firms, int coins) {
        RoomsDesk x = desk(firms);
        x.asset(0, coins, coins, 0);
        return x;
    }

    /** Two firms that owe one another five times that amount each; so many coins go to and fro in equal fifths. */
    static RoomsDesk circle(int coins, int amount) {
        RoomsDesk x = withAsset(2, coins);
        for (int c = 0; c < 10; c++) {
            x.claim(0, c / 5, c < 5 ? 11 : 10, amount);
        }
        return x;
    }

    static void sides() {
        sentence("at a SIDE (0 LOW, 1 HIGH) / wind, gets, ends, cash, row, check: BAD");
        RoomsDesk x = desk(1);
        x.asset(0, 10, 20, 0);
        x.claim(0, 0, 0, 15);
        dueBeyond("wind of side", s -> x.wind(s), 0, 1, BAD);
        dueBeyond("gets of side", s -> x.gets(0, s), 0, 1, BAD);
        dueBeyond("ends of side", s -> x.ends(s, 0), 0, 1, BAD);
        dueBeyond("cash of side", s -> x.cash(0, s), 0, 1, BAD);
        dueBeyond("row of side", s -> x.row(s, 0, 0), 0, 1, BAD);
        dueBeyond("check of side", s -> x.check(s), 0, 1, BAD);
        dueBeyond("gets of claim", c -> x.gets(c, 0), 0, 0, BAD);
        dueBeyond("cash of firm", f -> x.cash(f, 0), 0, 0, BAD);
        dueBeyond("ends what", w -> x.ends(0, w), 0, 2, BAD);
        dueBeyond("row what", w -> x.row(0, 0, w), 0, 3, BAD);
        int[] low = {10, 10, 2, 1, 0, 0}, high = {15, 15, 2, 1, 5, 5};
        for (int side = 0; side < 2; side++) {
            int[] got = {x.wind(side), x.gets(0, side), x.ends(side, 0), x.ends(side, 1), x.ends(side, 2), x.cash(0, side)};
            for (int i = 0; i < got.length; i++) {
                due("side " + side + ", answer " + i, got[i], side == 0 ? low[i] : high[i]);
            }
        }
    }

    static void nothingYet() {
        sentence("It ends behind the first ROUND in which nothing is paid (that ROUND counts)");
        RoomsDesk x = new RoomsDesk();
        for (int firms = 0; firms < 2; firms++) {
            for (int side = 0; side < 2; side++) {
                due("ROUNDS", x.ends(side, 0), 1);
                due("ROWS", x.ends(side, 1), 0);
                due("coins left", x.ends(side, 2), 0);
                due("people get", x.wind(side), 0);
                due("row 0", x.row(side, 0, 0), NONE);
                due("check", x.check(side), 0);
            }
            x.firm();
        }
        x.claim(0, 0, 0, 1);
        due("a claim without coins", x.gets(0, 0), 0);
        due("ROUNDS without coins", x.ends(0, 0), 1);
        x.asset(0, 0, 0, 0);
        due("ROUNDS with an asset of nothing", x.ends(0, 0), 1);
        x.asset(0, 1, 1, 0);
        due("ROUNDS with one coin", x.ends(0, 0), 2);
        due("one coin", x.gets(0, 0), 1);
        RoomsDesk y = withAsset(1, 5);
        due("ROUNDS with coins without claims", y.ends(0, 0), 1);
        due("coins left without claims", y.ends(0, 2), 5);
    }

    static void chargedToOpen() {
        sentence("one that is CHARGED pays what it BRINGS to its CLAIM, as far as that is OPEN; the rest comes to the CASH of its FIRM");
        int[] amounts = {49, 50, 51}, gets = {49, 50, 50}, cash = {1, 0, 0};
        for (int i = 0; i < 3; i++) {
            RoomsDesk x = withAsset(1, 50);
            x.claim(1, 0, 0, amounts[i]);
            x.charge(0, 0);
            dueRows(x, 0, new int[][] {{0, 0, 0, gets[i]}});
            due("gets", x.gets(0, 0), gets[i]);
            due("CASH", x.cash(0, 0), cash[i]);
            due("ROUNDS: nothing is paid in the first", x.ends(0, 0), 1);
        }
        RoomsDesk y = withAsset(1, 50);
        y.asset(0, 30, 30, 0);
        y.asset(0, 20, 20, 0);
        y.claim(1, 0, 0, 80);
        y.claim(0, 0, 0, 7);
        y.charge(0, 0);
        y.charge(1, 0);
        y.charge(2, 0);
        dueRows(y, 0, new int[][] {{0, 0, 0, 50}, {0, 0, 0, 30}, {1, 0, 1, 7}});
        due("CASH: the third asset finds nothing OPEN", y.cash(0, 0), 13);
        sentence("with AMOUNTS AS KNOWN TODAY");
        y.days(1);
        y.amend(0, 0);
        dueRows(y, 0, new int[][] {{1, 0, 1, 7}});
        y.amend(0, 1);
        dueRows(y, 0, new int[][] {{0, 0, 0, 1}, {1, 0, 1, 7}});
        sentence("What is paid to a CLAIM whose HOLDER is a FIRM comes to that FIRM's CASH at once.");
        RoomsDesk z = withAsset(2, 50);
        z.claim(1, 0, 11, 60);
        z.charge(0, 0);
        z.asset(1, 5, 5, 0);
        z.claim(0, 1, 3, 54);
        dueRows(z, 0, new int[][] {{0, 0, 0, 50}, {1, 1, 1, 54}});
        due("firm 1 keeps", z.cash(1, 0), 1);
        due("people get what the firm hands on, alone", z.wind(0), 54);
    }

    static void byNumbersOfAssets() {
        sentence("At first, by numbers of ASSETS");
        RoomsDesk x = desk(2);
        x.asset(1, 4, 4, 0);
        x.asset(0, 5, 5, 0);
        x.asset(1, 6, 6, 0);
        x.claim(1, 0, 0, 50);
        x.claim(1, 1, 0, 50);
        x.charge(0, 1);
        x.charge(1, 0);
        x.charge(2, 1);
        dueRows(x, 0, new int[][] {{0, 1, 1, 4}, {0, 0, 0, 5}, {0, 1, 1, 6}});
    }

    static void cashOfRank() {
        sentence("if CASH is T or more, all of it is paid; else each CLAIM, by number, gets CASH times OPEN / T");
        // Rank of NEW: T is 10 (3 and 7); behind it a FIRST of 4.
        int[] cash = {9, 10, 11, 13, 14, 15}, third = {2, 3, 3, 3, 3, 3}, seventh = {6, 7, 7, 7, 7, 7}, next = {0, 0, 1, 3, 4, 4};
        int[] left = {1, 0, 0, 0, 0, 1}, rounds = {2, 2, 2, 2, 2, 2};
        for (int i = 0; i < cash.length; i++) {
            RoomsDesk x = withAsset(1, cash[i]);
            x.claim(4, 0, 0, 3);
            x.claim(2, 0, 0, 4);
            x.claim(4, 0, 0, 7);
            // With 9 coins, 1 is left of the first round; in the second it is shared 1 : 1 of 2, and cut to nothing.
            due(cash[i] + " coins: 3", x.gets(0, 0), third[i]);
            due(cash[i] + " coins: 7", x.gets(2, 0), seventh[i]);
            due(cash[i] + " coins: the next rank", x.gets(1, 0), next[i]);
            due(cash[i] + " coins: left", x.cash(0, 0), left[i]);
            due(cash[i] + " coins: rounds", x.ends(0, 0), rounds[i]);
        }
        sentence("and no further RANK is paid in this ROUND");
        RoomsDesk y = withAsset(1, 2);
        y.claim(4, 0, 0, 1);
        y.claim(4, 0, 0, 1);
        y.claim(4, 0, 0, 1);
        y.claim(2, 0, 0, 1);
        dueRows(y, 0, new int[0][]);
        due("CASH that is cut stays", y.cash(0, 0), 2);
        due("ROUNDS", y.ends(0, 0), 1);
        y.amend(2, 0);
        dueRows(y, 0, new int[][] {{1, 0, 0, 1}, {1, 0, 1, 1}});
        y.amend(1, 0);
        dueRows(y, 0, new int[][] {{1, 0, 0, 1}, {1, 0, 3, 1}});
    }

    static void asTheRankBegan() {
        sentence("(OPEN, CASH, T as the RANK began)");
        RoomsDesk x = withAsset(1, 100);
        x.claim(0, 0, 0, 100);
        x.claim(0, 0, 0, 100);
        x.claim(0, 0, 0, 100);
        dueRows(x, 0, new int[][] {{1, 0, 0, 33}, {1, 0, 1, 33}, {1, 0, 2, 33}});
        due("left", x.cash(0, 0), 1);
        sentence("CASH times OPEN / T (the most of each)");
        RoomsDesk y = desk(1);
        for (int a = 0; a < 16; a++) {
            y.asset(0, 100000, 100000, 0);
        }
        for (int c = 0; c < 24; c++) {
            y.claim(0, 0, 0, 100000);
        }
        due("of the first", y.gets(0, 0), 66666);
        due("of the last", y.gets(23, 0), 66666);
        due("people get", y.wind(0), 24 * 66666);
        due("left", y.ends(0, 2), 16);
    }

    static void ranks() {
        sentence("first NEW, then FIRST (that are not NEW), then CLAIMS of KIND 0, SECURED ones, and CLAIMS of whatever KIND"
                + " that it GUARDS (on other FIRMS), all together; then AFTER");
        RoomsDesk x = withAsset(2, 10000);
        x.claim(3, 0, 0, 1);
        x.claim(0, 0, 1, 2);
        x.claim(1, 0, 2, 4);
        x.claim(2, 0, 3, 8);
        x.claim(4, 0, 4, 16);
        for (int kind = 0; kind < 5; kind++) {
            x.claim(kind, 1, kind, 32 << kind);
            x.guard(5 + kind, 0, 1);
        }
        x.claim(4, 1, 5, 3000);
        dueRows(x, 0, new int[][] {{1, 0, 4, 16}, {1, 0, 3, 8}, {1, 0, 1, 2}, {1, 0, 2, 4}, {1, 0, 5, 32}, {1, 0, 6, 64},
            {1, 0, 7, 128}, {1, 0, 8, 256}, {1, 0, 9, 512}, {1, 0, 0, 1}});
        due("one it does not GUARD", x.gets(10, 0), 0);
        x.guard(9, 0, 0);
        due("one it GUARDS no more", x.gets(9, 0), 0);
        RoomsDesk y = withAsset(2, 10);
        y.claim(4, 1, 0, 10);
        y.claim(0, 0, 0, 10);
        y.guard(0, 0, 1);
        dueRows(y, 0, new int[][] {{1, 0, 0, 5}, {1, 0, 1, 5}});
        y.asset(1, 10, 10, 0);
        // Firm 1 pays behind firm 0, and so only what is still OPEN.
        dueRows(y, 0, new int[][] {{1, 0, 0, 5}, {1, 0, 1, 5}, {1, 1, 0, 5}});
        due("firm 1 keeps", y.cash(1, 0), 5);
        y.claim(3, 1, 0, 1);
        y.claim(2, 1, 0, 1);
        dueRows(y, 0, new int[][] {{1, 0, 0, 5}, {1, 0, 1, 5}, {1, 1, 0, 5}, {1, 1, 3, 1}, {1, 1, 2, 1}});
    }

    static void comesAtOnce() {
        sentence("comes to that FIRM's CASH at once");
        RoomsDesk x = withAsset(3, 9);
        x.claim(0, 0, 11, 9);
        x.claim(0, 1, 12, 9);
        x.claim(0, 2, 0, 9);
        dueRows(x, 0, new int[][] {{1, 0, 0, 9}, {1, 1, 1, 9}, {1, 2, 2, 9}});
        due("rounds up the numbers", x.ends(0, 0), 2);
        RoomsDesk y = desk(3);
        y.asset(2, 9, 9, 0);
        y.claim(0, 2, 11, 9);
        y.claim(0, 1, 10, 9);
        y.claim(0, 0, 0, 9);
        dueRows(y, 0, new int[][] {{1, 2, 0, 9}, {2, 1, 1, 9}, {3, 0, 2, 9}});
        due("rounds down the numbers", y.ends(0, 0), 4);
        RoomsDesk z = desk(6);
        z.asset(5, 9, 9, 0);
        z.claim(0, 5, 10, 9);
        z.claim(0, 0, 15, 8);
        z.claim(0, 4, 15, 7);
        dueRows(z, 0, new int[][] {{1, 5, 0, 9}, {2, 0, 1, 8}});
        due("the last firm's CASH", z.cash(5, 0), 8);
        due("the first firm's CASH", z.cash(0, 0), 1);
        due("coins left of all FIRMS", z.ends(0, 2), 9);
        due("people get", z.wind(0), 0);
    }

    static void lastRound() {
        sentence("It ends behind the first ROUND in which nothing is paid (that ROUND counts), or behind ROUND 60.");
        // Behind the rounds that pay to and fro comes one that pays the AFTER, and one that pays nothing.
        int[] paying = {1, 2, 57, 58, 59, 60, 61, 99}, rounds = {3, 4, 59, 60, 60, 60, 60, 60};
        for (int i = 0; i < paying.length; i++) {
            RoomsDesk x = withAsset(2, 1000);
            x.claim(0, 0, 11, 1000 * paying[i]);
            x.claim(0, 1, 10, 1000 * paying[i]);
            x.claim(3, 0, 0, 5);
            int paid = Math.min(60, paying[i]);
            due(paying[i] + " times: ROUNDS", x.ends(0, 0), rounds[i]);
            due(paying[i] + " times: gets", x.gets(1, 0), 1000 * paid);
            due(paying[i] + " times: the one AFTER", x.gets(2, 0), paying[i] < 60 ? 5 : 0);
            due(paying[i] + " times: ROWS", x.ends(0, 1), 2 * paid + (paying[i] < 60 ? 1 : 0));
            due(paying[i] + " times: left", x.ends(0, 2), paying[i] < 60 ? 995 : 1000);
        }
    }

    static void rowsAtMost() {
        sentence("(the first 600 are told, all are counted)");
        // Ten rows a round; one of a charged asset makes 601.
        RoomsDesk x = circle(1000, 100000);
        due("ROWS", x.ends(0, 1), 600);
        int[] last = {60, 1, 9, 200};
        for (int what = 0; what < 4; what++) {
            due("the 600th, what " + what, x.row(0, 599, what), last[what]);
            due("the 601st, what " + what, x.row(0, 600, what), NONE);
            due("row MOST", x.row(0, MOST, what), NONE);
        }
        x.claim(1, 1, 0, 7);
        x.asset(1, 7, 7, 0);
        x.charge(1, 10);
        due("ROWS", x.ends(0, 1), 601);
        int[] ahead = {60, 1, 8, 200};
        for (int what = 0; what < 4; what++) {
            due("the 600th, what " + what, x.row(0, 599, what), ahead[what]);
            due("the 601st, what " + what, x.row(0, 600, what), NONE);
            due("the 602nd, what " + what, x.row(0, 601, what), NONE);
        }
        due("the first", x.row(0, 0, 0), 0);
        due("the second", x.row(0, 1, 0), 1);
    }

    static void row() {
        sentence("row: Of ROW i: what 0 ROUND, 1 FIRM, 2 CLAIM, 3 coins. BAD: side, i below 0, what; NONE: there are not so many.");
        RoomsDesk x = circle(5, 1);
        due("ROWS", x.ends(0, 1), 10);
        dueAll("i", i -> x.row(0, i, 0), BAD, -1, -2, LEAST, NONE);
        dueAll("i", i -> x.row(0, i, 3), 1, 0, 9);
        dueAll("i", i -> x.row(0, i, 3), NONE, 10, 11, 599, 600, MOST);
        dueAll("what, of a row that is not", w -> x.row(0, 10, w), BAD, -1, 4);
        due("a side that is not, of a row that is not", x.row(2, 10, 0), BAD);
        due("what, of row -1", x.row(0, -1, 4), BAD);
    }

    static void tellAtMost() {
        sentence("tell: One more number waits: how many. FULL: 200 wait.");
        RoomsDesk x = circle(1000, 1000);
        int[] any = {0, -1, LEAST, MOST, NONE, BAD};
        for (int i = 1; i <= 200; i++) {
            due("tell", x.tell(any[i % any.length]), i);
            due("so many wait", x.count(4), i);
        }
        due("a 201st", x.tell(1), FULL);
        due("a 202nd", x.tell(1), FULL);
        due("200 wait", x.count(4), 200);
        x.check(0);
        due("none waits", x.count(4), 0);
        due("on from none", x.tell(1), 1);
    }

    /** The first numbers of the rows at LOW wait, with one of them more by so much. */
    static void tellRows(RoomsDesk x, int numbers, int changed, int by) {
        for (int i = 0; i < numbers; i++) {
            x.tell(x.row(0, i / 4, i % 4) + (i == changed ? by : 0));
        }
    }

    static void checkAll() {
        sentence("check: four by four, all ROWS at a SIDE from the first on: 0; else 1 and how many stand right ahead of the first"
                + " that is not (or is missing, or one too many)");
        // Ten rows: forty numbers.
        int[] told = {0, 1, 3, 4, 5, 39, 40};
        for (int numbers : told) {
            RoomsDesk x = circle(5, 1);
            tellRows(x, numbers, NONE, 0);
            due(numbers + " right ones", x.check(0), numbers == 40 ? 0 : 1 + numbers);
            due("none waits", x.count(4), 0);
            due("then the first is missing", x.check(0), 1);
        }
        for (int wrongOne = 0; wrongOne < 40; wrongOne++) {
            for (int by = -1; by <= 1; by += 2) {
                RoomsDesk x = circle(5, 1);
                tellRows(x, 40, wrongOne, by);
                due("a wrong one at " + wrongOne, x.check(0), 1 + wrongOne);
            }
        }
        int[] more = {0, 1, NONE, -1};
        for (int v : more) {
            RoomsDesk x = circle(5, 1);
            tellRows(x, 40, NONE, 0);
            x.tell(v);
            due("one too many: " + v, x.check(0), 41);
            RoomsDesk y = new RoomsDesk();
            y.tell(v);
            due("one too many of none: " + v, y.check(0), 1);
            due("none waits", y.check(1), 0);
        }
    }

    static void checkAtMost() {
        sentence("check: .. (200 numbers, 50 ROWS)");
        RoomsDesk x = circle(1000, 1000);
        due("ROWS", x.ends(0, 1), 50);
        tellRows(x, 200, NONE, 0);
        due("200 wait", x.count(4), 200);
        due("all", x.check(0), 0);
        tellRows(x, 199, NONE, 0);
        due("the last is missing", x.check(0), 200);
        RoomsDesk y = circle(1000, 1000);
        tellRows(y, 200, 199, 1);
        due("the last is wrong", y.check(0), 200);
        RoomsDesk z = circle(1000, 1001);
        due("more than 50 ROWS", z.ends(0, 1), 60);
        tellRows(z, 200, NONE, 0);
        due("the 201st is missing", z.check(0), 201);
    }

    static void checkOfBad() {
        sentence("(none do then, whatever is answered, also by BAD)");
        RoomsDesk x = circle(5, 1);
        for (int side : new int[] {-1, 2, LEAST, MOST, NONE}) {
            tellRows(x, 3, NONE, 0);
            due("side " + side, x.check(side), BAD);
            due("none waits", x.count(4), 0);
        }
        tellRows(x, 40, NONE, 0);
        due("a right one then", x.check(0), 0);
        sentence("check: ROWS at a SIDE");
        RoomsDesk y = desk(1);
        y.asset(0, 10, 20, 0);
        y.claim(0, 0, 0, 15);
        int[][] rows = {{1, 0, 0, 10}, {1, 0, 0, 15}};
        for (int told = 0; told < 2; told++) {
            for (int side = 0; side < 2; side++) {
                for (int part : rows[told]) {
                    y.tell(part);
                }
                due("told " + told + " at side " + side, y.check(side), told == side ? 0 : 4);
            }
        }
    }

    static void afterChanges() {
        sentence("WINDING UP at a SIDE (as all stands now)");
        RoomsDesk x = withAsset(1, 50);
        x.claim(1, 0, 0, 40);
        due("at first", x.gets(0, 0), 40);
        x.amend(0, 45);
        due("amended", x.gets(0, 0), 45);
        x.asset(0, 5, 5, 10);
        due("one more asset", x.cash(0, 0), 10);
        x.rule(0, 4);
        due("WAIT", x.cash(0, 0), 8);
        x.firm();
        due("one more firm", x.cash(1, 0), 0);
        x.claim(4, 0, 11, 6);
        due("one more claim", x.cash(1, 0), 6);
        due("the first gets less", x.gets(0, 0), 45);
        x.claim(0, 1, 2, 100);
        due("one more claim on the other", x.cash(1, 0), 0);
        due("nothing of firm 0 yet", x.gets(2, 0), 6);
        x.guard(2, 0, 1);
        due("guarded", x.gets(2, 0), 6 + 32);
        x.charge(0, 0);
        due("charged", x.gets(2, 0), 6 + 2);
        x.charge(0, NONE);
        due("charged no more", x.gets(2, 0), 6 + 32);
        x.guard(2, 0, 0);
        due("guarded no more", x.gets(2, 0), 6);
        due("people get", x.wind(0), 51);
        x.trade(0, 7);
        due("traded among people", x.wind(0), 51);
    }

    public static void main(String[] args) {
        sides();
        nothingYet();
        chargedToOpen();
        byNumbersOfAssets();
        cashOfRank();
        asTheRankBegan();
        ranks();
        comesAtOnce();
        lastRound();
        rowsAtMost();
        row();
        tellAtMost();
        checkAll();
        checkAtMost();
        checkOfBad();
        afterChanges();
        end("the edges of winding up hold");
    }
}
