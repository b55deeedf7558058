import java.util.Arrays;

/** The edges that part 5 of the document and promises 39 to 42 name: purchases and parts. */
public final class BuyingEdges extends Due {
    static int[] many(int n, int v) {
        int[] all = new int[n];
        Arrays.fill(all, v);
        return all;
    }

    static RoomsDesk room(String pass, int[] amounts, int[] votes) {
        RoomsDesk x = room(amounts, votes);
        law(x, "pass " + pass + " bind 1");
        return x;
    }

    /** The cost, and the claims one by one, and that there are no more. */
    static void duePurchase(String what, RoomsDesk x, int price, int cost, int... claims) {
        due(what + ": cost", x.buy(0, price), cost);
        for (int i = 0; i < claims.length; i++) {
            due(what + ": the " + i + "th", x.bought(0, price, i), claims[i]);
        }
        due(what + ": one more", x.bought(0, price, claims.length), NONE);
        due(what + ": many more", x.bought(0, price, MOST), NONE);
        due(what + ": -1", x.bought(0, price, -1), BAD);
    }

    static void duePart(String what, RoomsDesk x, int... claims) {
        due(what + ": how many", x.part(0), claims.length);
        for (int i = 0; i < claims.length; i++) {
            due(what + ": the " + i + "th", x.parted(0, i), claims[i]);
        }
        due(what + ": one more", x.parted(0, claims.length), NONE);
        due(what + ": many more", x.parted(0, MOST), NONE);
        due(what + ": -1", x.parted(0, -1), BAD);
    }

    static void dueNone(String what, RoomsDesk x, int price) {
        due(what + ": buy", x.buy(0, price), NO);
        dueAll(what + ": bought", i -> x.bought(0, price, i), NO, 0, 1, 10, MOST);
        due(what + ": bought -1", x.bought(0, price, -1), BAD);
    }

    static void dueNoPart(String what, RoomsDesk x) {
        due(what + ": part", x.part(0), NO);
        dueAll(what + ": parted", i -> x.parted(0, i), NO, 0, 1, 10, MOST);
        due(what + ": parted -1", x.parted(0, -1), BAD);
    }

    static void arguments() {
        sentence("by a PRICE (1 .. 200 hundredths) / buy, bought, part, parted: BAD");
        RoomsDesk x = room("v=100", new int[] {100, 100}, new int[] {1, 2});
        dueBeyond("buy of class", k -> x.buy(k, 1), 0, 5, BAD);
        dueBeyond("buy by price", p -> x.buy(0, p), 1, 200, BAD);
        dueBeyond("bought of class", k -> x.bought(k, 1, 0), 0, 5, BAD);
        dueBeyond("bought by price", p -> x.bought(0, p, 0), 1, 200, BAD);
        dueAll("bought i", i -> x.bought(0, 1, i), BAD, -1, LEAST, NONE);
        dueBeyond("part of class", k -> x.part(k), 0, 5, BAD);
        dueBeyond("parted of class", k -> x.parted(k, 0), 0, 5, BAD);
        dueAll("parted i", i -> x.parted(0, i), BAD, -1, LEAST, NONE);
        due("the least price", x.buy(0, 1), 1);
        due("the most", x.buy(0, 200), 200);
        sentence("buy, bought, part, parted: NO: there is none.");
        dueAll("buy without CLAIMS, class", k -> x.buy(k, 1), NO, 1, 5);
        dueAll("bought without CLAIMS, class", k -> x.bought(k, 1, 0), NO, 1, 5);
        dueAll("part without CLAIMS, class", k -> x.part(k), NO, 1, 5);
        dueAll("parted without CLAIMS, class", k -> x.parted(k, 0), NO, 1, 5);
        due("BAD stands first: price", x.buy(1, 0), BAD);
        due("BAD stands first: i", x.bought(1, 1, -1), BAD);
        due("BAD stands first: i of a part", x.parted(1, -1), BAD);
        RoomsDesk y = room(new int[] {5}, new int[] {2});
        dueNone("without a LAW", y, 100);
        dueNoPart("without a LAW", y);
    }

    static void passesWithoutAny() {
        sentence("buy: (0, if it PASSES without any)");
        duePurchase("it passes", room("v>=50", new int[] {50, 50}, new int[] {1, 2}), 200, 0);
        duePurchase("just so", room("v>=50", new int[] {50, 51}, new int[] {1, 2}), 100, 51, 1);
        duePurchase("none votes no, and it passes", room("1", new int[] {5}, new int[] {0}), 100, 0);
        duePurchase("all vote no, and it passes", room("v=0", new int[] {5, 6}, new int[] {2, 2}), 100, 0);
        dueNone("none votes no", room("v=100", new int[] {5}, new int[] {0}), 100);
        dueNone("too many vote yes", room("v<50", new int[] {5}, new int[] {1}), 100);
        duePurchase("a VALUE of 0 costs nothing", room("n=100", new int[] {5, 100}, new int[] {1, 1}), 100, 0);
        RoomsDesk x = room("n=100", new int[] {5, 100}, new int[] {1, 2});
        x.dispute(1, 0);
        duePurchase("a told sum of 0 costs nothing, but is bought", x, 200, 0, 1);
    }

    static void cost() {
        sentence("it costs the VALUE of each times PRICE / 100, each cut");
        int[] prices = {1, 49, 50, 99, 100, 101, 149, 150, 199, 200}, ones = {0, 0, 0, 0, 1, 1, 1, 1, 1, 2};
        for (int i = 0; i < prices.length; i++) {
            RoomsDesk x = room("n=100", new int[] {1, 1, 3}, new int[] {2, 2, 2});
            duePurchase("price " + prices[i], x, prices[i], 2 * ones[i] + 3 * prices[i] / 100, 0, 1, 2);
        }
        RoomsDesk most = room("n=100", many(10, 100000), many(10, 2));
        duePurchase("the most", most, 200, 2000000, 0, 1, 2, 3, 4, 5, 6, 7, 8, 9);
        sentence("VALUE");
        RoomsDesk x = room("v=100", new int[] {10, 10}, new int[] {2, 1});
        x.days(1);
        x.amend(0, 70);
        due("as known on THE RECORD DAY", x.buy(0, 100), 10);
        x.record(1);
        due("that is today", x.buy(0, 100), 70);
        x.dispute(0, 33);
        due("the told sum", x.buy(0, 100), 33);
    }

    static void ofTheFirstTen() {
        sentence("a set of its CLAIMS that vote no (of the first ten of these by number)");
        duePurchase("ten vote no", room("n=100", many(10, 2), many(10, 2)), 100, 20, 0, 1, 2, 3, 4, 5, 6, 7, 8, 9);
        dueNone("eleven vote no", room("n=100", many(11, 2), many(11, 2)), 100);
        duePurchase("ten of eleven", room("n>=90", many(11, 2), many(11, 2)), 100, 20, 0, 1, 2, 3, 4, 5, 6, 7, 8, 9);
        dueNone("none votes more than all", room("n>100", many(10, 2), many(10, 2)), 100);
        dueNone("nor by VALUE", room("v>100", many(10, 2), many(10, 2)), 100);
        int[] amounts = many(24, 50), votes = many(24, 2);
        for (int c = 0; c < 24; c++) {
            // Seven of the first thirteen vote yes or none, so that the first ten that vote no end at 16.
            votes[c] = c < 13 && c % 2 == 0 ? c % 4 == 0 ? 1 : 0 : 2;
        }
        amounts[16] = 3;
        amounts[17] = 2;
        RoomsDesk x = room("n>=25", amounts, votes);
        // 4 of 21 vote yes; two more are needed, and the cheapest that may be bought are 16 and the first of the rest.
        duePurchase("the tenth that votes no", x, 100, 53, 1, 16);
        x.put(5, NONE);
        // 4 of 20; one more is enough, and now 17 may be bought.
        duePurchase("one of them is of no class", x, 100, 2, 17);
    }

    static void least() {
        sentence("THE PURCHASE: the least cost, of several the fewest, then the first by bits (.. the lesser number)");
        duePurchase("two for 41 ahead of one for 60", room("v>=40", new int[] {60, 20, 21}, new int[] {2, 2, 2}), 100, 41, 1, 2);
        duePurchase("and so by other numbers", room("v>=40", new int[] {20, 21, 60}, new int[] {2, 2, 2}), 100, 41, 0, 1);
        duePurchase("one for 40 ahead of two for 41", room("v>=39", new int[] {40, 20, 21, 20}, new int[] {2, 2, 2, 2}), 100, 40, 0);
        duePurchase("32 and 1 ahead of 20 and 20", room("n>=40&v>=20", new int[] {60, 20, 32, 20, 1}, many(5, 2)), 100, 33, 2, 4);
        duePurchase("one for 50 ahead of two for 50", room("v>=50", new int[] {20, 30, 50}, new int[] {2, 2, 2}), 100, 50, 2);
        duePurchase("the lesser number of two alike", room("v>=50", new int[] {50, 50}, new int[] {2, 2}), 100, 50, 0);
        duePurchase("the lesser number of pairs: 0, 3 is 9, 1, 2 is 6", room("v=50", new int[] {20, 25, 25, 30}, new int[] {2, 2, 2, 2}),
                100, 50, 1, 2);
        duePurchase("the lesser number of threes", room("n=60", many(5, 4), many(5, 2)), 100, 12, 0, 1, 2);
        duePurchase("a price by which all cost nothing: the fewest", room("v>=60", new int[] {30, 30, 40, 50}, new int[] {2, 2, 2, 2}), 1,
                0, 2, 3);
        duePurchase("all of ten", room("n=100", many(10, 1), many(10, 2)), 1, 0, 0, 1, 2, 3, 4, 5, 6, 7, 8, 9);
        RoomsDesk x = desk(1);
        for (int c = 0; c < 24; c++) {
            x.claim(0, 0, 0, 10);
            x.put(c, c < 20 ? 1 : 0);
            x.vote(c, 2);
        }
        law(x, "pass n>=50 bind 1");
        duePurchase("the last CLAIMS", x, 100, 20, 20, 21);
    }

    static void whichThenVoteYes() {
        sentence("which then vote yes, so that it PASSES");
        int[] amounts = {10, 20, 30, 40}, votes = {2, 2, 0, 1};
        duePurchase("t stays", room("t=70&v>60", amounts, votes), 100, 10, 0);
        duePurchase("m and k stay", room("m=4&!k&n=100", amounts, votes), 100, 30, 0, 1);
        dueNone("one that votes none is not bought", room("t=100", amounts, votes), 100);
        dueNone("one that votes yes is not bought", room("v*7=0", amounts, votes), 100);
        RoomsDesk y = desk(1);
        for (int c = 0; c < 3; c++) {
            y.claim(c + 2, 0, 0, 10);
            y.put(c, 0);
            y.vote(c, 2);
        }
        law(y, "pass k=2&v>0 bind 1");
        duePurchase("the first CLAIM's KIND is that of the CLASS", y, 100, 10, 0);
        RoomsDesk x = room("v=100", amounts, votes);
        x.buy(0, 100);
        x.bought(0, 100, 0);
        x.part(0);
        x.parted(0, 0);
        for (int c = 0; c < 4; c++) {
            due("asking changes no VOTE", x.told(c, 3), votes[c]);
        }
        due("asking does not let it pass", x.passes(0), 0);
    }

    static void oneByOne() {
        sentence("bought: The i-th CLAIM of THE PURCHASE. / parted: The i-th CLAIM of THE PART. (each asked by itself)");
        int[] amounts = {10, 20, 30, 41}, votes = {2, 2, 2, 2};
        due("the first bought", room("v>=50", amounts, votes).bought(0, 100, 0), 0);
        due("the second bought", room("v>=50", amounts, votes).bought(0, 100, 1), 3);
        due("no third", room("v>=50", amounts, votes).bought(0, 100, 2), NONE);
        due("none at all", room("v>=50&n=0", amounts, votes).bought(0, 100, 0), NO);
        due("the first of the part", room("m=2", amounts, votes).parted(0, 0), 0);
        due("the second of the part", room("m=2", amounts, votes).parted(0, 1), 1);
        due("no third", room("m=2", amounts, votes).parted(0, 2), NONE);
        due("no part at all", room("m=5", amounts, votes).parted(0, 0), NO);
        RoomsDesk x = room("v>=50", amounts, votes);
        x.claim(0, 0, 0, 60);
        x.put(4, 1);
        x.vote(4, 1);
        due("the part of class 1", x.parted(1, 0), 4);
        due("bought of class 0, behind it", x.bought(0, 100, 1), 3);
        due("the part of class 0, behind it", x.parted(0, 0), NO);
        due("the purchase of class 1", x.buy(1, 100), 0);
        due("bought of class 0 by 1, where all cost nothing", x.bought(0, 1, 0), 0);
        due("its second", x.bought(0, 1, 1), 3);
        x.vote(3, 1);
        due("a VOTE is told: bought of class 0", x.bought(0, 100, 0), 0);
        due("the part of class 0", x.parted(0, 0), 3);
        due("bought of class 1", x.bought(1, 100, 0), NONE);
    }

    static void parts() {
        sentence("A PART of a CLASS (of its first ten CLAIMS): a set of its CLAIMS that, as a CLASS by itself, would PASS");
        duePart("one CLAIM", room("1", new int[] {5}, new int[] {0}), 0);
        dueNoPart("a set of none is no CLASS", room("m=0", new int[] {5, 6}, new int[] {1, 2}));
        dueNoPart("nothing passes", room("0", many(10, 5), many(10, 1)));
        duePart("all of ten", room("m=10", many(10, 5), many(10, 1)), 0, 1, 2, 3, 4, 5, 6, 7, 8, 9);
        dueNoPart("eleven of eleven", room("m=11", many(11, 5), many(11, 1)));
        duePart("ten of eleven", room("m>=10", many(11, 5), many(11, 1)), 0, 1, 2, 3, 4, 5, 6, 7, 8, 9);
        dueNoPart("nine", room("m>9", many(9, 5), many(9, 1)));
        int[] votes = many(12, 0);
        votes[9] = 1;
        duePart("the tenth", room("n=100", many(12, 5), votes), 9);
        votes[9] = 0;
        votes[10] = 1;
        dueNoPart("the eleventh", room("n=100", many(12, 5), votes));
        RoomsDesk x = room("n=100", many(12, 5), votes);
        x.put(3, NONE);
        duePart("the tenth of the CLASS has number 10", x, 10);
        sentence("THE PART: the fewest, then likewise the first by bits");
        duePart("one of the later ones", room("v=100", new int[] {9, 9, 9}, new int[] {2, 0, 1}), 2);
        duePart("the lesser number of three pairs", room("m=2", many(3, 9), many(3, 0)), 0, 1);
        duePart("0 and 3 is 9, 1 and 2 is 6", room("m=2&v=50&n=50&t=100", new int[] {3, 7, 7, 3}, new int[] {1, 1, 2, 2}), 1, 2);
        duePart("the fewest, though later", room("v=100&t>50", new int[] {9, 5, 6, 10}, new int[] {0, 1, 1, 1}), 1);
        sentence("as a CLASS by itself");
        RoomsDesk y = desk(1);
        for (int c = 0; c < 3; c++) {
            y.claim(c, 0, 0, 10);
            y.put(c, 0);
        }
        law(y, "pass k=2 bind 1");
        duePart("its own first CLAIM tells the KIND", y, 2);
        law(y, "pass k=1&m=2 bind 1");
        duePart("of two the first", y, 1, 2);
        law(y, "pass k=2&m=2 bind 1");
        dueNoPart("the last alone is of that KIND", y);
        y.dispute(1, 0);
        y.vote(1, 1);
        law(y, "pass t=0&n=100 bind 1");
        duePart("a VALUE of 0", y, 1);
    }

    public static void main(String[] args) {
        arguments();
        passesWithoutAny();
        cost();
        ofTheFirstTen();
        least();
        whichThenVoteYes();
        oneByOne();
        parts();
        end("the edges of buying and of parts hold");
    }
}
