import java.util.ArrayList;
import java.util.List;
import java.util.function.Consumer;
import java.util.function.Supplier;
import java.util.function.ToIntFunction;

/**
 * A call that is refused answers what stands first with it and changes nothing but what the document
 * says; a call that only asks changes nothing at all. Each such call is made on a desk, and then the
 * desk is looked through from all sides beside a twin on which the call was not made.
 */
public final class Refusals extends Due {
    record Call(String text, ToIntFunction<RoomsDesk> call, Consumer<RoomsDesk> whatItChanges) {}

    record Look(String name, Consumer<Notes> through) {}

    /** A desk, and the answers that it gave while it was looked through. */
    static final class Notes {
        final RoomsDesk x;
        final List<Integer> answers = new ArrayList<>();

        Notes(RoomsDesk desk) {
            x = desk;
        }

        void add(int answer) {
            answers.add(answer);
        }
    }

    static final Consumer<RoomsDesk> NOTHING_ELSE = x -> { };
    static String room = "";
    static Supplier<RoomsDesk> made;
    static final List<Call> CALLS = new ArrayList<>();

    static void refused(String text, int want, ToIntFunction<RoomsDesk> call) {
        due(room + ": " + text, call.applyAsInt(made.get()), want);
        CALLS.add(new Call(text, call, NOTHING_ELSE));
    }

    static void asked(String text, ToIntFunction<RoomsDesk> call) {
        CALLS.add(new Call(text, call, NOTHING_ELSE));
    }

    static void lookAtAll() {
        for (Look look : LOOKS) {
            List<Integer> untouched = seen(look, NOTHING_ELSE);
            for (Call call : CALLS) {
                boolean isPlain = call.whatItChanges() == NOTHING_ELSE;
                List<Integer> want = isPlain ? untouched : seen(look, call.whatItChanges());
                List<Integer> got = seen(look, x -> call.call().applyAsInt(x));
                boolean isSame = got.equals(want);
                due(room + ": " + call.text() + " leaves all, seen by " + look.name(), isSame ? 1 : 0, 1);
            }
        }
        CALLS.clear();
    }

    static List<Integer> seen(Look look, Consumer<RoomsDesk> ahead) {
        RoomsDesk x = made.get();
        ahead.accept(x);
        Notes notes = new Notes(x);
        look.through().accept(notes);
        return notes.answers;
    }

    // ---- the sides from which a desk is looked through, none with more than some 280 calls

    static final List<Look> LOOKS = List.of(new Look("facts", Refusals::facts), new Look("days", Refusals::knownDays),
            new Look("winding", Refusals::winding), new Look("classes", Refusals::classes), new Look("changes", Refusals::changes),
            new Look("amending and trading", Refusals::diaries), new Look("the tape", Refusals::tape),
            new Look("numbers that wait", Refusals::waiting), new Look("what is kept", Refusals::kept),
            new Look("sheets", Refusals::sheets), new Look("what comes next", Refusals::next));

    static void facts(Notes n) {
        for (int what = 0; what <= 8; what++) {
            n.add(n.x.count(what));
        }
        for (int a = 0; a < 16; a++) {
            n.add(n.x.brings(a, 0));
            n.add(n.x.brings(a, 1));
        }
        for (int c = 0; c < 24; c++) {
            n.add(n.x.isOf(c, 2));
            for (int what = 0; what < 6; what++) {
                n.add(n.x.told(c, what));
            }
        }
    }

    static void knownDays(Notes n) {
        int today = n.x.count(3);
        for (int c = 0; c < 24; c++) {
            for (int day : new int[] {0, today / 2, Math.max(0, today - 1), today}) {
                n.add(n.x.known(c, day));
                n.add(n.x.holder(c, day));
            }
        }
    }

    static void winding(Notes n) {
        for (int side = 0; side < 2; side++) {
            n.add(n.x.wind(side));
            for (int what = 0; what < 3; what++) {
                n.add(n.x.ends(side, what));
            }
            for (int f = 0; f < 6; f++) {
                n.add(n.x.cash(f, side));
            }
            for (int c = 0; c < 24; c++) {
                n.add(n.x.gets(c, side));
            }
            for (int i = 0; i < 60; i++) {
                n.add(n.x.row(side, i, i % 4));
            }
        }
    }

    static void classes(Notes n) {
        for (int k = 0; k < 6; k++) {
            n.add(n.x.quarrel(k));
            n.add(n.x.worse(k, 0));
            n.add(n.x.worse(k, 1));
            n.add(n.x.passes(k));
            n.add(n.x.says(k));
            n.add(n.x.buy(k, 150));
            n.add(n.x.bought(k, 150, 0));
            n.add(n.x.bought(k, 150, 1));
            n.add(n.x.part(k));
            n.add(n.x.parted(k, 0));
            n.add(n.x.parted(k, 1));
            for (char letter : "vntkm".toCharArray()) {
                n.add(n.x.name(letter, k));
            }
        }
        for (char letter : "ycwusq".toCharArray()) {
            n.add(n.x.name(letter, NONE));
        }
        n.add(n.x.binds());
        for (int c = 0; c < 24; c++) {
            n.add(n.x.worth(c));
        }
    }

    /** What each change answers tells what was there. */
    static void changes(Notes n) {
        n.add(n.x.record(0));
        n.add(n.x.rule(0, 0));
        n.add(n.x.rule(1, 0));
        for (int a = 0; a < 16; a++) {
            n.add(n.x.charge(a, NONE));
        }
        for (int c = 0; c < 24; c++) {
            n.add(n.x.dispute(c, NONE));
            n.add(n.x.put(c, 0));
            n.add(n.x.vote(c, 0));
            for (int f = 0; f < 6; f++) {
                n.add(n.x.guard(c, f, 0));
            }
        }
    }

    static void diaries(Notes n) {
        for (int c = 0; c < 4; c++) {
            for (int i = 0; i < 9; i++) {
                n.add(n.x.amend(c, i));
                n.add(n.x.trade(c, i));
            }
        }
    }

    static void tape(Notes n) {
        for (int i = 0; i < 2; i++) {
            n.add(n.x.law());
            n.add(n.x.count(8));
            n.add(n.x.says(0));
            n.add(n.x.binds());
            n.add(n.x.feed(0x70617373, 0, 0));
        }
    }

    static void waiting(Notes n) {
        n.add(n.x.check(0));
        n.add(n.x.check(0));
        n.add(n.x.tell(1));
    }

    static void kept(Notes n) {
        n.add(n.x.back());
        for (int c = 0; c < 24; c++) {
            n.add(n.x.told(c, 2));
            n.add(n.x.told(c, 3));
            n.add(n.x.worth(c));
        }
    }

    static void sheets(Notes n) {
        for (int s = 0; s < 2; s++) {
            n.add(n.x.votes(s));
            for (int place = 0; place < 25; place++) {
                n.add(n.x.mark(s, place, 1));
            }
        }
        n.add(n.x.told(0, 3));
    }

    static void next(Notes n) {
        n.add(n.x.days(1));
        n.add(n.x.firm());
        n.add(n.x.asset(0, 1, 2, 0));
        n.add(n.x.claim(1, 0, 1, 5));
        n.add(n.x.tell(4));
        n.add(n.x.feed(1, 2, 3));
        n.add(n.x.keep());
        n.add(n.x.count(7));
        n.add(n.x.cash(0, 0));
        n.add(n.x.gets(0, 1));
    }

    // ---- the rooms

    static RoomsDesk small() {
        RoomsDesk x = desk(2);
        x.asset(0, 50, 90, 10);
        x.asset(1, 20, 20, 0);
        x.claim(1, 0, 0, 60);
        x.claim(0, 0, 11, 70);
        x.claim(2, 1, 5, 10);
        x.claim(0, 1, 6, 40);
        x.charge(0, 0);
        x.guard(3, 0, 1);
        x.days(3);
        x.amend(3, 44);
        x.put(0, 0);
        x.put(1, 0);
        x.put(2, 3);
        x.vote(0, 1);
        x.vote(1, 2);
        x.terms(0, 10, 20, 30);
        feed(x, "pass v>50 bind y>0");
        x.trim(18);
        for (int i = 0; i < 5; i++) {
            x.tell(x.row(0, i / 4, i % 4));
        }
        return x;
    }

    static RoomsDesk full() {
        RoomsDesk x = desk(6);
        for (int a = 0; a < 16; a++) {
            x.asset(a % 6, 100 * a, 200 * a, a);
        }
        for (int c = 0; c < 24; c++) {
            x.claim(c % 5, c % 6, c % 4 == 1 ? 10 + (c + 1) % 6 : c % 10, 500 + c);
            x.put(c, c % 7 == 6 ? NONE : c % 6);
            x.vote(c, c % 3);
        }
        x.charge(0, 6);
        x.charge(1, 1);
        x.charge(3, 21);
        x.charge(9, 21);
        for (int c = 0; c < 8; c++) {
            x.guard(c, (c + 3) % 6, 1);
        }
        for (int k = 0; k < 6; k++) {
            x.terms(k, 10 * k, 20, 10 * k);
        }
        x.dispute(2, 99);
        x.rule(0, 1);
        x.rule(1, 7);
        for (int i = 0; i < 8; i++) {
            x.days(i < 7 ? 55 : 15);
            x.amend(0, 600 + i);
            x.trade(0, i + 1);
        }
        x.record(200);
        return withTexts(x);
    }

    static RoomsDesk withTexts(RoomsDesk x) {
        law(x, "pass v>40&n>30 bind y>1|s");
        x.keep();
        x.put(0, 5);
        x.put(1, NONE);
        x.vote(0, 2);
        x.terms(0, 99, 98, 0);
        x.sheet(0, 24);
        x.sheet(1, 3);
        for (int place = 0; place < 24; place += 5) {
            x.mark(0, place, place - 9);
        }
        x.mark(1, 2, 2);
        feed(x, "pass 1 bind 2" + " ".repeat(83));
        for (int i = 0; i < 10; i++) {
            x.tell(x.row(0, i / 4, i % 4));
        }
        return x;
    }

    /** Two hundred numbers wait: all rows at low. */
    static RoomsDesk waits() {
        RoomsDesk x = desk(2);
        x.asset(0, 1000, 1000, 0);
        for (int c = 0; c < 10; c++) {
            x.claim(0, c / 5, c < 5 ? 11 : 10, 1000);
        }
        for (int i = 0; i < 200; i++) {
            int row = i / 4;
            x.tell(new int[] {1 + row / 10, row % 10 / 5, row % 10, 200}[i % 4]);
        }
        return x;
    }

    // ---- the calls

    static void enter(String name, Supplier<RoomsDesk> make) {
        room = name;
        made = make;
    }

    /** Numbers that no desk takes for that argument. */
    static void beyond(String text, int least, int most, Consumer<Integer> call) {
        for (int v : new int[] {least - 1, most + 1, LEAST, MOST, BAD}) {
            call.accept(v);
        }
    }

    static void badClaims(int claims) {
        beyond("claim", 0, claims - 1, c -> {
            refused("charge(0, " + c + ")", BAD, x -> x.charge(0, c));
            refused("isOf(" + c + ", 0)", BAD, x -> x.isOf(c, 0));
            refused("amend(" + c + ", 1)", BAD, x -> x.amend(c, 1));
            refused("trade(" + c + ", 1)", BAD, x -> x.trade(c, 1));
            refused("guard(" + c + ", 1, 1)", BAD, x -> x.guard(c, 1, 1));
            refused("dispute(" + c + ", 1)", BAD, x -> x.dispute(c, 1));
            refused("told(" + c + ", 0)", BAD, x -> x.told(c, 0));
            refused("known(" + c + ", 0)", BAD, x -> x.known(c, 0));
            refused("holder(" + c + ", 0)", BAD, x -> x.holder(c, 0));
            refused("gets(" + c + ", 0)", BAD, x -> x.gets(c, 0));
            refused("put(" + c + ", 1)", BAD, x -> x.put(c, 1));
            refused("worth(" + c + ")", BAD, x -> x.worth(c));
            refused("vote(" + c + ", 1)", BAD, x -> x.vote(c, 1));
        });
    }

    static void badFacts(int firms, int assets, int today) {
        beyond("firm", 0, firms - 1, f -> {
            refused("asset(" + f + ", 1, 2, 0)", BAD, x -> x.asset(f, 1, 2, 0));
            refused("claim(0, " + f + ", 0, 1)", BAD, x -> x.claim(0, f, 0, 1));
            refused("guard(1, " + f + ", 1)", BAD, x -> x.guard(1, f, 1));
            refused("cash(" + f + ", 0)", BAD, x -> x.cash(f, 0));
        });
        beyond("asset", 0, assets - 1, a -> {
            refused("charge(" + a + ", NONE)", BAD, x -> x.charge(a, NONE));
            refused("brings(" + a + ", 0)", BAD, x -> x.brings(a, 0));
        });
        beyond("coins", 0, 100000, v -> {
            refused("asset(0, " + v + ", 100000, 0)", BAD, x -> x.asset(0, v, 100000, 0));
            refused("asset(0, 0, " + v + ", 0)", BAD, x -> x.asset(0, 0, v, 0));
            refused("claim(0, 0, 0, " + v + ")", BAD, x -> x.claim(0, 0, 0, v));
            refused("amend(1, " + v + ")", BAD, x -> x.amend(1, v));
            refused("dispute(1, " + v + ")", BAD, x -> x.dispute(1, v));
        });
        beyond("months", 0, 24, m -> refused("asset(0, 1, 2, " + m + ")", BAD, x -> x.asset(0, 1, 2, m)));
        beyond("kind", 0, 4, k -> {
            refused("claim(" + k + ", 0, 0, 1)", BAD, x -> x.claim(k, 0, 0, 1));
            refused("isOf(0, " + k + ")", BAD, x -> x.isOf(0, k));
        });
        beyond("holder", 0, 9 + firms, h -> refused("claim(0, 0, " + h + ", 1)", BAD, x -> x.claim(0, 0, h, 1)));
        beyond("holder", 0, 9, h -> refused("trade(2, " + h + ")", BAD, x -> x.trade(2, h)));
        beyond("on", 0, 1, on -> refused("guard(0, 1, " + on + ")", BAD, x -> x.guard(0, 1, on)));
        beyond("day", 0, today, d -> {
            refused("known(0, " + d + ")", BAD, x -> x.known(0, d));
            refused("holder(0, " + d + ")", BAD, x -> x.holder(0, d));
            refused("record(" + d + ")", BAD, x -> x.record(d));
        });
        beyond("days", 1, Math.min(60, 400 - today), n -> refused("days(" + n + ")", BAD, x -> x.days(n)));
    }

    static void badPlan() {
        beyond("class", 0, 5, k -> {
            refused("put(0, " + k + ")", BAD, x -> x.put(0, k));
            refused("quarrel(" + k + ")", BAD, x -> x.quarrel(k));
            refused("terms(" + k + ", 1, 1, 1)", BAD, x -> x.terms(k, 1, 1, 1));
            refused("worse(" + k + ", 0)", BAD, x -> x.worse(k, 0));
            refused("says(" + k + ")", BAD, x -> x.says(k));
            refused("passes(" + k + ")", BAD, x -> x.passes(k));
            refused("name('v', " + k + ")", BAD, x -> x.name('v', k));
            refused("name('y', " + k + ")", BAD, x -> x.name('y', k));
            refused("buy(" + k + ", 1)", BAD, x -> x.buy(k, 1));
            refused("bought(" + k + ", 1, 0)", BAD, x -> x.bought(k, 1, 0));
            refused("part(" + k + ")", BAD, x -> x.part(k));
            refused("parted(" + k + ", 0)", BAD, x -> x.parted(k, 0));
        });
        beyond("hundredths", 0, 100, v -> {
            refused("terms(0, " + v + ", 1, 1)", BAD, x -> x.terms(0, v, 1, 1));
            refused("terms(0, 1, " + v + ", 1)", BAD, x -> x.terms(0, 1, v, 1));
        });
        beyond("months", 0, 60, m -> refused("terms(0, 1, 1, " + m + ")", BAD, x -> x.terms(0, 1, 1, m)));
        beyond("v", 0, 2, v -> refused("vote(0, " + v + ")", BAD, x -> x.vote(0, v)));
        beyond("which", 0, 1, w -> refused("rule(" + w + ", 1)", BAD, x -> x.rule(w, 1)));
        beyond("WAIT", 0, 4, v -> refused("rule(0, " + v + ")", BAD, x -> x.rule(0, v)));
        beyond("OFF", 0, 20, v -> refused("rule(1, " + v + ")", BAD, x -> x.rule(1, v)));
        beyond("price", 1, 200, p -> {
            refused("buy(0, " + p + ")", BAD, x -> x.buy(0, p));
            refused("bought(0, " + p + ", 0)", BAD, x -> x.bought(0, p, 0));
        });
        refused("bought(0, 1, -1)", BAD, x -> x.bought(0, 1, -1));
        refused("parted(0, -1)", BAD, x -> x.parted(0, -1));
        refused("name('a', NONE)", BAD, x -> x.name('a', NONE));
        refused("name('v', NONE)", BAD, x -> x.name('v', NONE));
    }

    static void badSidesAndSheets(int bytes) {
        beyond("side", 0, 1, s -> {
            refused("brings(0, " + s + ")", BAD, x -> x.brings(0, s));
            refused("wind(" + s + ")", BAD, x -> x.wind(s));
            refused("gets(0, " + s + ")", BAD, x -> x.gets(0, s));
            refused("ends(" + s + ", 0)", BAD, x -> x.ends(s, 0));
            refused("cash(0, " + s + ")", BAD, x -> x.cash(0, s));
            refused("row(" + s + ", 0, 0)", BAD, x -> x.row(s, 0, 0));
            refused("worse(0, " + s + ")", BAD, x -> x.worse(0, s));
            due(room + ": check(" + s + ")", made.get().check(s), BAD);
            CALLS.add(new Call("check(" + s + ")", x -> x.check(s), x -> x.check(0)));
        });
        beyond("what", 0, 5, w -> refused("told(0, " + w + ")", BAD, x -> x.told(0, w)));
        beyond("what", 0, 2, w -> refused("ends(0, " + w + ")", BAD, x -> x.ends(0, w)));
        beyond("what", 0, 3, w -> refused("row(0, 0, " + w + ")", BAD, x -> x.row(0, 0, w)));
        beyond("what", 0, 8, w -> refused("count(" + w + ")", BAD, x -> x.count(w)));
        refused("row(0, -1, 0)", BAD, x -> x.row(0, -1, 0));
        beyond("n", 0, bytes, n -> refused("trim(" + n + ")", BAD, x -> x.trim(n)));
        beyond("sheet", 0, 1, s -> {
            refused("votes(" + s + ")", BAD, x -> x.votes(s));
            refused("sheet(" + s + ", 2)", BAD, x -> x.sheet(s, 2));
            refused("sheet(" + s + ", -1)", BAD, x -> x.sheet(s, -1));
            refused("mark(" + s + ", 0, 2)", BAD, x -> x.mark(s, 0, 2));
            refused("copy(" + s + ", 0, 0, 0, 1)", BAD, x -> x.copy(s, 0, 0, 0, 1));
            refused("copy(0, 0, " + s + ", 0, 1)", BAD, x -> x.copy(0, 0, s, 0, 1));
        });
        refused("sheet(0, 25)", BAD, x -> x.sheet(0, 25));
        refused("sheet(0, MOST)", BAD, x -> x.sheet(0, MOST));
        refused("sheet(0, -1)", SIZE, x -> x.sheet(0, -1));
        refused("sheet(1, LEAST)", SIZE, x -> x.sheet(1, LEAST));
    }

    static void badLaw(String text, int place) {
        ToIntFunction<RoomsDesk> reading = x -> law(x, text);
        due(room + ": law '" + text + "'", reading.applyAsInt(made.get()), -100 - place);
        CALLS.add(new Call("law '" + text + "'", reading, x -> x.trim(0)));
    }

    static void questions() {
        asked("wind, gets, ends, cash, row", x -> x.wind(0) + x.wind(1) + x.gets(0, 1) + x.ends(1, 1) + x.cash(0, 0) + x.row(0, 0, 0)
                + x.row(0, 9999, 0));
        asked("worth, worse, quarrel", x -> x.worth(0) + x.worse(0, 0) + x.worse(1, 1) + x.quarrel(0));
        asked("says, binds, passes", x -> x.says(0) + x.binds() + x.passes(0) + x.passes(5));
        asked("name", x -> x.name('v', 0) + x.name('y', NONE) + x.name('w', NONE) + x.name('s', NONE));
        asked("buy, bought", x -> x.buy(0, 1) + x.buy(1, 200) + x.bought(2, 50, 0) + x.bought(0, 50, 99));
        asked("part, parted", x -> x.part(0) + x.part(1) + x.parted(0, 0) + x.parted(3, 99));
        asked("brings, isOf, told, known, holder, count", x -> x.brings(0, 0) + x.isOf(0, 1) + x.told(0, 4) + x.known(0, 0)
                + x.holder(0, 0) + x.count(7));
    }

    static void ofEmpty() {
        enter("a new desk", RoomsDesk::new);
        badClaims(0);
        refused("charge(0, NONE)", BAD, x -> x.charge(0, NONE));
        refused("back()", NO, x -> x.back());
        refused("binds()", NO, x -> x.binds());
        refused("says(0)", BAD, x -> x.says(0));
        refused("buy(0, 1)", NO, x -> x.buy(0, 1));
        refused("bought(0, 1, 0)", NO, x -> x.bought(0, 1, 0));
        refused("part(0)", NO, x -> x.part(0));
        refused("parted(0, 0)", NO, x -> x.parted(0, 0));
        refused("record(1)", BAD, x -> x.record(1));
        refused("trim(1)", BAD, x -> x.trim(1));
        due("a new desk: law()", new RoomsDesk().law(), -100);
        refused("law()", -100, x -> x.law());
        badPlanOfNone();
        badSidesAndSheets(0);
        questions();
        lookAtAll();
    }

    static void badPlanOfNone() {
        refused("put(0, 0)", BAD, x -> x.put(0, 0));
        refused("vote(0, 0)", BAD, x -> x.vote(0, 0));
        refused("name('v', 0)", BAD, x -> x.name('v', 0));
        refused("votes(0)", NOTHING, x -> x.votes(0));
        refused("mark(0, 0, 1)", NOTHING, x -> x.mark(0, 0, 1));
        refused("copy(0, 0, 1, 0, 0)", NOTHING, x -> x.copy(0, 0, 1, 0, 0));
    }

    static void ofSmall() {
        enter("a small desk", Refusals::small);
        badClaims(4);
        badFacts(2, 2, 3);
        badPlan();
        badSidesAndSheets(24);
        refused("charge(0, 1): not SECURED", NO, x -> x.charge(0, 1));
        refused("charge(1, 0): on another FIRM", NO, x -> x.charge(1, 0));
        refused("claim(0, 0, 10, 1): its own FIRM", BAD, x -> x.claim(0, 0, 10, 1));
        refused("trade(1, 0): a FIRM holds it", NO, x -> x.trade(1, 0));
        refused("trade(0, 0): they do", NO, x -> x.trade(0, 0));
        refused("guard(0, 0, 1): it is on it", NO, x -> x.guard(0, 0, 1));
        refused("guard(1, 1, 1): it is its HOLDER", NO, x -> x.guard(1, 1, 1));
        refused("guard(1, 1, 0): it is its HOLDER", NO, x -> x.guard(1, 1, 0));
        refused("asset(0, 6, 5, 0)", BAD, x -> x.asset(0, 6, 5, 0));
        refused("says(0): no LAW", NO, x -> x.says(0));
        refused("says(1): no CLAIMS", BAD, x -> x.says(1));
        refused("binds()", NO, x -> x.binds());
        refused("buy(0, 5)", NO, x -> x.buy(0, 5));
        refused("bought(0, 5, 0)", NO, x -> x.bought(0, 5, 0));
        refused("part(0)", NO, x -> x.part(0));
        refused("parted(0, 0)", NO, x -> x.parted(0, 0));
        refused("back()", NO, x -> x.back());
        refused("votes(1)", NOTHING, x -> x.votes(1));
        refused("mark(1, 0, 1)", NOTHING, x -> x.mark(1, 0, 1));
        refused("copy(0, 0, 1, 0, 1)", NOTHING, x -> x.copy(0, 0, 1, 0, 1));
        badLaw("pass 1 bind v", 12);
        badLaw("pass 1 bind", 11);
        badLaw("", 0);
        questions();
        lookAtAll();
    }

    static void ofFull() {
        enter("a full desk", Refusals::full);
        badClaims(24);
        badFacts(6, 16, 400);
        badPlan();
        badSidesAndSheets(96);
        refused("firm()", FULL, x -> x.firm());
        refused("asset(0, 1, 2, 0)", FULL, x -> x.asset(0, 1, 2, 0));
        refused("claim(0, 0, 0, 1)", FULL, x -> x.claim(0, 0, 0, 1));
        refused("amend(0, 1)", FULL, x -> x.amend(0, 1));
        refused("trade(0, 0)", FULL, x -> x.trade(0, 0));
        refused("trade(0, 8): they do", NO, x -> x.trade(0, 8));
        refused("trade(1, 0): a FIRM holds it", NO, x -> x.trade(1, 0));
        refused("feed(1, 2, 3)", FULL, x -> x.feed(1, 2, 3));
        refused("days(1)", BAD, x -> x.days(1));
        refused("mark(0, 24, 1)", INDEX, x -> x.mark(0, 24, 1));
        refused("mark(1, 3, 1)", INDEX, x -> x.mark(1, 3, 1));
        refused("mark(1, -1, 1)", INDEX, x -> x.mark(1, -1, 1));
        refused("copy(0, 0, 1, 0, 4)", INDEX, x -> x.copy(0, 0, 1, 0, 4));
        refused("copy(0, 22, 1, 0, 3)", INDEX, x -> x.copy(0, 22, 1, 0, 3));
        refused("copy(0, 20, 0, 22, 3)", INDEX, x -> x.copy(0, 20, 0, 22, 3));
        refused("copy(0, -1, 1, 0, 1)", INDEX, x -> x.copy(0, -1, 1, 0, 1));
        refused("copy(0, 0, 1, -1, 1)", INDEX, x -> x.copy(0, 0, 1, -1, 1));
        refused("copy(0, 0, 1, 0, -1)", INDEX, x -> x.copy(0, 0, 1, 0, -1));
        badLaw("pass v>1 bind y&", 16);
        badLaw("pass v>1", 8);
        badLaw("bind", 0);
        questions();
        lookAtAll();
    }

    static void ofWaiting() {
        enter("a desk at which 200 numbers wait", Refusals::waits);
        due("all rows wait", made.get().check(0), 0);
        refused("tell(1)", FULL, x -> x.tell(1));
        refused("tell(LEAST)", FULL, x -> x.tell(LEAST));
        badSidesAndSheets(0);
        questions();
        lookAtAll();
    }

    public static void main(String[] args) {
        sentence("A call that is refused .. changes nothing (but the tape and the numbers that wait, where told)");
        ofEmpty();
        ofSmall();
        ofFull();
        ofWaiting();
        end("refused calls change nothing");
    }
}
