/** The edges of what is kept, of sheets, and of counts: promises 43 to 48. */
public final class KeptEdges extends Due {
    static void keepAndBack() {
        sentence("keep: how many CLAIMS there are. / back: of how many. NO: nothing is KEPT.");
        RoomsDesk x = desk(1);
        due("nothing is KEPT", x.back(), NO);
        due("nothing is KEPT still", x.back(), NO);
        due("no CLAIMS", x.keep(), 0);
        due("back of none", x.back(), 0);
        for (int c = 0; c < 24; c++) {
            due("keep", x.keep(), c);
            due("back", x.back(), c);
            x.claim(0, 0, 0, 100);
        }
        due("all CLAIMS", x.keep(), 24);
        for (int c = 0; c < 24; c++) {
            x.put(c, c % 6);
            x.vote(c, 1 + c % 2);
        }
        due("back of all", x.back(), 24);
        for (int c = 0; c < 24; c++) {
            due("CLASS", x.told(c, 2), NONE);
            due("VOTE", x.told(c, 3), 0);
        }
    }

    static void allAtOnce() {
        sentence("CLASSES, TERMS, VOTES are KEPT / They are as they were KEPT (of CLAIMS that there were then)");
        RoomsDesk x = desk(1);
        x.claim(0, 0, 0, 1000);
        x.claim(0, 0, 0, 1000);
        x.put(0, 0);
        x.put(1, 5);
        x.vote(0, 1);
        x.vote(1, 2);
        x.terms(0, 1, 50, 60);
        x.terms(5, 3, 0, 0);
        due("keep", x.keep(), 2);
        x.put(0, 5);
        x.put(1, NONE);
        x.trade(0, 1);
        x.vote(1, 0);
        x.terms(0, 0, 0, 0);
        x.terms(5, 100, 100, 0);
        x.terms(2, 9, 9, 9);
        x.claim(0, 0, 0, 1000);
        x.put(2, 2);
        x.vote(2, 1);
        for (int times = 0; times < 2; times++) {
            due("back", x.back(), 2);
            due("CLASS of the first", x.told(0, 2), 0);
            due("CLASS of the second", x.told(1, 2), 5);
            due("VOTE of the first, though TRADED", x.told(0, 3), 1);
            due("VOTE of the second", x.told(1, 3), 2);
            due("NOW, LATER, MONTHS of the first CLASS", x.worth(0), 10 + 300);
            due("NOW of the last CLASS", x.worth(1), 30);
            due("TERMS of another CLASS", x.worth(2), 0);
            due("CLASS of a later CLAIM stays", x.told(2, 2), 2);
            due("VOTE of a later CLAIM stays", x.told(2, 3), 1);
            due("it has come still", x.count(2), 3);
            x.put(0, 3);
            x.vote(0, 2);
            x.terms(0, 7, 7, 7);
        }
        sentence("keep: (the latest)");
        due("keep anew", x.keep(), 3);
        x.put(0, 4);
        x.put(2, 4);
        due("back to it", x.back(), 3);
        due("CLASS", x.told(0, 2), 3);
        due("CLASS of the third", x.told(2, 2), 2);
        due("TERMS", x.terms(3, 7, 7, 7), 0);
        due("HOLDER is not KEPT", x.holder(0, 0), 1);
    }

    static void othersStay() {
        sentence("KEPT may be CLASSES, TERMS, VOTES (nothing else)");
        RoomsDesk x = desk(2);
        x.claim(0, 0, 0, 1000);
        x.keep();
        x.amend(0, 500);
        x.days(2);
        x.record(1);
        x.rule(0, 2);
        x.rule(1, 3);
        x.guard(0, 1, 1);
        x.dispute(0, 77);
        x.sheet(0, 1);
        x.tell(5);
        law(x, "pass 5 bind 7");
        feed(x, "pass");
        x.back();
        int[] got = {x.known(0, 2), x.count(3), x.count(6), x.rule(0, 0), x.rule(1, 0), x.told(0, 5), x.told(0, 4),
            x.mark(0, 0, 0), x.count(4), x.count(8), x.binds(), x.count(5)};
        int[] want = {500, 2, 1, 2, 3, 2, 77, 0, 1, 4, 7, 12};
        for (int i = 0; i < got.length; i++) {
            due("answer " + i, got[i], want[i]);
        }
    }

    static void sheets() {
        sentence("SHEETS 0, 1 are rows of bytes with 0 to 24 places, or MISSING (at first). / sheet: BAD: sheet, n above 24; SIZE.");
        RoomsDesk x = new RoomsDesk();
        dueAll("missing", s -> x.mark(s, 0, 0), NOTHING, 0, 1);
        dueBeyond("sheet", s -> x.sheet(s, 3), 0, 1, BAD);
        dueAll("n", n -> x.sheet(0, n), BAD, 25, 26, MOST);
        dueAll("n", n -> x.sheet(0, n), SIZE, -1, -2, LEAST, NONE);
        dueBeyond("sheet with n above 24", s -> x.sheet(s, 25), 0, 1, BAD);
        dueBeyond("sheet with n below 0", s -> x.sheet(s, -1), 0, 1, BAD);
        dueAll("still missing", s -> x.mark(s, 0, 0), NOTHING, 0, 1);
        due("no places", x.sheet(0, 0), 0);
        due("there is no place", x.mark(0, 0, 0), INDEX);
        due("the other one is missing still", x.mark(1, 0, 0), NOTHING);
        due("24 places", x.sheet(1, 24), 24);
        for (int place = 0; place < 24; place++) {
            due("all 0", x.mark(1, place, place + 1), 0);
        }
        due("a 25th", x.mark(1, 24, 0), INDEX);
        dueAll("refused n", n -> x.sheet(1, n), BAD, 25, MOST);
        dueAll("refused n", n -> x.sheet(1, n), SIZE, -1, LEAST);
        for (int place = 0; place < 24; place++) {
            due("as it was", x.mark(1, place, place + 1), place + 1);
        }
        due("one place", x.sheet(1, 1), 1);
        due("anew 0", x.mark(1, 0, 9), 0);
        due("the second is gone", x.mark(1, 1, 0), INDEX);
        due("24 places anew", x.sheet(1, 24), 24);
        for (int place = 0; place < 24; place++) {
            due("all 0 anew", x.mark(1, place, 0), 0);
        }
        due("sheet 0 still has none", x.mark(0, 0, 0), INDEX);
    }

    static void marks() {
        sentence("mark: v (as a byte, with its sign): what it was. BAD: sheet; NOTHING; INDEX.");
        RoomsDesk x = new RoomsDesk();
        dueBeyond("sheet", s -> x.mark(s, -1, 0), 0, 1, BAD);
        dueAll("missing: place", p -> x.mark(0, p, 0), NOTHING, -1, 0, 24, MOST);
        x.sheet(0, 2);
        dueBeyond("sheet", s -> x.mark(s, 0, 0), 0, 1, BAD);
        dueBeyond("place", p -> x.mark(0, p, 0), 0, 1, INDEX);
        int[] marks = {127, 128, 255, 256, -128, -129, MOST, LEAST, 1}, bytes = {127, -128, -1, 0, -128, 127, -1, 0, 1};
        int was = 0;
        for (int i = 0; i < marks.length; i++) {
            due("mark", x.mark(0, 1, marks[i]), was);
            was = bytes[i];
        }
        due("the last mark", x.mark(0, 1, 0), 1);
        due("the other place", x.mark(0, 0, 0), 0);
    }

    /** A sheet of n places that has 1, 2, 3 and so on, more by so much. */
    static void number(RoomsDesk x, int s, int n, int more) {
        x.sheet(s, n);
        for (int place = 0; place < n; place++) {
            x.mark(s, place, place + 1 + more);
        }
    }

    static void dueSheet(RoomsDesk x, int s, int... due) {
        for (int place = 0; place < due.length; place++) {
            due("sheet " + s + ", place " + place, x.mark(s, place, due[place]), due[place]);
        }
        due("sheet " + s + " ends", x.mark(s, due.length, 0), INDEX);
    }

    static void refusedCopies() {
        sentence("copy: BAD; NOTHING; INDEX (many below 0, a place beyond the end, too).");
        RoomsDesk x = new RoomsDesk();
        dueBeyond("from", s -> x.copy(s, 0, 0, 0, 0), 0, 1, BAD);
        dueBeyond("to", s -> x.copy(0, 0, s, 0, 0), 0, 1, BAD);
        dueAll("both are missing: many", m -> x.copy(0, 0, 1, 0, m), NOTHING, -1, 0, 1);
        number(x, 0, 5, 0);
        due("to is missing", x.copy(0, 0, 1, 0, 0), NOTHING);
        due("to is missing, no such place", x.copy(0, 9, 1, 0, 1), NOTHING);
        due("from is missing", x.copy(1, 0, 0, 0, 0), NOTHING);
        due("from is missing, many -1", x.copy(1, 0, 0, 0, -1), NOTHING);
        number(x, 1, 3, 10);
        dueBeyond("from", s -> x.copy(s, 0, 0, 0, 1), 0, 1, BAD);
        dueBeyond("to", s -> x.copy(0, 0, s, 0, 1), 0, 1, BAD);
        dueBeyond("to, and many -1", s -> x.copy(0, 0, s, 0, -1), 0, 1, BAD);
        dueAll("many", m -> x.copy(0, 0, 1, 0, m), INDEX, -1, 4, MOST, LEAST, NONE);
        dueAll("many, the other way", m -> x.copy(1, 0, 0, 0, m), INDEX, -1, 4, MOST, LEAST, NONE);
        dueAll("place", p -> x.copy(0, p, 1, 0, 2), INDEX, -1, 4, 5, MOST, LEAST, MOST - 1);
        dueAll("at", p -> x.copy(0, 0, 1, p, 2), INDEX, -1, 2, 3, MOST, LEAST, MOST - 1);
        dueAll("none of place", p -> x.copy(0, p, 1, 0, 0), INDEX, -1, 6, MOST, LEAST);
        dueAll("none to place", p -> x.copy(0, 0, 1, p, 0), INDEX, -1, 4, MOST, LEAST);
        due("all wrong", x.copy(0, MOST, 1, MOST, MOST), INDEX);
        dueSheet(x, 0, 1, 2, 3, 4, 5);
        dueSheet(x, 1, 11, 12, 13);
        sentence("copy: (a SHEET with 0 places is not MISSING)");
        x.sheet(1, 0);
        due("none from it", x.copy(1, 0, 0, 5, 0), 0);
        due("none to it", x.copy(0, 5, 1, 0, 0), 0);
        due("one from it", x.copy(1, 0, 0, 0, 1), INDEX);
        due("one to it", x.copy(0, 0, 1, 0, 1), INDEX);
        due("none, from behind its end", x.copy(1, 1, 0, 0, 0), INDEX);
        due("none, from it to it", x.copy(1, 0, 1, 0, 0), 0);
        dueSheet(x, 0, 1, 2, 3, 4, 5);
    }

    static void copies() {
        sentence("copy: So many places of a SHEET come to another one (or the same), as they were: many.");
        RoomsDesk x = new RoomsDesk();
        number(x, 0, 5, 0);
        number(x, 1, 3, 10);
        due("none", x.copy(0, 0, 1, 0, 0), 0);
        due("none, at both ends", x.copy(0, 5, 1, 3, 0), 0);
        dueSheet(x, 1, 11, 12, 13);
        due("one, the last to the last", x.copy(0, 4, 1, 2, 1), 1);
        dueSheet(x, 1, 11, 12, 5);
        due("all of the lesser one", x.copy(1, 0, 0, 2, 3), 3);
        dueSheet(x, 0, 1, 2, 11, 12, 5);
        due("as many as there is room", x.copy(0, 0, 1, 0, 3), 3);
        dueSheet(x, 1, 1, 2, 11);
        number(x, 0, 5, 0);
        due("the same, to itself", x.copy(0, 0, 0, 0, 5), 5);
        dueSheet(x, 0, 1, 2, 3, 4, 5);
        due("the same, up by one", x.copy(0, 0, 0, 1, 4), 4);
        dueSheet(x, 0, 1, 1, 2, 3, 4);
        number(x, 0, 5, 0);
        due("the same, down by one", x.copy(0, 1, 0, 0, 4), 4);
        dueSheet(x, 0, 2, 3, 4, 5, 5);
        number(x, 1, 24, 0);
        due("the same, up by two, of 24", x.copy(1, 0, 1, 2, 22), 22);
        for (int place = 0; place < 24; place++) {
            due("place " + place, x.mark(1, place, 0), place < 2 ? place + 1 : place - 1);
        }
        number(x, 0, 24, 0);
        number(x, 1, 24, 50);
        due("all 24", x.copy(0, 0, 1, 0, 24), 24);
        for (int place = 0; place < 24; place++) {
            due("place " + place, x.mark(1, place, 0), place + 1);
            due("the first one's place " + place, x.mark(0, place, 0), place + 1);
        }
        x.mark(0, 0, -128);
        x.copy(0, 0, 1, 23, 1);
        due("with its sign", x.mark(1, 23, 0), -128);
    }

    static void counts() {
        sentence("count: 0 FIRMS, 1 ASSETS, 2 CLAIMS, 3 TODAY, 4 numbers that wait, 5 bytes of THE TAPE, 6 THE RECORD DAY,"
                + " 7 CLAIMS that are in no CLASS, 8 words of THE LAW (0 without). BAD.");
        RoomsDesk x = new RoomsDesk();
        dueBeyond("what", w -> x.count(w), 0, 8, BAD);
        for (int what = 0; what <= 8; what++) {
            due("at first, what " + what, x.count(what), 0);
        }
        for (int i = 0; i < 6; i++) {
            x.firm();
        }
        for (int i = 0; i < 16; i++) {
            x.asset(0, 0, 0, 0);
        }
        for (int i = 0; i < 24; i++) {
            x.claim(0, 0, 0, 1);
        }
        for (int i = 0; i < 200; i++) {
            x.tell(i);
        }
        for (int i = 0; i < 5; i++) {
            x.days(60);
        }
        x.days(60);
        x.days(40);
        x.record(399);
        law(x, "pass 1 bind(1)");
        for (int i = 0; i < 8; i++) {
            x.feed(0, 0, 0);
        }
        int[] due = {6, 16, 24, 400, 200, 96, 399, 24, 6};
        for (int what = 0; what <= 8; what++) {
            due("the most, what " + what, x.count(what), due[what]);
        }
        for (int i = 0; i < 24; i++) {
            x.put(i, i % 6);
            due("CLAIMS that are in no CLASS", x.count(7), 23 - i);
        }
        due("a fault", x.law(), -100);
        due("THE LAW stays", x.count(8), 6);
        due("bytes", x.count(5), 0);
    }

    public static void main(String[] args) {
        keepAndBack();
        allAtOnce();
        othersStay();
        sheets();
        marks();
        refusedCopies();
        copies();
        counts();
        end("the edges of what is kept, sheets and counts hold");
    }
}
