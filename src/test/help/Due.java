import java.util.function.IntUnaryOperator;

/** What the tests share: each wrong answer is told and counted, and some calls that make a desk. */
abstract class Due {
    static final int BAD = RoomsDesk.BAD, NO = RoomsDesk.NO, FULL = RoomsDesk.FULL, NONE = RoomsDesk.NONE;
    static final int NOTHING = RoomsDesk.NOTHING, INDEX = RoomsDesk.INDEX, SIZE = RoomsDesk.SIZE;
    static final int MOST = Integer.MAX_VALUE, LEAST = Integer.MIN_VALUE;
    private static String sentence = "";
    private static int wrong;

    /** The words of the document on which the calls that follow lean. */
    static void sentence(String words) {
        sentence = words;
    }

    static void due(String what, int got, int want) {
        if (got != want) {
            wrong++;
            System.out.println("\"" + sentence + "\": " + what + " answered " + got + ", due is " + want);
        }
    }

    static void dueAll(String what, IntUnaryOperator call, int want, int... values) {
        for (int v : values) {
            due(what + " " + v, call.applyAsInt(v), want);
        }
    }

    /** An argument that is below least or above most, or far away, or means none, answers that. */
    static void dueBeyond(String what, IntUnaryOperator call, int least, int most, int want) {
        dueAll(what, call, want, least - 1, most + 1, LEAST, MOST, BAD);
    }

    static void end(String fine) {
        System.out.println(wrong == 0 ? fine : wrong + " answers are not as due");
        if (wrong != 0) {
            System.exit(1);
        }
    }

    static RoomsDesk desk(int firms) {
        RoomsDesk x = new RoomsDesk();
        for (int i = 0; i < firms; i++) {
            x.firm();
        }
        return x;
    }

    /** One firm, and claims of kind 0 on it with these amounts and votes, all in class 0. */
    static RoomsDesk room(int[] amounts, int[] votes) {
        RoomsDesk x = desk(1);
        for (int c = 0; c < amounts.length; c++) {
            x.claim(0, 0, c % 10, amounts[c]);
            x.put(c, 0);
            x.vote(c, votes[c]);
        }
        return x;
    }

    static void feed(RoomsDesk x, String text) {
        for (int at = 0; at < text.length(); at += 12) {
            int[] n = new int[3];
            for (int i = 0; i < 12; i++) {
                n[i / 4] = n[i / 4] << 8 | (at + i < text.length() ? text.charAt(at + i) : 0);
            }
            x.feed(n[0], n[1], n[2]);
        }
    }

    static int law(RoomsDesk x, String text) {
        x.trim(0);
        feed(x, text);
        x.trim(text.length());
        return x.law();
    }
}
