import java.util.ArrayList;
import java.util.Arrays;
import java.util.List;
import java.util.Random;

/**
 * Random runs (of fixed seeds) on a desk and on a slow model, written apart from it straight from the
 * document, whose answers must be the same.
 */
public final class ModelRuns {
    static final int BAD = -1000000001, NO = -1000000002, FULL = -1000000003, NONE = -1000000005;
    static final int NOTHING = -1000000011, INDEX = -1000000013, SIZE = -1000000014;
    static final int RUNS = 300, ROOMS = 60, CALLS = 510;
    static int wrong = 0;

    // ---- the model

    static final class Claim {
        int kind, firm, disputed = NONE, aClass = NONE, vote, amended, traded;
        boolean[] guardedBy = new boolean[6];
        List<int[]> amounts = new ArrayList<>(), holders = new ArrayList<>();

        static int latest(List<int[]> told, int day, int ahead) {
            int found = ahead;
            for (int[] entry : told) {
                if (entry[0] <= day) {
                    found = entry[1];
                }
            }
            return found;
        }

        int amount(int day) {
            return latest(amounts, day, 0);
        }

        int holder(int day) {
            return latest(holders, day, holders.get(0)[1]);
        }
    }

    static final class Asset {
        int firm, low, high, months, charged = NONE;
    }

    static final class Wound {
        List<int[]> rows = new ArrayList<>();
        long[] cash = new long[6];
        long[] got = new long[24];
        int rounds;
    }

    static final class Votes {
        long yes, no, all, yesMany, noMany, members, kind;

        int of(char name) {
            switch (name) {
                case 'v': return yes + no == 0 ? 0 : (int) (100 * yes / (yes + no));
                case 'n': return yesMany + noMany == 0 ? 0 : (int) (100 * yesMany / (yesMany + noMany));
                case 't': return all == 0 ? 0 : (int) (100 * (yes + no) / all);
                case 'k': return (int) kind;
                default: return (int) members;
            }
        }
    }

    static final class Model {
        int firms, today, recordDay, wait, off = 8, words;
        List<Asset> assets = new ArrayList<>();
        List<Claim> claims = new ArrayList<>();
        int[][] terms = new int[6][3];
        List<Integer> waiting = new ArrayList<>();
        List<Integer> tape = new ArrayList<>();
        List<String> passE, bindE;
        List<int[]> kept;
        int[][] keptTerms;
        byte[][] sheets = new byte[2][];

        static boolean in(int v, int low, int high) {
            return low <= v && v <= high;
        }

        boolean isClaim(int c) {
            return in(c, 0, claims.size() - 1);
        }

        boolean isFirm(int f) {
            return in(f, 0, firms - 1);
        }

        int firm() {
            return firms == 6 ? FULL : firms++;
        }

        int asset(int firm, int low, int high, int months) {
            if (!isFirm(firm) || !in(low, 0, 100000) || !in(high, 0, 100000) || low > high || !in(months, 0, 24)) {
                return BAD;
            }
            if (assets.size() == 16) {
                return FULL;
            }
            Asset a = new Asset();
            a.firm = firm;
            a.low = low;
            a.high = high;
            a.months = months;
            assets.add(a);
            return assets.size() - 1;
        }

        int charge(int asset, int claim) {
            if (!in(asset, 0, assets.size() - 1) || claim != NONE && !isClaim(claim)) {
                return BAD;
            }
            Asset a = assets.get(asset);
            if (claim != NONE && (claims.get(claim).kind != 1 || claims.get(claim).firm != a.firm)) {
                return NO;
            }
            int was = a.charged;
            a.charged = claim;
            return was;
        }

        int brings(int asset, int side) {
            if (!in(asset, 0, assets.size() - 1) || !in(side, 0, 1)) {
                return BAD;
            }
            Asset a = assets.get(asset);
            int x = side == 0 ? a.low : a.high;
            return x - (int) Math.floor((double) x * wait * a.months / 100);
        }

        int claim(int kind, int firm, int holder, int amount) {
            boolean people = in(holder, 0, 9);
            boolean other = holder >= 10 && isFirm(holder - 10) && holder - 10 != firm;
            if (!in(kind, 0, 4) || !isFirm(firm) || !people && !other || !in(amount, 1, 100000)) {
                return BAD;
            }
            if (claims.size() == 24) {
                return FULL;
            }
            Claim c = new Claim();
            c.kind = kind;
            c.firm = firm;
            c.amounts.add(new int[] {today, amount});
            c.holders.add(new int[] {today, holder});
            claims.add(c);
            return claims.size() - 1;
        }

        int isOf(int claim, int kind) {
            if (!isClaim(claim) || !in(kind, 0, 4)) {
                return BAD;
            }
            int[] under = {-1, 0, 0, 0, 2};
            for (int k = claims.get(claim).kind; k >= 0; k = under[k]) {
                if (k == kind) {
                    return 1;
                }
            }
            return 0;
        }

        int amend(int claim, int amount) {
            if (!isClaim(claim) || !in(amount, 0, 100000)) {
                return BAD;
            }
            Claim c = claims.get(claim);
            if (c.amended == 8) {
                return FULL;
            }
            int was = c.amount(today);
            c.amended++;
            c.amounts.add(new int[] {today, amount});
            return was;
        }

        int trade(int claim, int holder) {
            if (!isClaim(claim) || !in(holder, 0, 9)) {
                return BAD;
            }
            Claim c = claims.get(claim);
            int was = c.holder(today);
            if (was > 9 || was == holder) {
                return NO;
            }
            if (c.traded == 8) {
                return FULL;
            }
            c.traded++;
            c.holders.add(new int[] {today, holder});
            c.vote = 0;
            return was;
        }

        int guard(int claim, int firm, int on) {
            if (!isClaim(claim) || !isFirm(firm) || !in(on, 0, 1)) {
                return BAD;
            }
            Claim c = claims.get(claim);
            if (c.firm == firm || c.holder(today) == firm + 10) {
                return NO;
            }
            int was = c.guardedBy[firm] ? 1 : 0;
            c.guardedBy[firm] = on == 1;
            return was;
        }

        int dispute(int claim, int sum) {
            if (!isClaim(claim) || sum != NONE && !in(sum, 0, 100000)) {
                return BAD;
            }
            int was = claims.get(claim).disputed;
            claims.get(claim).disputed = sum;
            return was;
        }

        int value(Claim c) {
            return c.disputed != NONE ? c.disputed : c.amount(recordDay);
        }

        int told(int claim, int what) {
            if (!isClaim(claim) || !in(what, 0, 5)) {
                return BAD;
            }
            Claim c = claims.get(claim);
            int bits = 0;
            for (int f = 0; f < 6; f++) {
                bits += c.guardedBy[f] ? 1 << f : 0;
            }
            return new int[] {c.kind, c.firm, c.aClass, c.vote, value(c), bits}[what];
        }

        int known(int claim, int day) {
            return isClaim(claim) && in(day, 0, today) ? claims.get(claim).amount(day) : BAD;
        }

        int holder(int claim, int day) {
            return isClaim(claim) && in(day, 0, today) ? claims.get(claim).holder(day) : BAD;
        }

        int days(int n) {
            if (!in(n, 1, 60) || today + n > 400) {
                return BAD;
            }
            return today += n;
        }

        Wound wound(int side) {
            Wound w = new Wound();
            long[] open = new long[24];
            for (int c = 0; c < claims.size(); c++) {
                open[c] = claims.get(c).amount(today);
            }
            for (int a = 0; a < assets.size(); a++) {
                Asset asset = assets.get(a);
                long brought = brings(a, side);
                long paid = 0;
                if (asset.charged != NONE) {
                    paid = Math.min(brought, open[asset.charged]);
                    give(w, open, 0, asset.firm, asset.charged, paid);
                }
                w.cash[asset.firm] += brought - paid;
            }
            boolean any = true;
            while (any && w.rounds < 60) {
                w.rounds++;
                any = round(w, open);
            }
            return w;
        }

        void give(Wound w, long[] open, int round, int firm, int claim, long coins) {
            if (coins == 0) {
                return;
            }
            open[claim] -= coins;
            w.got[claim] += coins;
            int holder = claims.get(claim).holder(today);
            if (holder >= 10) {
                w.cash[holder - 10] += coins;
            }
            w.rows.add(new int[] {round, firm, claim, (int) coins});
        }

        boolean round(Wound w, long[] open) {
            int before = w.rows.size();
            int[] rankOf = {2, 2, 1, 3, 0};
            for (int f = 0; f < firms; f++) {
                for (int rank = 0; rank < 4; rank++) {
                    List<Integer> in = new ArrayList<>();
                    long total = 0;
                    for (int c = 0; c < claims.size(); c++) {
                        Claim claim = claims.get(c);
                        boolean own = claim.firm == f && rankOf[claim.kind] == rank;
                        if (own || rank == 2 && claim.guardedBy[f]) {
                            in.add(c);
                            total += open[c];
                        }
                    }
                    long cash = w.cash[f];
                    for (int c : in) {
                        long share = cash >= total ? open[c] : cash * open[c] / total;
                        w.cash[f] -= share;
                        give(w, open, w.rounds, f, c, share);
                    }
                    if (cash < total) {
                        break;
                    }
                }
            }
            return w.rows.size() > before;
        }

        int wind(int side) {
            if (!in(side, 0, 1)) {
                return BAD;
            }
            Wound w = wound(side);
            long sum = 0;
            for (int c = 0; c < claims.size(); c++) {
                sum += claims.get(c).holder(today) < 10 ? w.got[c] : 0;
            }
            return (int) sum;
        }

        int gets(int claim, int side) {
            return isClaim(claim) && in(side, 0, 1) ? (int) wound(side).got[claim] : BAD;
        }

        int ends(int side, int what) {
            if (!in(side, 0, 1) || !in(what, 0, 2)) {
                return BAD;
            }
            Wound w = wound(side);
            return what == 0 ? w.rounds : what == 1 ? w.rows.size() : (int) Arrays.stream(w.cash).sum();
        }

        int cash(int firm, int side) {
            return isFirm(firm) && in(side, 0, 1) ? (int) wound(side).cash[firm] : BAD;
        }

        int row(int side, int i, int what) {
            if (!in(side, 0, 1) || i < 0 || !in(what, 0, 3)) {
                return BAD;
            }
            List<int[]> rows = wound(side).rows;
            return i < 600 && i < rows.size() ? rows.get(i)[what] : NONE;
        }

        int tell(int v) {
            if (waiting.size() == 200) {
                return FULL;
            }
            waiting.add(v);
            return waiting.size();
        }

        int check(int side) {
            List<Integer> told = waiting;
            waiting = new ArrayList<>();
            if (!in(side, 0, 1)) {
                return BAD;
            }
            List<Integer> due = new ArrayList<>();
            for (int[] row : wound(side).rows) {
                for (int part : row) {
                    due.add(part);
                }
            }
            int i = 0;
            while (i < told.size() && i < due.size() && told.get(i).equals(due.get(i))) {
                i++;
            }
            return i == told.size() && i == due.size() ? 0 : 1 + i;
        }

        int put(int claim, int aClass) {
            if (!isClaim(claim) || aClass != NONE && !in(aClass, 0, 5)) {
                return BAD;
            }
            int was = claims.get(claim).aClass;
            claims.get(claim).aClass = aClass;
            return was;
        }

        List<Integer> of(int aClass) {
            List<Integer> list = new ArrayList<>();
            for (int c = 0; c < claims.size(); c++) {
                if (claims.get(c).aClass == aClass) {
                    list.add(c);
                }
            }
            return list;
        }

        List<Integer> charged(int claim) {
            List<Integer> list = new ArrayList<>();
            for (int a = 0; a < assets.size(); a++) {
                if (assets.get(a).charged == claim) {
                    list.add(a);
                }
            }
            return list;
        }

        int quarrel(int aClass) {
            if (!in(aClass, 0, 5)) {
                return BAD;
            }
            List<Integer> list = of(aClass);
            for (int i = 0; i < list.size(); i++) {
                for (int j = i + 1; j < list.size(); j++) {
                    Claim a = claims.get(list.get(i));
                    Claim b = claims.get(list.get(j));
                    boolean alike = a.firm == b.firm && a.kind == b.kind
                            && (a.kind != 1 || charged(list.get(i)).equals(charged(list.get(j))));
                    if (!alike) {
                        return 100 * list.get(i) + list.get(j);
                    }
                }
            }
            return NONE;
        }

        int terms(int aClass, int now, int later, int months) {
            if (!in(aClass, 0, 5) || !in(now, 0, 100) || !in(later, 0, 100) || !in(months, 0, 60)) {
                return BAD;
            }
            terms[aClass] = new int[] {now, later, months};
            return 0;
        }

        int worth(int claim) {
            if (!isClaim(claim)) {
                return BAD;
            }
            Claim c = claims.get(claim);
            if (c.aClass == NONE) {
                return 0;
            }
            int[] t = terms[c.aClass];
            long amount = c.amount(today);
            return (int) (amount * t[0] / 100 + amount * t[1] / 100 * (1200 - off * t[2]) / 1200);
        }

        int worse(int aClass, int side) {
            if (!in(aClass, 0, 5) || !in(side, 0, 1)) {
                return BAD;
            }
            Wound w = wound(side);
            for (int c : of(aClass)) {
                if (w.got[c] > worth(c)) {
                    return 1;
                }
            }
            return 0;
        }

        int vote(int claim, int v) {
            if (!isClaim(claim) || !in(v, 0, 2)) {
                return BAD;
            }
            int was = claims.get(claim).vote;
            claims.get(claim).vote = v;
            return was;
        }

        int votes(int s) {
            if (!in(s, 0, 1)) {
                return BAD;
            }
            if (sheets[s] == null) {
                return NOTHING;
            }
            int many = 0;
            for (int c = 0; c < claims.size() && c < sheets[s].length; c++) {
                claims.get(c).vote = in(sheets[s][c], 0, 2) ? sheets[s][c] : 0;
                many++;
            }
            return many;
        }

        int record(int d) {
            if (!in(d, 0, today)) {
                return BAD;
            }
            int was = recordDay;
            recordDay = d;
            return was;
        }

        int rule(int which, int v) {
            int was = which == 0 ? wait : off;
            if (which == 0 && in(v, 0, 4)) {
                wait = v;
                return was;
            }
            if (which == 1 && in(v, 0, 20)) {
                off = v;
                return was;
            }
            return BAD;
        }

        int feed(int a, int b, int c) {
            if (tape.size() > 84) {
                return FULL;
            }
            for (int n : new int[] {a, b, c}) {
                for (int place = 0; place < 4; place++) {
                    tape.add(n >>> 24);
                    n <<= 8;
                }
            }
            return tape.size();
        }

        int trim(int n) {
            if (!in(n, 0, tape.size())) {
                return BAD;
            }
            tape = new ArrayList<>(tape.subList(0, n));
            return n;
        }

        int law() {
            Walk walk = new Walk();
            int fault = -1;
            for (int i = 0; i < tape.size() && fault < 0; i++) {
                if (!walk.goes((char) (int) tape.get(i))) {
                    fault = i;
                }
            }
            if (fault < 0 && !walk.mayEnd()) {
                fault = tape.size();
            }
            tape = new ArrayList<>();
            if (fault >= 0) {
                return -100 - fault;
            }
            passE = walk.passE;
            bindE = walk.bindE;
            words = 2 + passE.size() + bindE.size();
            return words;
        }

        Votes votesOf(List<Integer> list, List<Integer> turned) {
            Votes t = new Votes();
            for (int c : list) {
                Claim claim = claims.get(c);
                int v = turned.contains(c) ? 1 : claim.vote;
                t.all += value(claim);
                t.yes += v == 1 ? value(claim) : 0;
                t.no += v == 2 ? value(claim) : 0;
                t.yesMany += v == 1 ? 1 : 0;
                t.noMany += v == 2 ? 1 : 0;
            }
            t.members = list.size();
            t.kind = list.isEmpty() ? 0 : claims.get(list.get(0)).kind;
            return t;
        }

        int passE(List<Integer> list, List<Integer> turned) {
            Votes t = votesOf(list, turned);
            int[] names = new int[26];
            for (char c : "vntkm".toCharArray()) {
                names[c - 'a'] = t.of(c);
            }
            return Worth.of(passE, names);
        }

        boolean passesList(List<Integer> list, List<Integer> turned) {
            return passE != null && !list.isEmpty() && passE(list, turned) != 0;
        }

        int says(int aClass) {
            if (!in(aClass, 0, 5) || of(aClass).isEmpty()) {
                return BAD;
            }
            return passE == null ? NO : passE(of(aClass), List.of());
        }

        int binds() {
            if (passE == null) {
                return NO;
            }
            int[] names = new int[26];
            for (char c : "ycwusq".toCharArray()) {
                names[c - 'a'] = name(c, NONE);
            }
            return Worth.of(bindE, names);
        }

        int passes(int aClass) {
            return !in(aClass, 0, 5) ? BAD : passesList(of(aClass), List.of()) ? 1 : 0;
        }

        int name(int letter, int aClass) {
            if (letter < 97 || letter > 122) {
                return BAD;
            }
            if ("vntkm".indexOf(letter) >= 0) {
                boolean ok = in(aClass, 0, 5) && !of(aClass).isEmpty();
                return ok ? votesOf(of(aClass), List.of()).of((char) letter) : BAD;
            }
            if ("ycwusq".indexOf(letter) < 0 || aClass != NONE) {
                return BAD;
            }
            int y = 0, c = 0, w = 0, u = 0, s = 0, q = 0;
            for (int k = 0; k < 6; k++) {
                y += passes(k);
                c += of(k).isEmpty() ? 0 : 1;
                w += letter == 'w' ? worse(k, 0) : 0;
                u += letter == 'u' ? worse(k, 1) : 0;
                s |= !of(k).isEmpty() && claims.get(of(k).get(0)).kind == 1 && passes(k) == 1 ? 1 : 0;
                q |= quarrel(k) != NONE ? 1 : 0;
            }
            return new int[] {y, c, w, u, s, q}["ycwusq".indexOf(letter)];
        }

        /** The best set, or null: ranked by cost, how many, and the bits of its claims' numbers. */
        List<Integer> purchase(int aClass, int price) {
            List<Integer> all = of(aClass);
            List<Integer> no = new ArrayList<>();
            for (int c : all) {
                if (claims.get(c).vote == 2 && no.size() < 10) {
                    no.add(c);
                }
            }
            List<Integer> best = null;
            long[] bestRank = null;
            for (List<Integer> set : subsets(no)) {
                if (!passesList(all, set)) {
                    continue;
                }
                long[] rank = {cost(set, price), set.size(), bits(set)};
                if (best == null || Arrays.compare(rank, bestRank) < 0) {
                    best = set;
                    bestRank = rank;
                }
            }
            return best;
        }

        List<Integer> thePart(int aClass) {
            List<Integer> all = of(aClass);
            List<Integer> ten = all.subList(0, Math.min(10, all.size()));
            List<Integer> best = null;
            for (List<Integer> set : subsets(ten)) {
                if (passesList(set, List.of()) && (best == null || set.size() < best.size()
                        || set.size() == best.size() && bits(set) < bits(best))) {
                    best = set;
                }
            }
            return best;
        }

        static List<List<Integer>> subsets(List<Integer> of) {
            List<List<Integer>> sets = new ArrayList<>();
            sets.add(new ArrayList<>());
            for (int element : of) {
                for (int i = sets.size() - 1; i >= 0; i--) {
                    List<Integer> more = new ArrayList<>(sets.get(i));
                    more.add(element);
                    sets.add(more);
                }
            }
            return sets;
        }

        static long bits(List<Integer> set) {
            return set.stream().mapToLong(c -> 1L << c).sum();
        }

        long cost(List<Integer> set, int price) {
            return set.stream().mapToLong(c -> (long) value(claims.get(c)) * price / 100).sum();
        }

        int buy(int aClass, int price) {
            if (!in(aClass, 0, 5) || !in(price, 1, 200)) {
                return BAD;
            }
            List<Integer> best = purchase(aClass, price);
            return best == null ? NO : (int) cost(best, price);
        }

        int bought(int aClass, int price, int i) {
            if (!in(aClass, 0, 5) || !in(price, 1, 200) || i < 0) {
                return BAD;
            }
            List<Integer> best = purchase(aClass, price);
            return best == null ? NO : i < best.size() ? best.get(i) : NONE;
        }

        int part(int aClass) {
            if (!in(aClass, 0, 5)) {
                return BAD;
            }
            List<Integer> best = thePart(aClass);
            return best == null ? NO : best.size();
        }

        int parted(int aClass, int i) {
            if (!in(aClass, 0, 5) || i < 0) {
                return BAD;
            }
            List<Integer> best = thePart(aClass);
            return best == null ? NO : i < best.size() ? best.get(i) : NONE;
        }

        int keep() {
            kept = new ArrayList<>();
            for (Claim c : claims) {
                kept.add(new int[] {c.aClass, c.vote});
            }
            keptTerms = terms.clone();
            return claims.size();
        }

        int back() {
            if (kept == null) {
                return NO;
            }
            for (int c = 0; c < kept.size(); c++) {
                claims.get(c).aClass = kept.get(c)[0];
                claims.get(c).vote = kept.get(c)[1];
            }
            terms = keptTerms.clone();
            return kept.size();
        }

        int sheet(int s, int n) {
            if (!in(s, 0, 1) || n > 24) {
                return BAD;
            }
            if (n < 0) {
                return SIZE;
            }
            sheets[s] = new byte[n];
            return n;
        }

        int mark(int s, int place, int v) {
            if (!in(s, 0, 1)) {
                return BAD;
            }
            if (sheets[s] == null) {
                return NOTHING;
            }
            if (!in(place, 0, sheets[s].length - 1)) {
                return INDEX;
            }
            int was = sheets[s][place];
            sheets[s][place] = (byte) v;
            return was;
        }

        int copy(int from, int place, int to, int at, int many) {
            if (!in(from, 0, 1) || !in(to, 0, 1)) {
                return BAD;
            }
            if (sheets[from] == null || sheets[to] == null) {
                return NOTHING;
            }
            if (many < 0 || place < 0 || at < 0 || (long) place + many > sheets[from].length
                    || (long) at + many > sheets[to].length) {
                return INDEX;
            }
            System.arraycopy(sheets[from].clone(), place, sheets[to], at, many);
            return many;
        }

        int count(int what) {
            switch (what) {
                case 0: return firms;
                case 1: return assets.size();
                case 2: return claims.size();
                case 3: return today;
                case 4: return waiting.size();
                case 5: return tape.size();
                case 6: return recordDay;
                case 7: return of(NONE).size();
                case 8: return words;
                default: return BAD;
            }
        }
    }

    /** Goes along a text byte by byte: whether some text of the law begins so. */
    static final class Walk {
        static final int PASS = 0, PART = 1, DIGITS = 2, BEHIND = 3, MAYBE_EQUAL = 4, IND = 5, KEYWORD_DONE = 6;
        int state = PASS, at = 0, marks, glued;
        boolean inBind;
        List<Boolean> compared = new ArrayList<>(List.of(false));
        List<String> passE = new ArrayList<>(), bindE = new ArrayList<>();

        List<String> e() {
            return inBind ? bindE : passE;
        }

        boolean mayEnd() {
            return inBind && (state == DIGITS || state == BEHIND) && compared.size() == 1;
        }

        boolean goes(char b) {
            switch (state) {
                case PASS:
                    if (b == ' ' && at == 0) {
                        return true;
                    }
                    if (b != "pass".charAt(at++)) {
                        return false;
                    }
                    if (at == 4) {
                        state = KEYWORD_DONE;
                    }
                    return true;
                case IND:
                    if (b != "ind".charAt(at++)) {
                        return false;
                    }
                    if (at == 3) {
                        inBind = true;
                        compared = new ArrayList<>(List.of(false));
                        state = KEYWORD_DONE;
                    }
                    return true;
                case KEYWORD_DONE:
                    marks = 0;
                    state = PART;
                    return !Character.isLetterOrDigit(b) && part(b);
                case MAYBE_EQUAL:
                    state = PART;
                    if (b == '=') {
                        e().set(e().size() - 1, e().get(e().size() - 1) + "=");
                        return true;
                    }
                    return part(b);
                case PART:
                    return part(b);
                case DIGITS:
                    if (b >= '0' && b <= '9') {
                        String number = e().get(e().size() - 1) + b;
                        e().set(e().size() - 1, number);
                        return number.length() <= 6;
                    }
                    glued = 1;
                    state = BEHIND;
                    return behind(b);
                default:
                    return behind(b);
            }
        }

        boolean part(char b) {
            if (b == ' ') {
                return true;
            }
            if (b == '!' || b == '-') {
                e().add(b == '!' ? "not" : "neg");
                return ++marks <= 20;
            }
            if (b == '(') {
                e().add("(");
                compared.add(false);
                marks = 0;
                return compared.size() <= 9;
            }
            if (b >= '0' && b <= '9') {
                e().add("" + b);
                state = DIGITS;
                return true;
            }
            e().add("" + b);
            state = BEHIND;
            glued = 1;
            return (inBind ? "ycwusq" : "vntkm").indexOf(b) >= 0;
        }

        boolean behind(char b) {
            int top = compared.size() - 1;
            if (b == ' ') {
                glued = 0;
                return true;
            }
            if (b == 'b' && !inBind && top == 0 && glued == 0) {
                state = IND;
                at = 0;
                return true;
            }
            if (b == ')') {
                e().add(")");
                compared.remove(top);
                glued = 0;
                return top > 0;
            }
            e().add("" + b);
            marks = 0;
            state = PART;
            if (b == '|' || b == '&') {
                compared.set(top, false);
                return true;
            }
            if (b == '<' || b == '>' || b == '=') {
                state = b == '=' ? PART : MAYBE_EQUAL;
                return !compared.set(top, true);
            }
            return b == '+' || b == '-' || b == '*';
        }
    }

    /** What the words of an expression give: split at the last of its loosest signs. */
    static final class Worth {
        static final List<List<String>> LEVELS = List.of(List.of("|"), List.of("&"),
                List.of("<", "<=", "=", ">=", ">"), List.of("+", "-"), List.of("*"));

        static int of(List<String> words, int[] names) {
            for (List<String> signs : LEVELS) {
                int depth = 0;
                for (int i = words.size() - 1; i > 0; i--) {
                    String word = words.get(i);
                    depth += word.equals(")") ? 1 : word.equals("(") ? -1 : 0;
                    if (depth == 0 && signs.contains(word)) {
                        int left = of(words.subList(0, i), names);
                        int right = of(words.subList(i + 1, words.size()), names);
                        return joined(word, left, right);
                    }
                }
            }
            String first = words.get(0);
            if (first.equals("not")) {
                return of(words.subList(1, words.size()), names) == 0 ? 1 : 0;
            }
            if (first.equals("neg")) {
                return -of(words.subList(1, words.size()), names);
            }
            if (first.equals("(")) {
                return of(words.subList(1, words.size() - 1), names);
            }
            char b = first.charAt(0);
            return Character.isDigit(b) ? Integer.parseInt(first) : names[b - 'a'];
        }

        static int joined(String sign, int l, int r) {
            switch (sign) {
                case "|": return (l | r) != 0 ? 1 : 0;
                case "&": return l == 0 ? 0 : r == 0 ? 0 : 1;
                case "<": return l < r ? 1 : 0;
                case "<=": return l > r ? 0 : 1;
                case "=": return l == r ? 1 : 0;
                case ">=": return l < r ? 0 : 1;
                case ">": return l > r ? 1 : 0;
                case "+": return (int) ((long) l + r);
                case "-": return (int) ((long) l - r);
                default: return (int) ((long) l * r);
            }
        }
    }

    // ---- the runs

    static Random random;
    static RoomsDesk desk;
    static Model model;
    static StringBuilder told;
    static int calls;

    static void same(String call, int got, int want) {
        calls++;
        told.append(call).append(" -> ").append(got).append('\n');
        if (got != want) {
            wrong++;
            if (wrong <= 3) {
                System.out.println(told + "  but due is " + want);
            }
        }
    }

    static int upTo(int n) {
        return random.nextInt(n + 1);
    }

    /** Mostly 0 .. most, at times an edge or what is far outside. */
    static int any(int most) {
        if (random.nextInt(25) != 0) {
            return upTo(Math.max(0, most));
        }
        int[] odd = {-1, most + 1, most + 2, NONE, BAD, Integer.MAX_VALUE, Integer.MIN_VALUE, 0, most};
        return odd[random.nextInt(odd.length)];
    }

    static int anyOrNone(int most) {
        return random.nextInt(6) == 0 ? NONE : any(most);
    }

    static int coins() {
        int[] most = {3, 20, 150, 1000, 100000};
        return any(most[random.nextInt(most.length)]);
    }

    static int claimNumber() {
        return any(model.claims.size() - 1);
    }

    static int firmNumber() {
        return any(model.firms - 1);
    }

    static String expression(boolean ofBind, int depth) {
        StringBuilder e = new StringBuilder(part(ofBind, depth));
        String[] signs = {"|", "&", "<", "<=", "=", ">=", ">", "+", "-", "*", "+", "&"};
        for (int more = random.nextInt(4); more > 0; more--) {
            e.append(blanks()).append(signs[random.nextInt(signs.length)]).append(blanks()).append(part(ofBind, depth));
        }
        return e.toString();
    }

    static String part(boolean ofBind, int depth) {
        int pick = random.nextInt(10);
        if (pick == 0) {
            return "!" + part(ofBind, depth);
        }
        if (pick == 1) {
            return "-" + blanks() + part(ofBind, depth);
        }
        if (pick <= 3 && depth < 9) {
            return "(" + expression(ofBind, depth + 1) + blanks() + ")";
        }
        if (pick <= 5) {
            int[] numbers = {0, 1, 50, 66, 75, 100, 999999, 3};
            return "" + numbers[random.nextInt(numbers.length)];
        }
        String names = ofBind ? "ycwusq" : "vntkm";
        return "" + names.charAt(random.nextInt(names.length()));
    }

    static String blanks() {
        return " ".repeat(Math.max(0, random.nextInt(7) - 5));
    }

    static String lawText() {
        String text = blanks() + "pass " + blanks() + expression(false, 0) + " bind " + expression(true, 0) + blanks();
        for (int changes = Math.max(0, random.nextInt(6) - 3); changes > 0; changes--) {
            int at = random.nextInt(text.length() + 1);
            String alphabet = "  vntkmycwusqpassbind0189()!-+*<=>&|Zz\0\u00e9";
            String put = random.nextInt(3) == 0 ? "" : "" + alphabet.charAt(random.nextInt(alphabet.length()));
            text = text.substring(0, at) + put + text.substring(Math.min(text.length(), at + random.nextInt(2)));
        }
        return text.length() > 96 ? text.substring(0, 96) : text;
    }

    static void law(String text) {
        same("trim(0)", desk.trim(0), model.trim(0));
        StringBuilder padded = new StringBuilder(text);
        while (padded.length() % 12 != 0) {
            padded.append('\0');
        }
        for (int at = 0; at < padded.length(); at += 12) {
            int[] n = new int[3];
            for (int i = 0; i < 12; i++) {
                n[i / 4] = n[i / 4] << 8 | padded.charAt(at + i);
            }
            same("feed " + Arrays.toString(n), desk.feed(n[0], n[1], n[2]), model.feed(n[0], n[1], n[2]));
        }
        same("trim", desk.trim(text.length()), model.trim(text.length()));
        same("law '" + text + "'", desk.law(), model.law());
    }

    static void changeFacts() {
        switch (upTo(15)) {
            case 0: {
                same("firm()", desk.firm(), model.firm());
                break;
            }
            case 1: case 2: case 3: {
                int f = firmNumber(), a = coins(), b = coins(), m = any(24);
                int low = random.nextInt(9) == 0 ? a : Math.min(a, b), high = random.nextInt(9) == 0 ? b : Math.max(a, b);
                same("asset " + f + "," + low + "," + high + "," + m, desk.asset(f, low, high, m), model.asset(f, low, high, m));
                break;
            }
            case 4: case 5: {
                int a = any(model.assets.size() - 1), c = anyOrNone(model.claims.size() - 1);
                same("charge " + a + "," + c, desk.charge(a, c), model.charge(a, c));
                break;
            }
            case 6: case 7: case 8: case 9: {
                int k = any(4), f = firmNumber(), h = random.nextInt(3) == 0 ? 10 + any(model.firms - 1) : any(9), a = coins();
                same("claim " + k + "," + f + "," + h + "," + a, desk.claim(k, f, h, a), model.claim(k, f, h, a));
                break;
            }
            case 10: {
                int c = claimNumber(), a = coins();
                same("amend " + c + "," + a, desk.amend(c, a), model.amend(c, a));
                break;
            }
            case 11: {
                int c = claimNumber(), h = any(9);
                same("trade " + c + "," + h, desk.trade(c, h), model.trade(c, h));
                break;
            }
            case 12: case 13: {
                int c = claimNumber(), f = firmNumber(), on = any(1);
                same("guard " + c + "," + f + "," + on, desk.guard(c, f, on), model.guard(c, f, on));
                break;
            }
            case 14: {
                int c = claimNumber(), s = random.nextBoolean() ? NONE : coins();
                same("dispute " + c + "," + s, desk.dispute(c, s), model.dispute(c, s));
                break;
            }
            default: {
                int n = random.nextBoolean() ? upTo(5) : any(60);
                same("days " + n, desk.days(n), model.days(n));
                break;
            }
        }
    }

    static void changePlan() {
        switch (upTo(12)) {
            case 0: case 1: case 2: case 3: {
                int c = claimNumber(), k = random.nextBoolean() ? upTo(1) : anyOrNone(5);
                same("put " + c + "," + k, desk.put(c, k), model.put(c, k));
                break;
            }
            case 4: {
                int k = any(5), n = any(100), l = any(100), m = any(60);
                same("terms " + k + "," + n + "," + l + "," + m, desk.terms(k, n, l, m), model.terms(k, n, l, m));
                break;
            }
            case 5: case 6: case 7: {
                int c = claimNumber(), v = any(2);
                same("vote " + c + "," + v, desk.vote(c, v), model.vote(c, v));
                break;
            }
            case 8: {
                int d = any(model.today);
                same("record " + d, desk.record(d), model.record(d));
                break;
            }
            case 9: {
                int w = any(1), v = any(w == 0 ? 4 : 20);
                same("rule " + w + "," + v, desk.rule(w, v), model.rule(w, v));
                break;
            }
            case 10: {
                law(lawText());
                break;
            }
            case 11: {
                same("keep()", desk.keep(), model.keep());
                break;
            }
            default: {
                same("back()", desk.back(), model.back());
                break;
            }
        }
    }

    static void useSheets() {
        switch (upTo(5)) {
            case 0: {
                int s = any(1), n = random.nextInt(4) == 0 ? any(24) : upTo(24);
                same("sheet " + s + "," + n, desk.sheet(s, n), model.sheet(s, n));
                break;
            }
            case 1: case 2: case 3: {
                int s = any(1), p = any(24), v = random.nextBoolean() ? upTo(2) : random.nextInt();
                same("mark " + s + "," + p + "," + v, desk.mark(s, p, v), model.mark(s, p, v));
                break;
            }
            case 4: {
                int f = any(1), p = any(12), t = any(1), a = any(12), m = any(12);
                same("copy " + f + "," + p + "," + t + "," + a + "," + m, desk.copy(f, p, t, a, m), model.copy(f, p, t, a, m));
                break;
            }
            default: {
                int s = any(1);
                same("votes " + s, desk.votes(s), model.votes(s));
                break;
            }
        }
    }

    static void askFacts() {
        int c = claimNumber(), side = any(1), k = any(5);
        switch (upTo(7)) {
            case 0: {
                int a = any(model.assets.size() - 1);
                same("brings " + a + "," + side, desk.brings(a, side), model.brings(a, side));
                break;
            }
            case 1: {
                int kind = any(4);
                same("isOf " + c + "," + kind, desk.isOf(c, kind), model.isOf(c, kind));
                break;
            }
            case 2: {
                same("told " + c + "," + k, desk.told(c, k), model.told(c, k));
                break;
            }
            case 3: {
                int d = any(model.today);
                same("known " + c + "," + d, desk.known(c, d), model.known(c, d));
                same("holder " + c + "," + d, desk.holder(c, d), model.holder(c, d));
                break;
            }
            case 4: {
                same("quarrel " + k, desk.quarrel(k), model.quarrel(k));
                break;
            }
            case 5: {
                same("worth " + c, desk.worth(c), model.worth(c));
                break;
            }
            case 6: {
                int w = any(8);
                same("count " + w, desk.count(w), model.count(w));
                break;
            }
            default: {
                same("worse " + k + "," + side, desk.worse(k, side), model.worse(k, side));
                break;
            }
        }
    }

    static void askWinding() {
        int side = any(1);
        switch (upTo(6)) {
            case 0: {
                same("wind " + side, desk.wind(side), model.wind(side));
                break;
            }
            case 1: {
                int c = claimNumber();
                same("gets " + c + "," + side, desk.gets(c, side), model.gets(c, side));
                break;
            }
            case 2: {
                int w = any(2);
                same("ends " + side + "," + w, desk.ends(side, w), model.ends(side, w));
                break;
            }
            case 3: {
                int f = firmNumber();
                same("cash " + f + "," + side, desk.cash(f, side), model.cash(f, side));
                break;
            }
            case 4: {
                int rows = side == 0 || side == 1 ? model.ends(side, 1) : 5;
                int i = random.nextInt(4) == 0 ? any(650) : any(rows), w = any(3);
                same("row " + side + "," + i + "," + w, desk.row(side, i, w), model.row(side, i, w));
                break;
            }
            default: {
                tellRows();
                break;
            }
        }
    }

    static void tellRows() {
        int side = upTo(1);
        List<int[]> rows = model.wound(side).rows;
        if (rows.size() > 12) {
            int v = random.nextInt();
            same("tell " + v, desk.tell(v), model.tell(v));
        } else {
            int spoilt = random.nextBoolean() ? -1 : upTo(rows.size() * 4);
            for (int i = 0; i < rows.size() * 4; i++) {
                int v = rows.get(i / 4)[i % 4] + (i == spoilt ? 1 : 0);
                same("tell " + v, desk.tell(v), model.tell(v));
            }
        }
        int asked = random.nextInt(4) == 0 ? any(1) : side;
        same("check " + asked, desk.check(asked), model.check(asked));
    }

    static void askLaw() {
        int k = random.nextBoolean() ? upTo(1) : any(5);
        int price = random.nextBoolean() ? upTo(12) : any(200), i = any(3);
        switch (upTo(8)) {
            case 0: {
                same("says " + k, desk.says(k), model.says(k));
                break;
            }
            case 1: {
                same("binds()", desk.binds(), model.binds());
                break;
            }
            case 2: {
                same("passes " + k, desk.passes(k), model.passes(k));
                break;
            }
            case 3: case 4: {
                int letter = random.nextInt(8) == 0 ? any(130) : "vntkmycwusqa".charAt(upTo(11));
                int aClass = random.nextBoolean() ? NONE : k;
                same("name " + letter + "," + aClass, desk.name(letter, aClass), model.name(letter, aClass));
                break;
            }
            case 5: {
                same("buy " + k + "," + price, desk.buy(k, price), model.buy(k, price));
                break;
            }
            case 6: {
                same("bought " + k + "," + price + "," + i, desk.bought(k, price, i), model.bought(k, price, i));
                break;
            }
            case 7: {
                same("part " + k, desk.part(k), model.part(k));
                break;
            }
            default: {
                same("parted " + k + "," + i, desk.parted(k, i), model.parted(k, i));
                break;
            }
        }
    }

    static void run(int seed) {
        random = new Random(seed);
        desk = new RoomsDesk();
        model = new Model();
        told = new StringBuilder("run of seed " + seed + "\n");
        calls = 0;
        int begin = 1 + upTo(5);
        for (int i = 0; i < begin; i++) {
            same("firm()", desk.firm(), model.firm());
        }
        int facts = 3 + upTo(20), plan = 3 + upTo(15), sheets = upTo(6), law = upTo(15), winding = upTo(8);
        int before = wrong;
        while (calls < CALLS - 60 && wrong == before) {
            int pick = random.nextInt(facts + plan + sheets + law + winding + 5);
            if ((pick -= facts) < 0) {
                changeFacts();
            } else if ((pick -= plan) < 0) {
                changePlan();
            } else if ((pick -= sheets) < 0) {
                useSheets();
            } else if ((pick -= law) < 0) {
                askLaw();
            } else if ((pick -= winding) < 0) {
                askWinding();
            } else {
                askFacts();
            }
        }
    }

    /** Laws alone: many texts, each with what it says of one class. */
    static void runLaws(int seed) {
        random = new Random(seed);
        desk = new RoomsDesk();
        model = new Model();
        told = new StringBuilder("laws of seed " + seed + "\n");
        calls = 0;
        same("firm()", desk.firm(), model.firm());
        for (int c = 0; c < 5; c++) {
            int amount = 1 + upTo(9), v = upTo(2);
            same("claim", desk.claim(1, 0, c, amount), model.claim(1, 0, c, amount));
            same("put", desk.put(c, c / 3), model.put(c, c / 3));
            same("vote", desk.vote(c, v), model.vote(c, v));
        }
        while (calls < CALLS - 30) {
            law(lawText());
            same("says", desk.says(0), model.says(0));
            same("binds", desk.binds(), model.binds());
        }
    }

    /** Full classes, votes for and against, and laws as they are wont to be: buying and parts. */
    static void runRooms(int seed) {
        random = new Random(seed);
        desk = new RoomsDesk();
        model = new Model();
        told = new StringBuilder("rooms of seed " + seed + "\n");
        calls = 0;
        same("firm()", desk.firm(), model.firm());
        int many = 3 + upTo(21), most = random.nextBoolean() ? 6 : 100000, classes = 1 + upTo(2);
        for (int c = 0; c < many; c++) {
            int k = upTo(4), amount = 1 + upTo(most - 1), v = random.nextInt(3) == 0 ? upTo(2) : 1 + upTo(1);
            int aClass = random.nextInt(8) == 0 ? NONE : random.nextInt(classes);
            same("claim " + k + "," + amount, desk.claim(k, 0, c % 10, amount), model.claim(k, 0, c % 10, amount));
            same("put " + c + "," + aClass, desk.put(c, aClass), model.put(c, aClass));
            same("vote " + c + "," + v, desk.vote(c, v), model.vote(c, v));
        }
        String[] laws = {"v>=75&n>50", "v>=75", "n>=67", "v>=60&t>=50", "n=50", "v>50&n<60", "m>=3&v>=50", "k=1&n>30",
            "v*n>4000", "t>60&n>=50", "m=2|v=100", "!n&m>1", "v=n", "k+m=5&v", "v>=95", "v>40&v<60", "0", "t=100"};
        while (calls < CALLS - 60) {
            law("pass " + laws[random.nextInt(laws.length)] + " bind y*10+s");
            same("binds()", desk.binds(), model.binds());
            for (int i = 0; i < 3; i++) {
                int c = upTo(many - 1), v = upTo(2), sum = random.nextBoolean() ? NONE : upTo(9);
                same("vote " + c + "," + v, desk.vote(c, v), model.vote(c, v));
                same("dispute " + c + "," + sum, desk.dispute(c, sum), model.dispute(c, sum));
                int k = random.nextInt(classes), price = random.nextBoolean() ? 1 + upTo(30) : 1 + upTo(199);
                same("buy " + k + "," + price, desk.buy(k, price), model.buy(k, price));
                same("part " + k, desk.part(k), model.part(k));
                int at = upTo(2);
                same("bought " + k + "," + price + "," + at, desk.bought(k, price, at), model.bought(k, price, at));
                same("parted " + k + "," + at, desk.parted(k, at), model.parted(k, at));
            }
        }
    }

    /** Firms that owe one another much, so that winding up goes through many rounds and rows. */
    static void runTangles(int seed) {
        random = new Random(seed);
        desk = new RoomsDesk();
        model = new Model();
        told = new StringBuilder("tangles of seed " + seed + "\n");
        calls = 0;
        int firms = 2 + upTo(4), many = 5 + upTo(19);
        boolean isPlain = random.nextBoolean();
        for (int f = 0; f < firms; f++) {
            same("firm()", desk.firm(), model.firm());
        }
        for (int c = 0; c < many; c++) {
            int k = isPlain ? 0 : upTo(4), f = c % firms, amount = 1 + upTo(random.nextBoolean() ? 99999 : 999);
            int h = random.nextInt(6) == 0 ? upTo(9) : 10 + (f + 1 + upTo(firms - 2)) % firms;
            same("claim " + k + "," + f + "," + h + "," + amount, desk.claim(k, f, h, amount), model.claim(k, f, h, amount));
        }
        for (int g = upTo(40); g > 0; g--) {
            int c = upTo(many - 1), f = upTo(firms - 1);
            same("guard " + c + "," + f, desk.guard(c, f, 1), model.guard(c, f, 1));
        }
        for (int a = upTo(15); a >= 0; a--) {
            int f = upTo(firms - 1), low = upTo(50000), high = low + upTo(50000), m = upTo(24);
            same("asset " + f + "," + low, desk.asset(f, low, high, m), model.asset(f, low, high, m));
            int c = upTo(many - 1);
            same("charge " + a + "," + c, desk.charge(a, c), model.charge(a, c));
        }
        while (calls < CALLS - 60) {
            for (int side = 0; side < 2; side++) {
                same("wind " + side, desk.wind(side), model.wind(side));
                for (int what = 0; what < 3; what++) {
                    same("ends " + side + "," + what, desk.ends(side, what), model.ends(side, what));
                }
                for (int i = 0; i < 3; i++) {
                    int r = upTo(model.wound(side).rows.size()), what = upTo(3), f = upTo(firms - 1), c = upTo(many - 1);
                    same("row " + side + "," + r + "," + what, desk.row(side, r, what), model.row(side, r, what));
                    same("cash " + f + "," + side, desk.cash(f, side), model.cash(f, side));
                    same("gets " + c + "," + side, desk.gets(c, side), model.gets(c, side));
                }
            }
            changeFacts();
            int w = upTo(4);
            same("rule 0," + w, desk.rule(0, w), model.rule(0, w));
        }
    }

    /** Few claims, often amended and traded. */
    static void runDiaries(int seed) {
        random = new Random(seed);
        desk = new RoomsDesk();
        model = new Model();
        told = new StringBuilder("diaries of seed " + seed + "\n");
        calls = 0;
        same("firm()", desk.firm(), model.firm());
        while (calls < CALLS - 60) {
            if (random.nextInt(12) == 0) {
                int amount = coins();
                same("claim " + amount, desk.claim(0, 0, 3, amount), model.claim(0, 0, 3, amount));
            }
            int c = claimNumber(), a = coins(), h = any(9), n = any(3), d = any(model.today);
            same("amend " + c + "," + a, desk.amend(c, a), model.amend(c, a));
            same("trade " + c + "," + h, desk.trade(c, h), model.trade(c, h));
            same("days " + n, desk.days(n), model.days(n));
            same("record " + d, desk.record(d), model.record(d));
            same("told " + c + ",4", desk.told(c, 4), model.told(c, 4));
            same("known " + c + "," + d, desk.known(c, d), model.known(c, d));
            same("holder " + c + "," + d, desk.holder(c, d), model.holder(c, d));
            same("wind", desk.wind(0), model.wind(0));
        }
    }

    public static void main(String[] args) {
        for (int seed = 1; seed <= RUNS && wrong == 0; seed++) {
            run(seed);
            runLaws(seed);
            runTangles(seed);
            runDiaries(seed);
        }
        for (int seed = 1; seed <= ROOMS && wrong == 0; seed++) {
            runRooms(seed);
        }
        System.out.println(wrong == 0 ? "the model answers the same" : wrong + " answers are not the model's");
        if (wrong != 0) {
            System.exit(1);
        }
    }
}
