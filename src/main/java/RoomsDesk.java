/**
 * Creditors in rooms: a group of firms that cannot pay, what winding up would bring to all, a plan,
 * the votes on it by classes, and a law told in a text that says who is bound.
 */
public final class RoomsDesk {
    public static final int BAD = -1000000001, NO = -1000000002, FULL = -1000000003, NONE = -1000000005,
            NOTHING = -1000000011, INDEX = -1000000013, SIZE = -1000000014;

    private static final int FIRMS = 6, ASSETS = 16, CLAIMS = 24, CLASSES = 6;
    private static final int PEOPLE = 10, COINS = 100000, LAST_DAY = 400, DAYS_AT_ONCE = 60;
    private static final int SECURED = 1, FIRST = 2, AFTER = 3, NEW = 4;
    private static final int VOTES_YES = 1, VOTES_NO = 2;
    private static final int WAIT_MOST = 4, OFF_MOST = 20, MONTHS_OF_ASSET = 24, MONTHS_OF_TERMS = 60;
    private static final int PRICE_MOST = 200, WAITING_MOST = 200;
    private static final int SHEETS = 2, PLACES = 24;
    private static final String PASS_NAMES = "vntkm", BIND_NAMES = "ycwusq";

    private final Claims claims;
    private final Assets assets;
    private final Winding atLow;
    private final Winding atHigh;
    private final Plan plan;
    private final Plan kept;
    private final Tape tape;
    private final Reader reader;
    private final Court court;
    private final Search search;
    private final int[] waiting;
    private final byte[] sheetBytes;
    private final int[] sheetPlaces;
    private int waitingMany;
    private int keptClaims;
    private int firms;
    private int today;
    private int off;

    public RoomsDesk() {
        claims = new Claims();
        assets = new Assets();
        atLow = new Winding(claims, assets, 0);
        atHigh = new Winding(claims, assets, 1);
        plan = new Plan();
        kept = new Plan();
        tape = new Tape();
        reader = new Reader(tape);
        court = new Court(claims, plan);
        search = new Search(court);
        waiting = new int[WAITING_MOST];
        sheetBytes = new byte[SHEETS * PLACES];
        sheetPlaces = new int[SHEETS];
        for (int s = 0; s < SHEETS; s++) {
            sheetPlaces[s] = NONE;
        }
        keptClaims = NONE;
        off = 8;
    }

    // ---- firms, assets, claims

    public int firm() {
        if (firms >= FIRMS) {
            return FULL;
        }
        changed();
        firms++;
        return firms - 1;
    }

    public int asset(int firm, int low, int high, int months) {
        if (!isFirm(firm) || !isWithin(high, COINS) || !isWithin(low, high) || !isWithin(months, MONTHS_OF_ASSET)) {
            return BAD;
        }
        if (assets.count >= ASSETS) {
            return FULL;
        }
        changed();
        return assets.add(firm, low, high, months);
    }

    public int charge(int asset, int claim) {
        if (!assets.has(asset) || claim != NONE && !claims.has(claim)) {
            return BAD;
        }
        if (claim != NONE && (claims.kind[claim] != SECURED || claims.firm[claim] != assets.firm[asset])) {
            return NO;
        }
        int was = assets.chargedTo[asset];
        assets.chargedTo[asset] = claim;
        changed();
        return was;
    }

    public int brings(int asset, int side) {
        return assets.has(asset) && isSide(side) ? assets.proceeds(asset, side) : BAD;
    }

    public int claim(int kind, int firm, int holder, int amount) {
        if (!isWithin(kind, NEW) || !isFirm(firm) || !mayHold(holder, firm) || amount < 1 || amount > COINS) {
            return BAD;
        }
        if (claims.count >= CLAIMS) {
            return FULL;
        }
        changed();
        int number = claims.add(kind, firm, holder, amount, today);
        plan.begin(number);
        return number;
    }

    public int isOf(int claim, int kind) {
        if (!claims.has(claim) || !isWithin(kind, NEW)) {
            return BAD;
        }
        int own = claims.kind[claim];
        return truth(kind == 0 || kind == own || kind == FIRST && own == NEW);
    }

    public int amend(int claim, int amount) {
        if (!claims.has(claim) || !isWithin(amount, COINS)) {
            return BAD;
        }
        if (claims.amounts.isFull(claim)) {
            return FULL;
        }
        int was = claims.amountOn(claim, today);
        claims.amounts.write(claim, today, amount);
        changed();
        return was;
    }

    public int trade(int claim, int holder) {
        if (!claims.has(claim) || !isWithin(holder, PEOPLE - 1)) {
            return BAD;
        }
        int was = claims.holderOn(claim, today);
        if (was >= PEOPLE || was == holder) {
            return NO;
        }
        if (claims.holders.isFull(claim)) {
            return FULL;
        }
        claims.holders.write(claim, today, holder);
        plan.vote[claim] = 0;
        changed();
        return was;
    }

    public int guard(int claim, int firm, int on) {
        if (!claims.has(claim) || !isFirm(firm) || !isWithin(on, 1)) {
            return BAD;
        }
        if (claims.firm[claim] == firm || claims.holderOn(claim, today) == PEOPLE + firm) {
            return NO;
        }
        int was = claims.guards[claim] >> firm & 1;
        claims.guards[claim] = claims.guards[claim] & ~(1 << firm) | on << firm;
        changed();
        return was;
    }

    public int dispute(int claim, int sum) {
        if (!claims.has(claim) || sum != NONE && !isWithin(sum, COINS)) {
            return BAD;
        }
        int was = claims.disputed[claim];
        claims.disputed[claim] = sum;
        return was;
    }

    public int told(int claim, int what) {
        if (!claims.has(claim)) {
            return BAD;
        }
        switch (what) {
            case 0: return claims.kind[claim];
            case 1: return claims.firm[claim];
            case 2: return plan.inClass[claim];
            case 3: return plan.vote[claim];
            case 4: return court.valueOf(claim);
            case 5: return claims.guards[claim];
            default: return BAD;
        }
    }

    public int known(int claim, int day) {
        return claims.has(claim) && isWithin(day, today) ? claims.amountOn(claim, day) : BAD;
    }

    public int holder(int claim, int day) {
        return claims.has(claim) && isWithin(day, today) ? claims.holderOn(claim, day) : BAD;
    }

    public int days(int n) {
        if (n < 1 || n > DAYS_AT_ONCE || today + n > LAST_DAY) {
            return BAD;
        }
        today += n;
        changed();
        return today;
    }

    // ---- winding up

    public int wind(int side) {
        return isSide(side) ? wound(side).peopleGot() : BAD;
    }

    public int gets(int claim, int side) {
        return claims.has(claim) && isSide(side) ? wound(side).paid[claim] : BAD;
    }

    public int ends(int side, int what) {
        if (!isSide(side)) {
            return BAD;
        }
        switch (what) {
            case 0: return wound(side).rounds;
            case 1: return wound(side).rowsMade;
            case 2: return wound(side).cashLeft();
            default: return BAD;
        }
    }

    public int cash(int firm, int side) {
        return isFirm(firm) && isSide(side) ? wound(side).cash[firm] : BAD;
    }

    public int row(int side, int i, int what) {
        if (!isSide(side) || i < 0 || !isWithin(what, Winding.ROW_PARTS - 1)) {
            return BAD;
        }
        return wound(side).rowPart(i, what);
    }

    public int tell(int v) {
        if (waitingMany >= WAITING_MOST) {
            return FULL;
        }
        waiting[waitingMany] = v;
        waitingMany++;
        return waitingMany;
    }

    public int check(int side) {
        int many = waitingMany;
        waitingMany = 0;
        return isSide(side) ? firstWrong(wound(side), many) : BAD;
    }

    // ---- classes, the plan, votes

    public int put(int claim, int aClass) {
        if (!claims.has(claim) || aClass != NONE && !isClass(aClass)) {
            return BAD;
        }
        int was = plan.inClass[claim];
        plan.inClass[claim] = aClass;
        return was;
    }

    public int quarrel(int aClass) {
        return isClass(aClass) ? firstQuarrel(aClass) : BAD;
    }

    public int terms(int aClass, int now, int later, int months) {
        if (!isClass(aClass) || !isWithin(now, 100) || !isWithin(later, 100) || !isWithin(months, MONTHS_OF_TERMS)) {
            return BAD;
        }
        plan.now[aClass] = now;
        plan.later[aClass] = later;
        plan.months[aClass] = months;
        return 0;
    }

    public int worth(int claim) {
        return claims.has(claim) ? worthOf(claim) : BAD;
    }

    public int worse(int aClass, int side) {
        return isClass(aClass) && isSide(side) ? truth(isWorse(aClass, wound(side))) : BAD;
    }

    public int vote(int claim, int v) {
        if (!claims.has(claim) || !isWithin(v, VOTES_NO)) {
            return BAD;
        }
        int was = plan.vote[claim];
        plan.vote[claim] = v;
        return was;
    }

    public int votes(int sheet) {
        if (!isSheet(sheet)) {
            return BAD;
        }
        if (sheetPlaces[sheet] < 0) {
            return NOTHING;
        }
        int many = Math.min(sheetPlaces[sheet], claims.count);
        for (int i = 0; i < many; i++) {
            int v = sheetBytes[sheet * PLACES + i];
            plan.vote[i] = isWithin(v, VOTES_NO) ? v : 0;
        }
        return many;
    }

    public int record(int d) {
        if (!isWithin(d, today)) {
            return BAD;
        }
        int was = court.recordDay;
        court.recordDay = d;
        return was;
    }

    public int rule(int which, int v) {
        if (which == 0 && isWithin(v, WAIT_MOST)) {
            int was = assets.wait;
            assets.wait = v;
            changed();
            return was;
        }
        if (which == 1 && isWithin(v, OFF_MOST)) {
            int was = off;
            off = v;
            return was;
        }
        return BAD;
    }

    // ---- the law

    public int feed(int a, int b, int c) {
        if (tape.length + 12 > Tape.BYTES) {
            return FULL;
        }
        tape.write(a);
        tape.write(b);
        tape.write(c);
        return tape.length;
    }

    public int trim(int n) {
        if (!isWithin(n, tape.length)) {
            return BAD;
        }
        tape.length = n;
        return n;
    }

    public int law() {
        boolean isLaw = reader.readsLaw();
        tape.length = 0;
        if (!isLaw) {
            return -100 - tape.place;
        }
        court.pass.take(reader.pass);
        court.bind.take(reader.bind);
        court.words = reader.words;
        return court.words;
    }

    public int says(int aClass) {
        if (!isClass(aClass) || !court.hasClaims(aClass)) {
            return BAD;
        }
        if (!court.hasLaw()) {
            return NO;
        }
        court.tallyClass(court.tally, aClass);
        return court.passGives(court.tally);
    }

    public int binds() {
        if (!court.hasLaw()) {
            return NO;
        }
        for (int i = 0; i < BIND_NAMES.length(); i++) {
            char letter = BIND_NAMES.charAt(i);
            // Winding up is the dear part, so only what the text asks for is worked out.
            if (court.bind.uses(letter)) {
                court.setName(letter, bindName(letter));
            }
        }
        return court.bind.work(court.named);
    }

    public int passes(int aClass) {
        return isClass(aClass) ? truth(court.classPasses(aClass)) : BAD;
    }

    public int name(int letter, int aClass) {
        if (aClass == NONE) {
            return isAmong(BIND_NAMES, letter) ? bindName(letter) : BAD;
        }
        if (!isAmong(PASS_NAMES, letter) || !isClass(aClass) || !court.hasClaims(aClass)) {
            return BAD;
        }
        court.tallyClass(court.tally, aClass);
        return court.tally.nameValue(letter);
    }

    // ---- buying, parts

    public int buy(int aClass, int price) {
        if (!isClass(aClass) || !isPrice(price)) {
            return BAD;
        }
        search.findPurchase(aClass, price);
        return search.found ? search.cost : NO;
    }

    public int bought(int aClass, int price, int i) {
        if (!isClass(aClass) || !isPrice(price) || i < 0) {
            return BAD;
        }
        search.findPurchase(aClass, price);
        return search.found ? search.member(i) : NO;
    }

    public int part(int aClass) {
        if (!isClass(aClass)) {
            return BAD;
        }
        search.findPart(aClass);
        return search.found ? search.size : NO;
    }

    public int parted(int aClass, int i) {
        if (!isClass(aClass) || i < 0) {
            return BAD;
        }
        search.findPart(aClass);
        return search.found ? search.member(i) : NO;
    }

    // ---- what is kept, sheets

    public int keep() {
        keptClaims = claims.count;
        kept.take(plan, keptClaims);
        return keptClaims;
    }

    public int back() {
        if (keptClaims < 0) {
            return NO;
        }
        plan.take(kept, keptClaims);
        return keptClaims;
    }

    public int sheet(int s, int n) {
        if (!isSheet(s) || n > PLACES) {
            return BAD;
        }
        if (n < 0) {
            return SIZE;
        }
        sheetPlaces[s] = n;
        for (int i = 0; i < n; i++) {
            sheetBytes[s * PLACES + i] = 0;
        }
        return n;
    }

    public int mark(int s, int place, int v) {
        if (!isSheet(s)) {
            return BAD;
        }
        if (sheetPlaces[s] < 0) {
            return NOTHING;
        }
        if (place < 0 || place >= sheetPlaces[s]) {
            return INDEX;
        }
        int was = sheetBytes[s * PLACES + place];
        sheetBytes[s * PLACES + place] = (byte) v;
        return was;
    }

    public int copy(int from, int place, int to, int at, int many) {
        if (!isSheet(from) || !isSheet(to)) {
            return BAD;
        }
        if (sheetPlaces[from] < 0 || sheetPlaces[to] < 0) {
            return NOTHING;
        }
        if (!hasPlaces(from, place, many) || !hasPlaces(to, at, many)) {
            return INDEX;
        }
        int source = from * PLACES + place;
        int target = to * PLACES + at;
        // Forwards or backwards, so that a place is read ahead of being written over.
        for (int i = 0; i < many; i++) {
            int step = target <= source ? i : many - 1 - i;
            sheetBytes[target + step] = sheetBytes[source + step];
        }
        return many;
    }

    public int count(int what) {
        switch (what) {
            case 0: return firms;
            case 1: return assets.count;
            case 2: return claims.count;
            case 3: return today;
            case 4: return waitingMany;
            case 5: return tape.length;
            case 6: return court.recordDay;
            case 7: return claimsInNoClass();
            case 8: return court.words;
            default: return BAD;
        }
    }

    // ---- within

    private static int truth(boolean is) {
        return is ? 1 : 0;
    }

    private static boolean isWithin(int v, int most) {
        return v >= 0 && v <= most;
    }

    private static boolean isSide(int side) {
        return isWithin(side, 1);
    }

    private static boolean isClass(int aClass) {
        return isWithin(aClass, CLASSES - 1);
    }

    private static boolean isPrice(int price) {
        return price >= 1 && price <= PRICE_MOST;
    }

    private static boolean isSheet(int s) {
        return isWithin(s, SHEETS - 1);
    }

    private static boolean isAmong(String letters, int letter) {
        for (int i = 0; i < letters.length(); i++) {
            if (letters.charAt(i) == letter) {
                return true;
            }
        }
        return false;
    }

    private boolean isFirm(int firm) {
        return firm >= 0 && firm < firms;
    }

    private boolean mayHold(int holder, int firm) {
        if (isWithin(holder, PEOPLE - 1)) {
            return true;
        }
        return holder >= PEOPLE && isFirm(holder - PEOPLE) && holder - PEOPLE != firm;
    }

    private boolean hasPlaces(int s, int place, int many) {
        // Written as a difference: a sum of the two could wrap.
        return many >= 0 && place >= 0 && place <= sheetPlaces[s] && many <= sheetPlaces[s] - place;
    }

    /** What winding up told so far holds no more. */
    private void changed() {
        atLow.isFresh = false;
        atHigh.isFresh = false;
    }

    private Winding wound(int side) {
        Winding winding = side == 0 ? atLow : atHigh;
        if (!winding.isFresh) {
            winding.windUp(firms, today);
        }
        return winding;
    }

    /** 0 if the first many numbers that waited are all the rows, else 1 and how many stand ahead of the fault. */
    private int firstWrong(Winding winding, int many) {
        for (int i = 0; i < many; i++) {
            int row = i / Winding.ROW_PARTS;
            if (row >= winding.rowsMade || winding.rowPart(row, i % Winding.ROW_PARTS) != waiting[i]) {
                return 1 + i;
            }
        }
        return many == winding.rowsMade * Winding.ROW_PARTS ? 0 : 1 + many;
    }

    private int claimsInNoClass() {
        int many = 0;
        for (int claim = 0; claim < claims.count; claim++) {
            many += truth(plan.inClass[claim] == NONE);
        }
        return many;
    }

    private int firstQuarrel(int aClass) {
        for (int one = 0; one < claims.count; one++) {
            for (int other = one + 1; other < claims.count; other++) {
                if (plan.inClass[one] == aClass && plan.inClass[other] == aClass && !areAlike(one, other)) {
                    return 100 * one + other;
                }
            }
        }
        return NONE;
    }

    private boolean areAlike(int one, int other) {
        if (claims.firm[one] != claims.firm[other] || claims.kind[one] != claims.kind[other]) {
            return false;
        }
        return claims.kind[one] != SECURED || assets.haveSameCharged(one, other);
    }

    private int worthOf(int claim) {
        int aClass = plan.inClass[claim];
        if (!isClass(aClass)) {
            return 0;
        }
        int amount = claims.amountOn(claim, today);
        int paidNow = amount * plan.now[aClass] / 100;
        int paidLater = amount * plan.later[aClass] / 100;
        return paidNow + paidLater * (1200 - off * plan.months[aClass]) / 1200;
    }

    private boolean isWorse(int aClass, Winding winding) {
        for (int claim = 0; claim < claims.count; claim++) {
            if (plan.inClass[claim] == aClass && winding.paid[claim] > worthOf(claim)) {
                return true;
            }
        }
        return false;
    }

    private int bindName(int letter) {
        int many = 0;
        for (int aClass = 0; aClass < CLASSES; aClass++) {
            boolean counts = false;
            switch (letter) {
                case 'y': counts = court.classPasses(aClass); break;
                case 'c': counts = court.hasClaims(aClass); break;
                case 'w': counts = isWorse(aClass, wound(0)); break;
                case 'u': counts = isWorse(aClass, wound(1)); break;
                case 's': counts = court.isSecuredAtFirst(aClass) && court.classPasses(aClass); break;
                case 'q': counts = firstQuarrel(aClass) != NONE; break;
                default: break;
            }
            many += truth(counts);
        }
        boolean isWhether = letter == 's' || letter == 'q';
        return isWhether ? Math.min(many, 1) : many;
    }

    /** For each claim what was told on which day: what it came with and eight more. */
    private static final class Diary {
        static final int ENTRIES = 9;
        final int[] dayOf = new int[CLAIMS * ENTRIES];
        final int[] valueOf = new int[CLAIMS * ENTRIES];
        final int[] written = new int[CLAIMS];

        boolean isFull(int claim) {
            return written[claim] >= ENTRIES;
        }

        void write(int claim, int day, int value) {
            if (isFull(claim)) {
                return;
            }
            int entry = claim * ENTRIES + written[claim];
            dayOf[entry] = day;
            valueOf[entry] = value;
            written[claim]++;
        }

        /** The latest entry of that day or ahead of it; otherwise, if there is none. */
        int asOf(int claim, int day, int otherwise) {
            for (int i = written[claim] - 1; i >= 0; i--) {
                if (dayOf[claim * ENTRIES + i] <= day) {
                    return valueOf[claim * ENTRIES + i];
                }
            }
            return otherwise;
        }

        int first(int claim) {
            return valueOf[claim * ENTRIES];
        }
    }

    /** The claims by their numbers. */
    private static final class Claims {
        final int[] kind = new int[CLAIMS];
        final int[] firm = new int[CLAIMS];
        final int[] guards = new int[CLAIMS];
        final int[] disputed = new int[CLAIMS];
        final Diary amounts = new Diary();
        final Diary holders = new Diary();
        int count;

        boolean has(int claim) {
            return claim >= 0 && claim < count;
        }

        int add(int itsKind, int itsFirm, int holder, int amount, int day) {
            int claim = count;
            kind[claim] = itsKind;
            firm[claim] = itsFirm;
            disputed[claim] = NONE;
            amounts.write(claim, day, amount);
            holders.write(claim, day, holder);
            count++;
            return claim;
        }

        int amountOn(int claim, int day) {
            return amounts.asOf(claim, day, 0);
        }

        int holderOn(int claim, int day) {
            return holders.asOf(claim, day, holders.first(claim));
        }
    }

    /** The assets by their numbers, and what waiting for their sale takes. */
    private static final class Assets {
        final int[] firm = new int[ASSETS];
        final int[] low = new int[ASSETS];
        final int[] high = new int[ASSETS];
        final int[] months = new int[ASSETS];
        final int[] chargedTo = new int[ASSETS];
        int count;
        int wait;

        boolean has(int asset) {
            return asset >= 0 && asset < count;
        }

        int add(int itsFirm, int itsLow, int itsHigh, int itsMonths) {
            int asset = count;
            firm[asset] = itsFirm;
            low[asset] = itsLow;
            high[asset] = itsHigh;
            months[asset] = itsMonths;
            chargedTo[asset] = NONE;
            count++;
            return asset;
        }

        int proceeds(int asset, int side) {
            int full = side == 0 ? low[asset] : high[asset];
            return full - full * wait * months[asset] / 100;
        }

        /** An asset is charged to one claim at most, so two have the same ones only if they have none. */
        boolean haveSameCharged(int one, int other) {
            for (int asset = 0; asset < count; asset++) {
                if (chargedTo[asset] == one || chargedTo[asset] == other) {
                    return false;
                }
            }
            return true;
        }
    }

    /** What all get by winding up at one side. */
    private static final class Winding {
        static final int ROUNDS = 60, ROWS = 600, ROW_PARTS = 4, RANKS = 4, SHARED_RANK = 2;
        final Claims claims;
        final Assets assets;
        final int side;
        final int[] open = new int[CLAIMS];
        final int[] paid = new int[CLAIMS];
        final int[] rankOf = new int[CLAIMS];
        final int[] holdingFirm = new int[CLAIMS];
        final int[] cash = new int[FIRMS];
        final int[] rows = new int[ROWS * ROW_PARTS];
        int rounds;
        int rowsMade;
        boolean isFresh;

        Winding(Claims ofClaims, Assets ofAssets, int atSide) {
            claims = ofClaims;
            assets = ofAssets;
            side = atSide;
        }

        void windUp(int firms, int today) {
            begin(today);
            payCharged();
            boolean goesOn = true;
            for (int round = 1; round <= ROUNDS && goesOn; round++) {
                int rowsAhead = rowsMade;
                rounds = round;
                for (int firm = 0; firm < firms && firm < FIRMS; firm++) {
                    payOut(firm);
                }
                goesOn = rowsMade > rowsAhead;
            }
            isFresh = true;
        }

        void begin(int today) {
            rounds = 0;
            rowsMade = 0;
            for (int firm = 0; firm < FIRMS; firm++) {
                cash[firm] = 0;
            }
            for (int claim = 0; claim < claims.count; claim++) {
                int holder = claims.holderOn(claim, today);
                open[claim] = claims.amountOn(claim, today);
                paid[claim] = 0;
                rankOf[claim] = rankOfKind(claims.kind[claim]);
                holdingFirm[claim] = holder < PEOPLE ? NONE : holder - PEOPLE;
            }
        }

        static int rankOfKind(int kind) {
            switch (kind) {
                case NEW: return 0;
                case FIRST: return 1;
                case AFTER: return 3;
                default: return SHARED_RANK;
            }
        }

        void payCharged() {
            for (int asset = 0; asset < assets.count; asset++) {
                int firm = assets.firm[asset];
                int brought = assets.proceeds(asset, side);
                int claim = assets.chargedTo[asset];
                cash[firm] += brought;
                if (claims.has(claim)) {
                    pay(firm, claim, Math.min(brought, open[claim]));
                }
            }
        }

        void payOut(int firm) {
            // Without cash no rank gets anything.
            for (int rank = 0; rank < RANKS && cash[firm] > 0; rank++) {
                if (!payRank(firm, rank)) {
                    return;
                }
            }
        }

        /** Whether all of the rank is paid. */
        boolean payRank(int firm, int rank) {
            int total = 0;
            for (int claim = 0; claim < claims.count; claim++) {
                total += isInRank(claim, firm, rank) ? open[claim] : 0;
            }
            if (total == 0) {
                return true;
            }
            int purse = cash[firm];
            for (int claim = 0; claim < claims.count; claim++) {
                if (isInRank(claim, firm, rank)) {
                    int share = (int) ((long) purse * open[claim] / total);
                    pay(firm, claim, Math.min(share, open[claim]));
                }
            }
            return purse >= total;
        }

        boolean isInRank(int claim, int firm, int rank) {
            if (claims.firm[claim] == firm) {
                return rankOf[claim] == rank;
            }
            return rank == SHARED_RANK && (claims.guards[claim] >> firm & 1) == 1;
        }

        void pay(int firm, int claim, int coins) {
            if (coins <= 0) {
                return;
            }
            int holder = holdingFirm[claim];
            cash[firm] -= coins;
            open[claim] -= coins;
            paid[claim] += coins;
            if (holder >= 0 && holder < FIRMS) {
                cash[holder] += coins;
            }
            if (rowsMade < ROWS) {
                int at = rowsMade * ROW_PARTS;
                rows[at] = rounds;
                rows[at + 1] = firm;
                rows[at + 2] = claim;
                rows[at + 3] = coins;
            }
            rowsMade++;
        }

        /** Only the first rows are told, though all are counted. */
        int rowPart(int i, int what) {
            return i < Math.min(rowsMade, ROWS) ? rows[i * ROW_PARTS + what] : NONE;
        }

        int peopleGot() {
            int coins = 0;
            for (int claim = 0; claim < claims.count; claim++) {
                coins += holdingFirm[claim] == NONE ? paid[claim] : 0;
            }
            return coins;
        }

        int cashLeft() {
            int coins = 0;
            for (int firm = 0; firm < FIRMS; firm++) {
                coins += cash[firm];
            }
            return coins;
        }
    }

    /** All that may be kept: classes, terms and votes. */
    private static final class Plan {
        final int[] inClass = new int[CLAIMS];
        final int[] vote = new int[CLAIMS];
        final int[] now = new int[CLASSES];
        final int[] later = new int[CLASSES];
        final int[] months = new int[CLASSES];

        void begin(int claim) {
            inClass[claim] = NONE;
            vote[claim] = 0;
        }

        /** As the other one is, of its first claims. */
        void take(Plan other, int firstClaims) {
            for (int claim = 0; claim < firstClaims; claim++) {
                inClass[claim] = other.inClass[claim];
                vote[claim] = other.vote[claim];
            }
            for (int aClass = 0; aClass < CLASSES; aClass++) {
                now[aClass] = other.now[aClass];
                later[aClass] = other.later[aClass];
                months[aClass] = other.months[aClass];
            }
        }
    }

    /** The bytes of a law's text, and the place at which it is read. */
    private static final class Tape {
        static final int BYTES = 96, END = -1, BLANK = 32;
        final byte[] bytes = new byte[BYTES];
        int length;
        int place;

        void write(int number) {
            for (int shift = 24; shift >= 0 && length < BYTES; shift -= 8) {
                bytes[length] = (byte) (number >> shift);
                length++;
            }
        }

        int next() {
            return place < length ? bytes[place] & 255 : END;
        }

        int nextWord() {
            for (int i = 0; i < BYTES && next() == BLANK; i++) {
                place++;
            }
            return next();
        }

        boolean isBehindLetterOrDigit() {
            return place > 0 && place <= length && isLetterOrDigit(bytes[place - 1] & 255);
        }

        static boolean isDigit(int b) {
            return b >= '0' && b <= '9';
        }

        static boolean isLetterOrDigit(int b) {
            return isDigit(b) || b >= 'a' && b <= 'z' || b >= 'A' && b <= 'Z';
        }
    }

    /** One expression, each sign behind its parts: a number stands for itself, all else is below 0. */
    private static final class Formula {
        static final int OR_EQUAL = 256;
        static final int OR = -'|', AND = -'&', LESS = -'<', SAME = -'=', MORE = -'>', PLUS = -'+', LESSEN = -'-',
                TIMES = -'*', NOT = -'!', AT_MOST = LESS - OR_EQUAL, AT_LEAST = MORE - OR_EQUAL, OPPOSITE = -1;
        final int[] code = new int[Tape.BYTES];
        final int[] stack = new int[Tape.BYTES];
        int length;

        void add(int word) {
            if (length < code.length) {
                code[length] = word;
                length++;
            }
        }

        void take(Formula other) {
            length = 0;
            for (int i = 0; i < other.length; i++) {
                add(other.code[i]);
            }
        }

        boolean uses(int letter) {
            for (int i = 0; i < length; i++) {
                if (code[i] == -letter) {
                    return true;
                }
            }
            return false;
        }

        int work(int[] named) {
            int top = 0;
            for (int i = 0; i < length; i++) {
                int word = code[i];
                int letter = -word - 'a';
                boolean isName = letter >= 0 && letter < named.length;
                if ((word >= 0 || isName) && top < stack.length) {
                    stack[top] = isName ? named[letter] : word;
                    top++;
                } else if (word == NOT && top >= 1) {
                    stack[top - 1] = stack[top - 1] == 0 ? 1 : 0;
                } else if (word == OPPOSITE && top >= 1) {
                    stack[top - 1] = -stack[top - 1];
                } else if (top >= 2) {
                    top--;
                    stack[top - 1] = joined(word, stack[top - 1], stack[top]);
                }
            }
            return top > 0 ? stack[0] : 0;
        }

        static int joined(int sign, int left, int right) {
            switch (sign) {
                case OR: return left != 0 || right != 0 ? 1 : 0;
                case AND: return left != 0 && right != 0 ? 1 : 0;
                case LESS: return left < right ? 1 : 0;
                case AT_MOST: return left <= right ? 1 : 0;
                case SAME: return left == right ? 1 : 0;
                case AT_LEAST: return left >= right ? 1 : 0;
                case MORE: return left > right ? 1 : 0;
                case PLUS: return left + right;
                case LESSEN: return left - right;
                case TIMES: return left * right;
                default: return 0;
            }
        }
    }

    /** Reads a law from the tape; when a method says no, the tape's place is that of the fault. */
    private static final class Reader {
        static final int DIGITS = 6, DEEPEST = 8, MARKS = 20, TEST_LEVEL = 2, TIMES_LEVEL = 4;
        final Tape tape;
        final Formula pass = new Formula();
        final Formula bind = new Formula();
        Formula into = pass;
        String names = PASS_NAMES;
        int words;

        Reader(Tape ofTape) {
            tape = ofTape;
        }

        boolean readsLaw() {
            tape.place = 0;
            words = 0;
            tape.nextWord();
            if (!readsWord("pass")) {
                return false;
            }
            turnTo(pass, PASS_NAMES);
            if (!readsLevel(0, 0)) {
                return false;
            }
            tape.nextWord();
            if (tape.isBehindLetterOrDigit() || !readsWord("bind")) {
                return false;
            }
            turnTo(bind, BIND_NAMES);
            return readsLevel(0, 0) && tape.nextWord() == Tape.END;
        }

        void turnTo(Formula formula, String ofNames) {
            formula.length = 0;
            into = formula;
            names = ofNames;
        }

        boolean readsWord(String word) {
            for (int i = 0; i < word.length(); i++) {
                if (tape.next() != word.charAt(i)) {
                    return false;
                }
                tape.place++;
            }
            words++;
            return !Tape.isLetterOrDigit(tape.next());
        }

        /** An expression of that level, from the loosest, or to the tightest; depth ( stand around it. */
        private boolean readsLevel(int level, int depth) {
            if (level > TIMES_LEVEL) {
                return readsPart(depth);
            }
            boolean goes = readsLevel(level + 1, depth);
            for (int i = 0; i < Tape.BYTES && goes && levelOf(tape.nextWord()) == level; i++) {
                int sign = takeSign();
                goes = readsLevel(level + 1, depth);
                into.add(sign);
                if (level == TEST_LEVEL) {
                    return goes;
                }
            }
            return goes;
        }

        static int levelOf(int sign) {
            switch (sign) {
                case '|': return 0;
                case '&': return 1;
                case '<': case '=': case '>': return TEST_LEVEL;
                case '+': case '-': return 3;
                case '*': return TIMES_LEVEL;
                default: return NONE;
            }
        }

        int takeSign() {
            int sign = tape.next();
            step();
            if ((sign == '<' || sign == '>') && tape.next() == '=') {
                tape.place++;
                return -sign - Formula.OR_EQUAL;
            }
            return -sign;
        }

        void step() {
            tape.place++;
            words++;
        }

        private boolean readsPart(int depth) {
            int nots = 0;
            int marks = 0;
            for (int i = 0; i < Tape.BYTES && (tape.nextWord() == '!' || tape.next() == '-'); i++) {
                if (marks >= MARKS) {
                    return false;
                }
                nots |= truth(tape.next() == '!') << marks;
                marks++;
                step();
            }
            boolean goes = readsBare(depth);
            // The mark next to the part works first.
            for (int i = marks - 1; i >= 0; i--) {
                into.add((nots >> i & 1) == 1 ? Formula.NOT : Formula.OPPOSITE);
            }
            return goes;
        }

        private boolean readsBare(int depth) {
            int b = tape.next();
            if (Tape.isDigit(b)) {
                return readsNumber();
            }
            if (b == '(' && depth < DEEPEST) {
                step();
                if (!readsLevel(0, depth + 1) || tape.nextWord() != ')') {
                    return false;
                }
                step();
                return true;
            }
            if (!isAmong(names, b)) {
                return false;
            }
            into.add(-b);
            step();
            return true;
        }

        private boolean readsNumber() {
            int number = 0;
            for (int i = 0; i < DIGITS && Tape.isDigit(tape.next()); i++) {
                number = number * 10 + tape.next() - '0';
                tape.place++;
            }
            words++;
            into.add(number);
            return !Tape.isDigit(tape.next());
        }
    }

    /** How a set of claims votes. */
    private static final class Tally {
        int yesValue;
        int noValue;
        int allValue;
        int yesMany;
        int noMany;
        int members;
        int firstKind;

        void clear() {
            yesValue = 0;
            noValue = 0;
            allValue = 0;
            yesMany = 0;
            noMany = 0;
            members = 0;
            firstKind = 0;
        }

        /** Claims come by their numbers, so that the first one tells the kind. */
        void add(int kind, int value, int vote) {
            firstKind = members == 0 ? kind : firstKind;
            members++;
            allValue += value;
            if (vote == VOTES_YES) {
                yesValue += value;
                yesMany++;
            }
            if (vote == VOTES_NO) {
                noValue += value;
                noMany++;
            }
        }

        int nameValue(int letter) {
            switch (letter) {
                case 'v': return hundredths(yesValue, yesValue + noValue);
                case 'n': return hundredths(yesMany, yesMany + noMany);
                case 't': return hundredths(yesValue + noValue, allValue);
                case 'k': return firstKind;
                case 'm': return members;
                default: return 0;
            }
        }

        static int hundredths(int some, int all) {
            return all == 0 ? 0 : 100 * some / all;
        }
    }

    /** The law, and how classes fare by it as of the record day. */
    private static final class Court {
        final Claims claims;
        final Plan plan;
        final Formula pass = new Formula();
        final Formula bind = new Formula();
        final Tally tally = new Tally();
        final int[] named = new int[26];
        int words;
        int recordDay;

        Court(Claims ofClaims, Plan ofPlan) {
            claims = ofClaims;
            plan = ofPlan;
        }

        boolean hasLaw() {
            return words > 0;
        }

        int valueOf(int claim) {
            int sum = claims.disputed[claim];
            return sum == NONE ? claims.amountOn(claim, recordDay) : sum;
        }

        int firstOf(int aClass) {
            for (int claim = 0; claim < claims.count; claim++) {
                if (plan.inClass[claim] == aClass) {
                    return claim;
                }
            }
            return NONE;
        }

        boolean hasClaims(int aClass) {
            return firstOf(aClass) != NONE;
        }

        boolean isSecuredAtFirst(int aClass) {
            int first = firstOf(aClass);
            return first >= 0 && claims.kind[first] == SECURED;
        }

        void tallyClass(Tally into, int aClass) {
            into.clear();
            for (int claim = 0; claim < claims.count; claim++) {
                if (plan.inClass[claim] == aClass) {
                    into.add(claims.kind[claim], valueOf(claim), plan.vote[claim]);
                }
            }
        }

        void setName(int letter, int value) {
            int at = letter - 'a';
            if (at >= 0 && at < named.length) {
                named[at] = value;
            }
        }

        int passGives(Tally of) {
            for (int i = 0; i < PASS_NAMES.length(); i++) {
                char letter = PASS_NAMES.charAt(i);
                setName(letter, of.nameValue(letter));
            }
            return pass.work(named);
        }

        boolean passesBy(Tally of) {
            return hasLaw() && of.members > 0 && passGives(of) != 0;
        }

        boolean classPasses(int aClass) {
            tallyClass(tally, aClass);
            return passesBy(tally);
        }
    }

    /** Looks through all sets of a class's claims, ten at most, the first by bits ahead. */
    private static final class Search {
        static final int PICKED = 10, ANY_VOTE = NONE;
        final Court court;
        final int[] picked = new int[PICKED];
        final int[] values = new int[PICKED];
        final Tally whole = new Tally();
        final Tally trial = new Tally();
        int pickedMany;
        boolean found;
        int set;
        int size;
        int cost;

        Search(Court ofCourt) {
            court = ofCourt;
        }

        void pick(int aClass, int vote) {
            pickedMany = 0;
            found = false;
            for (int claim = 0; claim < court.claims.count && pickedMany < PICKED; claim++) {
                boolean isAsked = vote == ANY_VOTE || court.plan.vote[claim] == vote;
                if (court.plan.inClass[claim] == aClass && isAsked) {
                    picked[pickedMany] = claim;
                    values[pickedMany] = court.valueOf(claim);
                    pickedMany++;
                }
            }
        }

        void take(int aSet, int aCost) {
            found = true;
            set = aSet;
            size = Integer.bitCount(aSet);
            cost = aCost;
        }

        void findPurchase(int aClass, int price) {
            pick(aClass, VOTES_NO);
            court.tallyClass(whole, aClass);
            for (int aSet = 0; aSet < 1 << pickedMany; aSet++) {
                int aCost = costOf(aSet, price);
                boolean isLess = aCost < cost || aCost == cost && Integer.bitCount(aSet) < size;
                if ((!found || isLess) && passesBought(aSet)) {
                    take(aSet, aCost);
                }
            }
        }

        int costOf(int aSet, int price) {
            int sum = 0;
            for (int i = 0; i < pickedMany; i++) {
                sum += (aSet >> i & 1) * (values[i] * price / 100);
            }
            return sum;
        }

        boolean passesBought(int aSet) {
            int coins = 0;
            for (int i = 0; i < pickedMany; i++) {
                coins += (aSet >> i & 1) * values[i];
            }
            int many = Integer.bitCount(aSet);
            trial.yesValue = whole.yesValue + coins;
            trial.noValue = whole.noValue - coins;
            trial.allValue = whole.allValue;
            trial.yesMany = whole.yesMany + many;
            trial.noMany = whole.noMany - many;
            trial.members = whole.members;
            trial.firstKind = whole.firstKind;
            return court.passesBy(trial);
        }

        void findPart(int aClass) {
            pick(aClass, ANY_VOTE);
            for (int aSet = 1; aSet < 1 << pickedMany; aSet++) {
                if ((!found || Integer.bitCount(aSet) < size) && passesAlone(aSet)) {
                    take(aSet, 0);
                }
            }
        }

        boolean passesAlone(int aSet) {
            trial.clear();
            for (int i = 0; i < pickedMany; i++) {
                if ((aSet >> i & 1) == 1) {
                    int claim = picked[i];
                    trial.add(court.claims.kind[claim], values[i], court.plan.vote[claim]);
                }
            }
            return court.passesBy(trial);
        }

        /** The i-th claim of the set that was found. */
        int member(int i) {
            int ahead = 0;
            for (int at = 0; at < pickedMany; at++) {
                if ((set >> at & 1) == 1) {
                    if (ahead == i) {
                        return picked[at];
                    }
                    ahead++;
                }
            }
            return NONE;
        }
    }
}
