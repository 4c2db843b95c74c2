import java.util.Arrays;

/** Fields bought by the acre, quietly. What every call does stands in the document, by promises. */
public final class AcreBuys {
    private static final int BEYOND = -1000000001;
    private static final int FULL = -1000000002;
    private static final int KIND = -1000000003;
    private static final int NONE = -1000000004;
    private static final int STATE = -1000000005;
    private static final int MISSING = -1000000006;
    private static final int SIZE = -1000000007;
    private static final int FINDINGS = 7;

    private static final int OWNER = 0;
    private static final int KEEN = 1;
    private static final int STUBBORN = 2;
    private static final int TALKER = 3;
    private static final int LORD = 4;
    private static final int BROTHER = 5;
    private static final int KINDS = 6;
    /** The kind that each kind stands under; -1: none. */
    private static final int[] UNDER = {-1, OWNER, OWNER, OWNER, STUBBORN, TALKER};

    private static final int ZEAL = 0;
    private static final int CALM = 1;
    private static final int LAW = 2;
    private static final int POWER = 3;
    private static final int RULES = 4;
    private static final int[] RULE_LIMITS = {100, 9, 999, 9};

    private static final int FIELD_LIMIT = 14;
    private static final int SET_LIMIT = (1 << FIELD_LIMIT) - 1;
    private static final int WORTH_LIMIT = 9999;
    private static final int WARE_LIMIT = 9;
    private static final int PRICE_LIMIT = 99999;
    private static final int PAPER_LIMIT = 6;
    private static final int MONTH_LIMIT = 99;
    private static final int STRIP_LIMIT = 6;
    private static final int ROUND_LIMIT = 9999;
    private static final int GAIN_LIMIT = 9999999;
    private static final int ROW_LIMIT = 10;
    private static final int TAPE_LIMIT = 120;
    private static final int NUMBER_LIMIT = 9999;
    private static final int SHEETS = 4;
    private static final int SHEET_LIMIT = 40;

    private final Land land;
    private final Land keptLand;
    private final Land beforePlan;
    private final OrderSearch search;
    private final Tape tape;
    private final Sheet[] sheets;
    private final int[] told;
    private boolean kept;

    public AcreBuys() {
        land = new Land();
        keptLand = new Land();
        beforePlan = new Land();
        search = new OrderSearch();
        tape = new Tape();
        sheets = new Sheet[SHEETS];
        for (int s = 0; s < SHEETS; s++) {
            sheets[s] = new Sheet();
        }
        told = new int[FINDINGS];
        kept = false;
    }

    // ---- fields

    public int field(int kind, int worth) {
        if (!isKind(kind) || !isWithin(worth, 1, WORTH_LIMIT)) {
            return refuse(BEYOND);
        }
        if (land.fields >= FIELD_LIMIT) {
            return refuse(FULL);
        }
        return land.addField(kind, worth);
    }

    public int of(int field, int what) {
        if (!land.hasField(field)) {
            return refuse(BEYOND);
        }
        switch (what) {
            case 0: return land.kinds[field];
            case 1: return land.worths[field];
            case 2: return land.wary[field];
            case 3: return land.tells[field];
            case 4: return land.holderOf(field);
            case 5: return land.priceNow(field);
            case 6: return land.heardBy(field, land.ours);
            case 7: return wareOf(land.wary[field], land.heardBy(field, land.ours));
            default: return refuse(BEYOND);
        }
    }

    public int set(int field, int what, int v) {
        if (!land.hasField(field)) {
            return refuse(BEYOND);
        }
        switch (what) {
            case 1: return isWithin(v, 1, WORTH_LIMIT) ? swap(land.worths, field, v) : refuse(BEYOND);
            case 2: return isWithin(v, 0, WARE_LIMIT) ? swap(land.wary, field, v) : refuse(BEYOND);
            case 3: return isWithin(v, 0, SET_LIMIT) ? swap(land.tells, field, v) : refuse(BEYOND);
            default: return refuse(BEYOND);
        }
    }

    public int as(int field, int kind) {
        if (!land.hasField(field) || !isKind(kind)) {
            return refuse(BEYOND);
        }
        if (!isOfKind(land.kinds[field], kind)) {
            return refuse(KIND);
        }
        return land.priceNow(field);
    }

    public int asks(int field, int set) {
        if (!land.hasField(field) || !isWithin(set, 0, SET_LIMIT)) {
            return refuse(BEYOND);
        }
        return land.priceBy(field, set);
    }

    public int rule(int what, int v) {
        if (!isWithin(what, 0, RULES - 1) || !isWithin(v, 0, RULE_LIMITS[what])) {
            return refuse(BEYOND);
        }
        return swap(land.rules, what, v);
    }

    // ---- buying

    public int offer(int field, int price) {
        if (!land.hasField(field) || !isWithin(price, 0, PRICE_LIMIT)) {
            return refuse(BEYOND);
        }
        if (!land.isFree(field)) {
            return refuse(STATE);
        }
        return land.bid(field, price) ? 1 : 0;
    }

    public int paper(int field, int month) {
        if (!land.hasField(field) || !isWithin(month, land.month, MONTH_LIMIT)) {
            return refuse(BEYOND);
        }
        if (!land.isFree(field) || isIn(field, land.papers)) {
            return refuse(STATE);
        }
        if (Integer.bitCount(land.papers) >= PAPER_LIMIT) {
            return refuse(FULL);
        }
        return land.takePaper(field, month);
    }

    public int paperOf(int field, int what) {
        if (!land.hasField(field) || !isWithin(what, 0, 1)) {
            return refuse(BEYOND);
        }
        if (!isIn(field, land.papers)) {
            return refuse(NONE);
        }
        return what == 0 ? land.prices[field] : land.tills[field];
    }

    public int claim(int field) {
        if (!land.hasField(field)) {
            return refuse(BEYOND);
        }
        if (!isIn(field, land.papers)) {
            return refuse(NONE);
        }
        land.buy(field, land.prices[field]);
        return land.prices[field];
    }

    public int county(int field) {
        if (!land.hasField(field)) {
            return refuse(BEYOND);
        }
        if (!land.isFree(field)) {
            return refuse(STATE);
        }
        if (land.rules[POWER] == 0) {
            return refuse(NONE);
        }
        int price = land.worths[field] * land.rules[LAW] / 100;
        land.rules[POWER]--;
        land.buy(field, price);
        return price;
    }

    public int month() {
        if (land.month >= MONTH_LIMIT) {
            return refuse(STATE);
        }
        land.month++;
        land.dropPastPapers();
        int taken = land.rivalTakes();
        land.calmDown();
        return taken;
    }

    public int seed(int v) {
        int was = land.z;
        land.z = v;
        return was;
    }

    public long stands(int what) {
        switch (what) {
            case 0: return land.month;
            case 1: return land.spent;
            case 2: return Integer.bitCount(land.ours);
            case 3: return Integer.bitCount(land.lost);
            case 4: return Integer.bitCount(land.freeIn(SET_LIMIT));
            default: return refuse(BEYOND);
        }
    }

    // ---- strips

    public int strip(int set, int round) {
        if ((set & ~land.allFields()) != 0 || !isWithin(round, 0, ROUND_LIMIT)) {
            return refuse(BEYOND);
        }
        if (land.strips >= STRIP_LIMIT) {
            return refuse(FULL);
        }
        return land.addStrip(set, round);
    }

    public int stripOf(int strip, int what) {
        if (!land.hasStrip(strip)) {
            return refuse(BEYOND);
        }
        switch (what) {
            case 0: return land.sets[strip];
            case 1: return land.rounds[strip];
            case 2: return land.isHad(strip) ? 1 : 0;
            case 3: return land.canBe(strip) ? 1 : 0;
            case 4: return land.freeIn(land.sets[strip]);
            default: return refuse(BEYOND);
        }
    }

    public int had() {
        int set = 0;
        for (int strip = 0; strip < land.strips; strip++) {
            if (land.isHad(strip)) {
                set |= 1 << strip;
            }
        }
        return set;
    }

    public int least(int strip) {
        if (!land.hasStrip(strip)) {
            return refuse(BEYOND);
        }
        int hindrance = hindranceOf(strip);
        return hindrance != 0 ? refuse(hindrance) : leastCost(strip);
    }

    public int order(int strip, int i) {
        if (!land.hasStrip(strip) || !isWithin(i, 0, ROW_LIMIT - 1)) {
            return refuse(BEYOND);
        }
        int hindrance = hindranceOf(strip);
        if (hindrance != 0) {
            return refuse(hindrance);
        }
        search.run(land, land.missingOf(strip));
        int field = search.fieldAt(i);
        return field < 0 ? refuse(NONE) : field;
    }

    public int best() {
        int best = -1;
        int bestCost = 0;
        for (int strip = 0; strip < land.strips; strip++) {
            if (hindranceOf(strip) == 0) {
                int cost = leastCost(strip);
                if (best < 0 || cost < bestCost) {
                    best = strip;
                    bestCost = cost;
                }
            }
        }
        return best < 0 ? refuse(NONE) : best;
    }

    public int last(int strip, int what) {
        if (!land.hasStrip(strip) || !isWithin(what, 0, 1)) {
            return refuse(BEYOND);
        }
        if (!land.canBe(strip)) {
            return refuse(STATE);
        }
        int field = land.dearestLast(strip);
        if (field < 0) {
            return refuse(NONE);
        }
        return what == 0 ? land.priceAsLast(strip, field) : field;
    }

    public int giveUp(int gain) {
        if (!isWithin(gain, 0, GAIN_LIMIT)) {
            return refuse(BEYOND);
        }
        for (int strip = 0; strip < land.strips; strip++) {
            if (hindranceOf(strip) == 0 && leastCost(strip) <= gain) {
                return 0;
            }
        }
        return 1;
    }

    public int rights(int strip) {
        if (!land.hasStrip(strip)) {
            return refuse(BEYOND);
        }
        if (!land.canBe(strip)) {
            return refuse(STATE);
        }
        int free = land.freeIn(land.sets[strip]);
        int sum = land.rounds[strip];
        for (int field = 0; field < land.fields; field++) {
            if (isIn(field, free)) {
                int price = land.priceNow(field);
                sum += paperCost(price) + price;
            }
        }
        return sum;
    }

    public int share(int strip, int gain, int field) {
        if (!land.hasStrip(strip) || !isWithin(gain, 0, GAIN_LIMIT) || !land.hasField(field)) {
            return refuse(BEYOND);
        }
        int free = land.freeIn(land.sets[strip]);
        if (!isIn(field, free)) {
            return refuse(STATE);
        }
        int all = land.worthsIn(free);
        if (all < 1 || gain < all) {
            return refuse(NONE);
        }
        int worth = land.worths[field];
        return worth + (int) ((long) (gain - all) * worth / all);
    }

    public int common() {
        int set = land.allFields();
        boolean any = false;
        for (int strip = 0; strip < land.strips; strip++) {
            if (land.canBe(strip)) {
                set &= land.sets[strip];
                any = true;
            }
        }
        return any ? set : refuse(NONE);
    }

    public int first(int strip) {
        if (!land.hasStrip(strip)) {
            return refuse(BEYOND);
        }
        int field = land.quietestFirst(land.freeIn(land.sets[strip]));
        return field < 0 ? refuse(NONE) : field;
    }

    // ---- the text

    public int feed(int bytes, int n) {
        if (!isWithin(n, 1, 4)) {
            return refuse(BEYOND);
        }
        if (tape.size + n > TAPE_LIMIT) {
            return refuse(FULL);
        }
        for (int i = n - 1; i >= 0; i--) {
            tape.add(bytes >>> 8 * i & 255);
        }
        return tape.size;
    }

    public int wipe() {
        int had = tape.size;
        tape.size = 0;
        return had;
    }

    public int plan() {
        beforePlan.become(land);
        int answer = readItems(tape, land);
        if (answer < 0) {
            land.become(beforePlan);
        }
        tape.size = 0;
        return answer;
    }

    // ---- sheets

    public int sheet(int s, int bits, int n) {
        if (!isSheet(s) || bits != 0 && bits != 8 && bits != 16 && bits != 64) {
            return refuse(BEYOND);
        }
        if (n < 0) {
            return refuse(SIZE);
        }
        if (n > SHEET_LIMIT) {
            return refuse(BEYOND);
        }
        sheets[s].lay(bits, n);
        return sheets[s].size;
    }

    public long write(int s, int i, long v) {
        int fault = sheetFault(s);
        if (fault != 0) {
            return refuse(fault);
        }
        if (!isWithin(i, 0, sheets[s].size - 1)) {
            return refuse(BEYOND);
        }
        return sheets[s].put(i, v);
    }

    public int copy(int s, int from, int t, int to, int n) {
        if (!isSheet(s) || !isSheet(t)) {
            return refuse(BEYOND);
        }
        Sheet source = sheets[s];
        Sheet target = sheets[t];
        if (source.isMissing() || target.isMissing()) {
            return refuse(MISSING);
        }
        if (source.bits != target.bits) {
            return refuse(KIND);
        }
        if (!source.holds(from, n) || !target.holds(to, n)) {
            return refuse(BEYOND);
        }
        System.arraycopy(source.numbers, from, target.numbers, to, n);
        return n;
    }

    public long cost(int s) {
        int fault = sheetFault(s);
        if (fault != 0) {
            return refuse(fault);
        }
        Sheet row = sheets[s];
        int ahead = 0;
        long sum = 0;
        for (int i = 0; i < row.size; i++) {
            int field = land.fieldTold(row.numbers[i]);
            if (field < 0 || isIn(field, ahead)) {
                return refuse(KIND);
            }
            sum += land.priceBy(field, land.ours | ahead);
            ahead |= 1 << field;
        }
        return sum;
    }

    public int offers(int s) {
        int fault = sheetFault(s);
        if (fault != 0) {
            return refuse(fault);
        }
        Sheet row = sheets[s];
        int bought = 0;
        for (int i = 0; i + 1 < row.size; i += 2) {
            int field = land.fieldTold(row.numbers[i]);
            long price = row.numbers[i + 1];
            boolean counts = field >= 0 && price >= 0 && price <= PRICE_LIMIT && land.isFree(field);
            if (counts && land.bid(field, (int) price)) {
                bought++;
            }
        }
        return bought;
    }

    public int read(int s) {
        int fault = sheetFault(s);
        if (fault != 0) {
            return refuse(fault);
        }
        Sheet row = sheets[s];
        for (int i = 0; i < row.size; i++) {
            if (!land.hasField(i) || row.numbers[i] != land.priceNow(i)) {
                return 1 + i;
            }
        }
        return 0;
    }

    // ---- images

    public int image() {
        keptLand.become(land);
        kept = true;
        return 1;
    }

    public int undo() {
        if (!kept) {
            return refuse(NONE);
        }
        land.become(keptLand);
        return land.fields;
    }

    public int tear() {
        int was = kept ? 1 : 0;
        kept = false;
        return was;
    }

    public int count(int what) {
        switch (what) {
            case 0: return land.fields;
            case 1: return land.strips;
            case 2: return Integer.bitCount(land.papers);
            case 3: return tape.size;
            case 4: return land.z;
            case 5: return land.allWary();
            case 6: return land.rules[POWER];
            default: return refuse(BEYOND);
        }
    }

    public int status(int which) {
        if (!isWithin(which, -1, FINDINGS - 1)) {
            return refuse(BEYOND);
        }
        if (which >= 0) {
            return told[which];
        }
        int all = 0;
        for (int i = 0; i < FINDINGS; i++) {
            all += told[i];
        }
        return all;
    }

    // ---- what the calls share

    private int refuse(int finding) {
        int place = BEYOND - finding;
        if (isWithin(place, 0, FINDINGS - 1)) {
            told[place]++;
        }
        return finding;
    }

    /** Why a STRIP has no LEAST COST: STATE or SIZE; 0: it has one. */
    private int hindranceOf(int strip) {
        if (!land.canBe(strip)) {
            return STATE;
        }
        return Integer.bitCount(land.missingOf(strip)) > ROW_LIMIT ? SIZE : 0;
    }

    private int leastCost(int strip) {
        return search.run(land, land.missingOf(strip)) + land.rounds[strip];
    }

    /** Why a sheet can't be used: BEYOND or MISSING; 0: it can. */
    private int sheetFault(int s) {
        if (!isSheet(s)) {
            return BEYOND;
        }
        return sheets[s].isMissing() ? MISSING : 0;
    }

    private static boolean isSheet(int s) {
        return isWithin(s, 0, SHEETS - 1);
    }

    private static boolean isKind(int kind) {
        return isWithin(kind, 0, KINDS - 1);
    }

    private static boolean isWithin(int v, int from, int to) {
        return v >= from && v <= to;
    }

    private static boolean isIn(int field, int set) {
        return (set >>> field & 1) != 0;
    }

    private static int swap(int[] row, int i, int v) {
        int was = row[i];
        row[i] = v;
        return was;
    }

    // ---- what owners ask

    private static boolean isOfKind(int kind, int above) {
        int at = kind;
        for (int step = 0; step < KINDS && isKind(at); step++) {
            if (at == above) {
                return true;
            }
            at = UNDER[at];
        }
        return false;
    }

    private static int wareOf(int wary, int heard) {
        return Math.min(WARE_LIMIT, wary + heard);
    }

    private static int paperCost(int price) {
        return Math.max(1, price / 10);
    }

    private static int priceOf(int kind, int worth, int wary, int heard) {
        int ware = wareOf(wary, heard);
        if (kind == BROTHER) {
            ware = Math.min(WARE_LIMIT, 2 * ware);
        }
        int plain = worth + worth * ware / 10;
        int stubborn = ware >= 5 ? plain + worth : plain;
        switch (kind) {
            case KEEN: return plain - (plain - worth) / 2;
            case STUBBORN: return stubborn;
            case LORD: return stubborn + stubborn / 2;
            case TALKER: return plain + 5 * heard;
            case BROTHER: return plain + 5 * heard;
            default: return plain;
        }
    }

    // ---- the plan's grammar: a reading that answers false (or -1) stays at the TOKEN that can't stand

    private static int readItems(Tape tape, Land land) {
        tape.start();
        for (int items = 1; items <= TAPE_LIMIT; items++) {
            if (!readItem(tape, land)) {
                return -1 - tape.at;
            }
            if (tape.token == Tape.END) {
                return items;
            }
            if (tape.token != Tape.SIGN) {
                return -1 - tape.at;
            }
            tape.next();
        }
        return -1 - tape.at;
    }

    private static boolean readItem(Tape tape, Land land) {
        if (tape.isWord("strip")) {
            return readStrip(tape, land);
        }
        for (int kind = 0; kind < KINDS; kind++) {
            if (tape.isWord(kindName(kind))) {
                return readField(tape, land, kind);
            }
        }
        for (int rule = 0; rule < RULES; rule++) {
            if (tape.isWord(ruleName(rule))) {
                return readInto(tape, land.rules, rule, 0, RULE_LIMITS[rule]);
            }
        }
        return false;
    }

    private static boolean readField(Tape tape, Land land, int kind) {
        if (land.fields >= FIELD_LIMIT) {
            return false;
        }
        int field = land.addField(kind, 1);
        if (!readInto(tape, land.worths, field, 1, WORTH_LIMIT)) {
            return false;
        }
        if (tape.isWord("wary") && !readInto(tape, land.wary, field, 0, WARE_LIMIT)) {
            return false;
        }
        if (!tape.isWord("tells")) {
            return true;
        }
        int set = readSet(tape, FIELD_LIMIT);
        if (set < 0) {
            return false;
        }
        land.tells[field] = set;
        return true;
    }

    private static boolean readStrip(Tape tape, Land land) {
        if (land.strips >= STRIP_LIMIT) {
            return false;
        }
        int set = readSet(tape, land.fields);
        if (set < 0) {
            return false;
        }
        int strip = land.addStrip(set, 0);
        return !tape.isWord("round") || readInto(tape, land.rounds, strip, 0, ROUND_LIMIT);
    }

    /** Reads the NUMBER behind the WORD at hand. */
    private static boolean readInto(Tape tape, int[] row, int i, int from, int to) {
        tape.next();
        if (tape.token != Tape.NUMBER || !isWithin(tape.value, from, to)) {
            return false;
        }
        row[i] = tape.value;
        tape.next();
        return true;
    }

    /** Reads the NUMBERS, each below a limit, behind the WORD at hand: as a set. */
    private static int readSet(Tape tape, int limit) {
        int set = 0;
        tape.next();
        for (int i = 0; i < TAPE_LIMIT && tape.token == Tape.NUMBER; i++) {
            if (tape.value >= limit) {
                return -1;
            }
            set |= 1 << tape.value;
            tape.next();
        }
        return set == 0 ? -1 : set;
    }

    private static String kindName(int kind) {
        switch (kind) {
            case OWNER: return "owner";
            case KEEN: return "keen";
            case STUBBORN: return "stubborn";
            case TALKER: return "talker";
            case LORD: return "lord";
            case BROTHER: return "brother";
            default: return "";
        }
    }

    private static String ruleName(int rule) {
        switch (rule) {
            case ZEAL: return "zeal";
            case CALM: return "calm";
            case LAW: return "law";
            case POWER: return "power";
            default: return "";
        }
    }

    /** All that an image keeps: FIELDS, PAPERS, what was paid, the rival, rules, STRIPS. */
    private static final class Land {
        private int fields;
        private final int[] kinds;
        private final int[] worths;
        private final int[] wary;
        private final int[] tells;
        private int ours;
        private int lost;
        private int papers;
        private final int[] prices;
        private final int[] tills;
        private int month;
        private long spent;
        private int z;
        private final int[] rules;
        private int strips;
        private final int[] sets;
        private final int[] rounds;

        private Land() {
            kinds = new int[FIELD_LIMIT];
            worths = new int[FIELD_LIMIT];
            wary = new int[FIELD_LIMIT];
            tells = new int[FIELD_LIMIT];
            prices = new int[FIELD_LIMIT];
            tills = new int[FIELD_LIMIT];
            z = 1;
            rules = new int[RULES];
            rules[CALM] = 9;
            rules[LAW] = 150;
            sets = new int[STRIP_LIMIT];
            rounds = new int[STRIP_LIMIT];
        }

        private void become(Land other) {
            fields = other.fields;
            System.arraycopy(other.kinds, 0, kinds, 0, FIELD_LIMIT);
            System.arraycopy(other.worths, 0, worths, 0, FIELD_LIMIT);
            System.arraycopy(other.wary, 0, wary, 0, FIELD_LIMIT);
            System.arraycopy(other.tells, 0, tells, 0, FIELD_LIMIT);
            ours = other.ours;
            lost = other.lost;
            papers = other.papers;
            System.arraycopy(other.prices, 0, prices, 0, FIELD_LIMIT);
            System.arraycopy(other.tills, 0, tills, 0, FIELD_LIMIT);
            month = other.month;
            spent = other.spent;
            z = other.z;
            System.arraycopy(other.rules, 0, rules, 0, RULES);
            strips = other.strips;
            System.arraycopy(other.sets, 0, sets, 0, STRIP_LIMIT);
            System.arraycopy(other.rounds, 0, rounds, 0, STRIP_LIMIT);
        }

        private int addField(int kind, int worth) {
            int field = fields;
            kinds[field] = kind;
            worths[field] = worth;
            wary[field] = 0;
            tells[field] = 0;
            fields++;
            return field;
        }

        private int addStrip(int set, int round) {
            int strip = strips;
            sets[strip] = set;
            rounds[strip] = round;
            strips++;
            return strip;
        }

        private boolean hasField(int field) {
            return isWithin(field, 0, fields - 1);
        }

        /** The FIELD that a sheet's number tells; -1: none. */
        private int fieldTold(long number) {
            return number >= 0 && number < fields ? (int) number : -1;
        }

        private boolean hasStrip(int strip) {
            return isWithin(strip, 0, strips - 1);
        }

        private int allFields() {
            return (1 << fields) - 1;
        }

        private int freeIn(int set) {
            return set & allFields() & ~ours & ~lost;
        }

        private boolean isFree(int field) {
            return isIn(field, freeIn(SET_LIMIT));
        }

        private int holderOf(int field) {
            if (isIn(field, ours)) {
                return 1;
            }
            return isIn(field, lost) ? 2 : 0;
        }

        private int tellersOf(int field) {
            int set = 0;
            for (int other = 0; other < fields; other++) {
                if (other != field && isIn(field, tells[other])) {
                    set |= 1 << other;
                }
            }
            return set;
        }

        private int heardBy(int field, int set) {
            return Integer.bitCount(tellersOf(field) & set);
        }

        private int priceHearing(int field, int heard) {
            return priceOf(kinds[field], worths[field], wary[field], heard);
        }

        private int priceBy(int field, int set) {
            return priceHearing(field, heardBy(field, set));
        }

        private int priceNow(int field) {
            return priceBy(field, ours);
        }

        private int worthsIn(int set) {
            int sum = 0;
            for (int field = 0; field < fields; field++) {
                if (isIn(field, set)) {
                    sum += worths[field];
                }
            }
            return sum;
        }

        private int pricesIn(int set, int bought) {
            int sum = 0;
            for (int field = 0; field < fields; field++) {
                if (isIn(field, set)) {
                    sum += priceBy(field, bought);
                }
            }
            return sum;
        }

        private int allWary() {
            int sum = 0;
            for (int field = 0; field < fields; field++) {
                sum += wary[field];
            }
            return sum;
        }

        private void buy(int field, int price) {
            ours |= 1 << field;
            dropPaper(field);
            spent += price;
        }

        private void dropPaper(int field) {
            papers &= ~(1 << field);
        }

        private boolean bid(int field, int price) {
            if (price >= priceNow(field)) {
                buy(field, price);
                return true;
            }
            wary[field] = wareOf(wary[field], 1);
            return false;
        }

        private int takePaper(int field, int till) {
            int price = priceNow(field);
            int paid = paperCost(price);
            papers |= 1 << field;
            prices[field] = price;
            tills[field] = till;
            spent += paid;
            return paid;
        }

        private void dropPastPapers() {
            for (int field = 0; field < fields; field++) {
                if (tills[field] < month) {
                    dropPaper(field);
                }
            }
        }

        private int rivalTakes() {
            z = z * 1103515245 + 12345;
            if ((z >>> 8) % 100 >= rules[ZEAL]) {
                return -1;
            }
            int taken = -1;
            int takenPrice = 0;
            for (int field = 0; field < fields; field++) {
                if (isFree(field) && !isIn(field, papers)) {
                    int price = priceNow(field);
                    if (taken < 0 || price < takenPrice) {
                        taken = field;
                        takenPrice = price;
                    }
                }
            }
            if (taken >= 0) {
                lost |= 1 << taken;
            }
            return taken;
        }

        private void calmDown() {
            for (int field = 0; field < fields; field++) {
                if (wary[field] > rules[CALM]) {
                    wary[field]--;
                }
            }
        }

        private boolean canBe(int strip) {
            return (sets[strip] & lost) == 0;
        }

        private int missingOf(int strip) {
            return sets[strip] & ~ours;
        }

        private boolean isHad(int strip) {
            return missingOf(strip) == 0;
        }

        private int priceAsLast(int strip, int field) {
            return priceBy(field, ours | sets[strip]);
        }

        /** The FIELD of a STRIP, not OURS, that asks most as the last one; -1: all are OURS. */
        private int dearestLast(int strip) {
            int dearest = -1;
            int most = 0;
            for (int field = 0; field < fields; field++) {
                if (isIn(field, missingOf(strip))) {
                    int price = priceAsLast(strip, field);
                    if (dearest < 0 || price > most) {
                        dearest = field;
                        most = price;
                    }
                }
            }
            return dearest;
        }

        /** The FIELD of a set that makes the others of it ask least, once bought; -1: the set is empty. */
        private int quietestFirst(int set) {
            int quietest = -1;
            int least = 0;
            for (int field = 0; field < fields; field++) {
                if (isIn(field, set)) {
                    int bit = 1 << field;
                    int sum = pricesIn(set & ~bit, ours | bit);
                    if (quietest < 0 || sum < least) {
                        quietest = field;
                        least = sum;
                    }
                }
            }
            return quietest;
        }
    }

    /**
     * Finds LEAST COST and BEST ORDER. What is HEARD hangs on the set that is bought, not on its order:
     * so it is enough to know for each set what the others cost at least.
     */
    private static final class OrderSearch {
        /** More than any row of FIELDS can cost. */
        private static final int UNREACHED = 1 << 30;

        private int size;
        private final int[] fields;
        /** For each FIELD of the row which others of the row TELL it, by their places in the row. */
        private final int[] tellers;
        /** What the i-th FIELD asks, told by h of the row: at i times ROW_LIMIT and h. */
        private final int[] prices;
        /** For each set of the row (by places) that is bought: what the others cost at least. */
        private final int[] rest;

        private OrderSearch() {
            fields = new int[ROW_LIMIT];
            tellers = new int[ROW_LIMIT];
            prices = new int[ROW_LIMIT * ROW_LIMIT];
            rest = new int[1 << ROW_LIMIT];
        }

        private int run(Land land, int set) {
            layRow(land, set);
            int all = (1 << size) - 1;
            rest[all] = 0;
            for (int bought = all - 1; bought >= 0; bought--) {
                int least = UNREACHED;
                for (int i = 0; i < size; i++) {
                    if (!isIn(i, bought)) {
                        least = Math.min(least, costBy(i, bought));
                    }
                }
                rest[bought] = least;
            }
            return rest[0];
        }

        private void layRow(Land land, int set) {
            size = 0;
            for (int field = 0; field < land.fields && size < ROW_LIMIT; field++) {
                if (isIn(field, set)) {
                    fields[size] = field;
                    size++;
                }
            }
            for (int i = 0; i < size; i++) {
                int told = land.tellersOf(fields[i]);
                tellers[i] = 0;
                for (int k = 0; k < size; k++) {
                    if (isIn(fields[k], told)) {
                        tellers[i] |= 1 << k;
                    }
                }
                int heard = Integer.bitCount(told & land.ours);
                for (int h = 0; h < size; h++) {
                    prices[i * ROW_LIMIT + h] = land.priceHearing(fields[i], heard + h);
                }
            }
        }

        /** What it costs at least to buy the i-th next, and all others after it. */
        private int costBy(int i, int bought) {
            int heard = Integer.bitCount(tellers[i] & bought);
            return prices[i * ROW_LIMIT + heard] + rest[bought | 1 << i];
        }

        /** The FIELD at a place of the first of the least orders; -1: none. */
        private int fieldAt(int place) {
            if (!isWithin(place, 0, size - 1)) {
                return -1;
            }
            int bought = 0;
            int next = 0;
            for (int step = 0; step <= place; step++) {
                next = nextOf(bought);
                bought |= 1 << next;
            }
            return fields[next];
        }

        private int nextOf(int bought) {
            for (int i = 0; i < size; i++) {
                if (!isIn(i, bought) && costBy(i, bought) == rest[bought]) {
                    return i;
                }
            }
            return 0;
        }
    }

    /** THE TAPE, and the TOKEN of it that is at hand. */
    private static final class Tape {
        private static final int WORD = 0;
        private static final int NUMBER = 1;
        private static final int SIGN = 2;
        private static final int END = 3;
        private static final int NO_TOKEN = 4;

        private final int[] bytes;
        private int size;
        private int at;
        private int end;
        private int token;
        private int value;

        private Tape() {
            bytes = new int[TAPE_LIMIT];
        }

        private void add(int b) {
            if (size < TAPE_LIMIT) {
                bytes[size] = b;
                size++;
            }
        }

        private void start() {
            end = 0;
            next();
        }

        private void next() {
            at = end;
            while (at < size && bytes[at] == ' ') {
                at++;
            }
            token = tokenAt(at);
            boolean isLong = token == WORD || token == NUMBER;
            end = token == SIGN ? at + 1 : at;
            while (isLong && end < size && tokenAt(end) == token) {
                end++;
            }
            value = token == NUMBER ? numberAtHand() : 0;
        }

        private int numberAtHand() {
            int number = 0;
            for (int i = at; i < end; i++) {
                // a NUMBER too great stays too great, however many digits it has
                number = Math.min(NUMBER_LIMIT + 1, number * 10 + bytes[i] - '0');
            }
            return number;
        }

        private int tokenAt(int place) {
            if (place >= size) {
                return END;
            }
            int b = bytes[place];
            if (b >= 'a' && b <= 'z') {
                return WORD;
            }
            if (b >= '0' && b <= '9') {
                return NUMBER;
            }
            return b == ';' ? SIGN : NO_TOKEN;
        }

        private boolean isWord(String name) {
            if (token != WORD || end - at != name.length()) {
                return false;
            }
            for (int i = 0; i < name.length(); i++) {
                if (bytes[at + i] != name.charAt(i)) {
                    return false;
                }
            }
            return true;
        }
    }

    /** A row of numbers; of 0 bits: MISSING. */
    private static final class Sheet {
        private int bits;
        private int size;
        private final long[] numbers;

        private Sheet() {
            numbers = new long[SHEET_LIMIT];
        }

        private boolean isMissing() {
            return bits == 0;
        }

        private void lay(int newBits, int n) {
            bits = newBits;
            size = newBits == 0 ? 0 : n;
            Arrays.fill(numbers, 0L);
        }

        private long put(int i, long v) {
            long was = numbers[i];
            numbers[i] = bits == 8 ? (byte) v : bits == 16 ? (short) v : v;
            return was;
        }

        private boolean holds(int from, int n) {
            return from >= 0 && n >= 0 && from <= size - n;
        }
    }
}
