import java.util.function.Supplier;
import java.util.function.ToLongFunction;

/**
 * Each refused call of each promise: its finding, which of several is told first, and that nothing but
 * the finding's count has changed by it. Then: calls that only tell something change nothing at all.
 */
public final class RefusalTest {
    private static final int BEYOND = Check.BEYOND;
    private static final int FULL = Check.FULL;
    private static final int KIND = Check.KIND;
    private static final int NONE = Check.NONE;
    private static final int STATE = Check.STATE;
    private static final int MISSING = Check.MISSING;
    private static final int SIZE = Check.SIZE;
    private static final int MIN = Integer.MIN_VALUE;
    private static final int MAX = Integer.MAX_VALUE;

    /** No FIELD in any world; some of them would be one if a shift or a cast went round. */
    private static final int[] NO_FIELDS = {-1, 14, 32, 256, 1 << 16, -32, MIN, MAX};
    private static final int[] NO_STRIPS = {-1, 6, 32, 256, 1 << 16, -32, MIN, MAX};
    private static final int[] NO_SHEETS = {-1, 4, 32, 256, 1 << 16, -32, MIN, MAX};
    private static final int[] NO_SETS = {-1, 1 << 14, 1 << 14 | 1, 1 << 30, MIN, MAX};

    private interface OnField {
        long call(AcreBuys x, int field);
    }

    private static void refused(Supplier<AcreBuys> world, String name, ToLongFunction<AcreBuys> call, int finding) {
        World.refused(world, name, call, finding);
    }

    private static void full(String name, ToLongFunction<AcreBuys> call, int finding) {
        World.refused(World::full, name + " when all is full", call, finding);
    }

    private static void some(String name, ToLongFunction<AcreBuys> call, int finding) {
        World.refused(World::some, name, call, finding);
    }

    private static void empty(String name, ToLongFunction<AcreBuys> call, int finding) {
        World.refused(World::empty, name + " of a new object", call, finding);
    }

    private static void late(String name, ToLongFunction<AcreBuys> call, int finding) {
        World.refused(World::late, name + " late", call, finding);
    }

    /** BEYOND for each number that is none, in a full world. */
    private static void eachBeyond(String name, int[] numbers, OnField call) {
        for (int number : numbers) {
            full(name + " with " + number, x -> call.call(x, number), BEYOND);
        }
    }

    /** The first FIELD that there isn't is BEYOND in each world. */
    private static void noField(String name, OnField call) {
        eachBeyond(name, NO_FIELDS, call);
        some(name + " with 5", x -> call.call(x, 5), BEYOND);
        empty(name + " with 0", x -> call.call(x, 0), BEYOND);
    }

    private static void noStrip(String name, OnField call) {
        eachBeyond(name, NO_STRIPS, call);
        some(name + " with 2", x -> call.call(x, 2), BEYOND);
        empty(name + " with 0", x -> call.call(x, 0), BEYOND);
    }

    private static void noSheet(String name, OnField call) {
        eachBeyond(name, NO_SHEETS, call);
        empty(name + " with 4", x -> call.call(x, 4), BEYOND);
    }

    public static void main(String[] args) {
        p2Field();
        p3Of();
        p4Set();
        p5As();
        p6Asks();
        p7Rule();
        p8Offer();
        p9Paper();
        p10PaperOf();
        p11Claim();
        p12County();
        p13Month();
        p15Stands();
        p16Strip();
        p17StripOf();
        p19Least();
        p20Order();
        p21Best();
        p22Last();
        p23GiveUp();
        p24Rights();
        p25Share();
        p26Common();
        p27First();
        p28Feed();
        p31Sheet();
        p32Write();
        p33Copy();
        p34Cost();
        p35Offers();
        p36Read();
        p38Undo();
        p40Count();
        p41Status();
        tellers(World::full, 3, 3);
        tellers(World::some, 1, 0);
        tells(World::full, "cost", x -> x.cost(0));
        tells(World::empty, "had", x -> x.had());
        tells(World::empty, "giveUp", x -> x.giveUp(0));
        Check.end();
    }

    private static void p2Field() {
        for (int kind : new int[] {-1, 6, 256, MIN, MAX}) {
            some("field of kind " + kind, x -> x.field(kind, 5), BEYOND);
            full("field of kind " + kind, x -> x.field(kind, 5), BEYOND);
        }
        for (int worth : new int[] {0, -1, 10000, 65536 + 5, MIN, MAX}) {
            some("field of worth " + worth, x -> x.field(0, worth), BEYOND);
            full("field of worth " + worth, x -> x.field(5, worth), BEYOND);
        }
        some("field of neither", x -> x.field(6, 0), BEYOND);
        full("field", x -> x.field(0, 1), FULL);
        full("field, the greatest", x -> x.field(5, 9999), FULL);
    }

    private static void p3Of() {
        for (int what = 0; what < 8; what++) {
            int w = what;
            noField("of " + w, (x, f) -> x.of(f, w));
        }
        for (int what : new int[] {-1, 8, 32, MIN, MAX}) {
            full("of what " + what, x -> x.of(13, what), BEYOND);
        }
    }

    private static void p4Set() {
        for (int what = 1; what <= 3; what++) {
            int w = what;
            noField("set " + w, (x, f) -> x.set(f, w, 1));
        }
        for (int what : new int[] {-1, 0, 4, 5, 7, MIN, MAX}) {
            full("set what " + what, x -> x.set(13, what, 1), BEYOND);
        }
        for (int worth : new int[] {0, -1, 10000, MIN, MAX}) {
            full("set worth " + worth, x -> x.set(13, 1, worth), BEYOND);
        }
        for (int wary : new int[] {-1, 10, MIN, MAX}) {
            full("set wary " + wary, x -> x.set(13, 2, wary), BEYOND);
        }
        for (int tells : NO_SETS) {
            full("set tells " + tells, x -> x.set(13, 3, tells), BEYOND);
        }
    }

    private static void p5As() {
        noField("as", (x, f) -> x.as(f, 0));
        for (int kind : new int[] {-1, 6, 32, MIN, MAX}) {
            full("as kind " + kind, x -> x.as(13, kind), BEYOND);
        }
        some("as: beyond is asked ahead of kind", x -> x.as(5, 4), BEYOND);
        int[] under = {-1, 0, 0, 0, 2, 3};
        for (int field = 0; field < 14; field++) {
            int own = field % 6;
            int f = field;
            for (int kind = 1; kind < 6; kind++) {
                int k = kind;
                if (kind != own && kind != under[own]) {
                    full("as(" + f + ", " + k + ")", x -> x.as(f, k), KIND);
                }
            }
        }
    }

    private static void p6Asks() {
        noField("asks", (x, f) -> x.asks(f, 0));
        eachBeyond("asks by set", NO_SETS, (x, set) -> x.asks(13, set));
    }

    private static void p7Rule() {
        int[] limit = {100, 9, 999, 9};
        for (int what = 0; what < 4; what++) {
            int w = what;
            for (int v : new int[] {-1, limit[what] + 1, 65536, MIN, MAX}) {
                full("rule " + w + " of " + v, x -> x.rule(w, v), BEYOND);
            }
        }
        for (int what : new int[] {-1, 4, 32, MIN, MAX}) {
            full("rule what " + what, x -> x.rule(what, 0), BEYOND);
        }
    }

    private static void p8Offer() {
        noField("offer", (x, f) -> x.offer(f, 99999));
        for (int price : new int[] {-1, 100000, MIN, MAX}) {
            full("offer of " + price, x -> x.offer(13, price), BEYOND);
            full("offer for ours: beyond first", x -> x.offer(0, price), BEYOND);
        }
        full("offer for ours", x -> x.offer(0, 99999), STATE);
        full("offer of 0 for ours", x -> x.offer(1, 0), STATE);
        full("offer for one that is lost", x -> x.offer(2, 99999), STATE);
        full("offer of 0 for one that is lost", x -> x.offer(2, 0), STATE);
    }

    private static void p9Paper() {
        noField("paper", (x, f) -> x.paper(f, 50));
        for (int month : new int[] {-1, 0, 100, MIN, MAX}) {
            full("paper till " + month, x -> x.paper(12, month), BEYOND);
            full("paper, beyond ahead of state, till " + month, x -> x.paper(0, month), BEYOND);
        }
        late("paper till 98", x -> x.paper(2, 98), BEYOND);
        late("paper till 100", x -> x.paper(2, 100), BEYOND);
        full("paper for ours", x -> x.paper(0, 50), STATE);
        full("paper for one that is lost", x -> x.paper(2, 50), STATE);
        full("paper where there is one", x -> x.paper(3, 50), STATE);
        some("paper where there is one", x -> x.paper(1, 3), STATE);
        some("paper for ours", x -> x.paper(3, 3), STATE);
        full("paper, a seventh", x -> x.paper(9, 50), FULL);
        full("paper, a seventh till now", x -> x.paper(13, 1), FULL);
    }

    private static void p10PaperOf() {
        noField("paperOf price", (x, f) -> x.paperOf(f, 0));
        noField("paperOf month", (x, f) -> x.paperOf(f, 1));
        for (int what : new int[] {-1, 2, 32, MIN, MAX}) {
            full("paperOf what " + what, x -> x.paperOf(3, what), BEYOND);
            full("paperOf none: beyond first, what " + what, x -> x.paperOf(9, what), BEYOND);
        }
        for (int field : new int[] {0, 2, 9, 13}) {
            full("paperOf " + field, x -> x.paperOf(field, 0), NONE);
            full("paperOf month of " + field, x -> x.paperOf(field, 1), NONE);
        }
        late("paperOf one that is past", x -> x.paperOf(1, 0), NONE);
    }

    private static void p11Claim() {
        noField("claim", (x, f) -> x.claim(f));
        for (int field : new int[] {0, 2, 9, 13}) {
            full("claim " + field, x -> x.claim(field), NONE);
        }
        late("claim one that is past", x -> x.claim(1), NONE);
    }

    private static void p12County() {
        noField("county", (x, f) -> x.county(f));
        full("county of ours: state ahead of none", x -> x.county(0), STATE);
        full("county of one that is lost", x -> x.county(2), STATE);
        some("county of ours, with power", x -> x.county(3), STATE);
        full("county without power", x -> x.county(13), NONE);
        full("county without power, a paper", x -> x.county(3), NONE);
    }

    private static void p13Month() {
        late("month", x -> x.month(), STATE);
    }

    private static void p15Stands() {
        for (int what : new int[] {-1, 5, 32, MIN, MAX}) {
            full("stands " + what, x -> x.stands(what), BEYOND);
        }
    }

    private static void p16Strip() {
        for (int set : NO_SETS) {
            full("strip of " + set, x -> x.strip(set, 0), BEYOND);
            some("strip of " + set, x -> x.strip(set, 0), BEYOND);
        }
        some("strip with field 5", x -> x.strip(32, 0), BEYOND);
        some("strip with fields 0 and 13", x -> x.strip(1 | 1 << 13, 0), BEYOND);
        empty("strip with field 0", x -> x.strip(1, 0), BEYOND);
        for (int round : new int[] {-1, 10000, 65536, MIN, MAX}) {
            some("strip of round " + round, x -> x.strip(1, round), BEYOND);
            full("strip of round " + round, x -> x.strip(1, round), BEYOND);
        }
        full("strip, a seventh", x -> x.strip(1, 0), FULL);
        full("strip, a seventh, of none", x -> x.strip(0, 9999), FULL);
    }

    private static void p17StripOf() {
        for (int what = 0; what <= 4; what++) {
            int w = what;
            noStrip("stripOf " + w, (x, s) -> x.stripOf(s, w));
        }
        for (int what : new int[] {-1, 5, 32, MIN, MAX}) {
            full("stripOf what " + what, x -> x.stripOf(3, what), BEYOND);
        }
    }

    private static void p19Least() {
        noStrip("least", (x, s) -> x.least(s));
        full("least of one that can't be", x -> x.least(1), STATE);
        full("least of one that can't be, of 12", x -> x.least(5), STATE);
        full("least of 11", x -> x.least(0), SIZE);
    }

    private static void p20Order() {
        noStrip("order", (x, s) -> x.order(s, 0));
        for (int i : new int[] {-1, 10, 32, MIN, MAX}) {
            full("order at " + i, x -> x.order(3, i), BEYOND);
            full("order at " + i + " of one that can't be", x -> x.order(1, i), BEYOND);
            full("order at " + i + " of 11", x -> x.order(0, i), BEYOND);
        }
        full("order of one that can't be", x -> x.order(1, 0), STATE);
        full("order of one that can't be, of 12, at 9", x -> x.order(5, 9), STATE);
        full("order of 11", x -> x.order(0, 0), SIZE);
        full("order of 11 at 9", x -> x.order(0, 9), SIZE);
        full("order of one that is had", x -> x.order(2, 0), NONE);
        full("order of the empty one", x -> x.order(4, 0), NONE);
        full("order of two at 2", x -> x.order(3, 2), NONE);
        full("order of two at 9", x -> x.order(3, 9), NONE);
    }

    private static AcreBuys noneCanBe() {
        AcreBuys x = new AcreBuys();
        x.field(0, 5);
        x.field(0, 9);
        x.strip(1, 0);
        x.strip(3, 7);
        x.rule(0, 100);
        x.month();
        return x;
    }

    private static AcreBuys elevenAlone() {
        AcreBuys x = new AcreBuys();
        for (int f = 0; f < 11; f++) {
            x.field(0, 5);
        }
        x.strip(2047, 0);
        return x;
    }

    private static void p21Best() {
        empty("best", x -> x.best(), NONE);
        refused(RefusalTest::noneCanBe, "best if none can be", x -> x.best(), NONE);
        refused(RefusalTest::elevenAlone, "best of one of 11", x -> x.best(), NONE);
    }

    private static void p22Last() {
        noStrip("last", (x, s) -> x.last(s, 0));
        noStrip("last's field", (x, s) -> x.last(s, 1));
        for (int what : new int[] {-1, 2, 32, MIN, MAX}) {
            full("last what " + what, x -> x.last(3, what), BEYOND);
            full("last of one that can't be, what " + what, x -> x.last(1, what), BEYOND);
            full("last of one that is had, what " + what, x -> x.last(2, what), BEYOND);
        }
        for (int what = 0; what <= 1; what++) {
            int w = what;
            full("last of one that can't be " + w, x -> x.last(1, w), STATE);
            full("last of one that is had " + w, x -> x.last(2, w), NONE);
            full("last of the empty one " + w, x -> x.last(4, w), NONE);
        }
    }

    private static void p23GiveUp() {
        for (int gain : new int[] {-1, 10000000, MIN, MAX}) {
            full("giveUp by " + gain, x -> x.giveUp(gain), BEYOND);
            empty("giveUp by " + gain, x -> x.giveUp(gain), BEYOND);
        }
    }

    private static void p24Rights() {
        noStrip("rights", (x, s) -> x.rights(s));
        full("rights of one that can't be", x -> x.rights(1), STATE);
        full("rights of one that can't be, of 12", x -> x.rights(5), STATE);
    }

    private static void p25Share() {
        noStrip("share of strip", (x, s) -> x.share(s, 9999, 4));
        noField("share of field", (x, f) -> x.share(3, 9999, f));
        for (int gain : new int[] {-1, 10000000, MIN, MAX}) {
            full("share of " + gain, x -> x.share(3, gain, 4), BEYOND);
            full("share of " + gain + ", not free", x -> x.share(3, gain, 0), BEYOND);
        }
        full("share of ours", x -> x.share(3, 9999, 0), STATE);
        full("share of one that is lost", x -> x.share(1, 9999, 2), STATE);
        full("share of another one", x -> x.share(3, 9999, 5), STATE);
        full("share in the empty one", x -> x.share(4, 9999, 5), STATE);
        full("share: state ahead of none", x -> x.share(3, 0, 0), STATE);
        full("share of one too little", x -> x.share(3, 121 + 128 - 1, 3), NONE);
        full("share of 0", x -> x.share(3, 0, 4), NONE);
    }

    private static void p26Common() {
        empty("common", x -> x.common(), NONE);
        refused(RefusalTest::noneCanBe, "common if none can be", x -> x.common(), NONE);
    }

    private static void p27First() {
        noStrip("first", (x, s) -> x.first(s));
        full("first of one that is had", x -> x.first(2), NONE);
        full("first of the empty one", x -> x.first(4), NONE);
        refused(RefusalTest::noneCanBe, "first where the only one is lost", x -> x.first(0), NONE);
    }

    private static void p28Feed() {
        for (int n : new int[] {0, -1, 5, 32, MIN, MAX}) {
            some("feed of " + n, x -> x.feed(0x3b3b3b3b, n), BEYOND);
            full("feed of " + n, x -> x.feed(0x3b3b3b3b, n), BEYOND);
        }
        full("feed of 4 behind 117", x -> x.feed(0x3b3b3b3b, 4), FULL);
        for (int n = 1; n <= 4; n++) {
            int m = n;
            refused(RefusalTest::fullTape, "feed of " + m + " behind 120", x -> x.feed(0x3b3b3b3b, m), FULL);
        }
        refused(RefusalTest::fullTape, "feed: beyond ahead of full", x -> x.feed(0, 5), BEYOND);
    }

    private static AcreBuys fullTape() {
        AcreBuys x = World.full();
        x.feed(0x202020, 3);
        return x;
    }

    private static void p31Sheet() {
        noSheet("sheet", (x, s) -> x.sheet(s, 8, 5));
        noSheet("sheet ahead of size", (x, s) -> x.sheet(s, 8, -1));
        noSheet("sheet to be missing", (x, s) -> x.sheet(s, 0, 0));
        for (int bits : new int[] {-1, 1, 7, 9, 15, 17, 24, 32, 63, 65, 128, -8, -64, MIN, MAX}) {
            full("sheet of bits " + bits, x -> x.sheet(0, bits, 5), BEYOND);
            full("sheet of bits " + bits + " ahead of size", x -> x.sheet(0, bits, -5), BEYOND);
        }
        for (int bits : new int[] {0, 8, 16, 64}) {
            for (int s = 0; s < 4; s++) {
                int sheet = s;
                for (int n : new int[] {-1, MIN}) {
                    full("sheet of " + n + " numbers", x -> x.sheet(sheet, bits, n), SIZE);
                }
                for (int n : new int[] {41, 256, MAX}) {
                    full("sheet of " + n + " numbers", x -> x.sheet(sheet, bits, n), BEYOND);
                }
            }
        }
    }

    private static void p32Write() {
        noSheet("write", (x, s) -> x.write(s, 0, 7));
        noSheet("write nowhere", (x, s) -> x.write(s, -1, 7));
        for (int i : new int[] {-1, 0, 40, MIN, MAX}) {
            full("write on none at " + i, x -> x.write(3, i, 7), MISSING);
        }
        int[] size = {4, 3, 5};
        for (int s = 0; s < 3; s++) {
            int sheet = s;
            for (int i : new int[] {-1, size[s], 39, 40, 256, MIN, MAX}) {
                full("write on " + sheet + " at " + i, x -> x.write(sheet, i, 7), BEYOND);
            }
        }
        for (int s = 0; s < 4; s++) {
            int sheet = s;
            empty("write on " + sheet, x -> x.write(sheet, 0, 7), MISSING);
        }
    }

    private static AcreBuys twoSheets() {
        AcreBuys x = World.full();
        x.sheet(1, 8, 6);
        x.write(1, 5, 99);
        return x;
    }

    private static void copyRefused(String name, int finding, int s, int from, int t, int to, int n) {
        refused(RefusalTest::twoSheets, "copy " + name, x -> x.copy(s, from, t, to, n), finding);
    }

    private static void p33Copy() {
        noSheet("copy from sheet", (x, s) -> x.copy(s, 0, 0, 0, 1));
        noSheet("copy to sheet", (x, s) -> x.copy(0, 0, s, 0, 1));
        noSheet("copy, beyond ahead of missing, from", (x, s) -> x.copy(s, 0, 3, 0, 1));
        noSheet("copy, beyond ahead of missing, to", (x, s) -> x.copy(3, 0, s, 0, 1));
        copyRefused("from a missing one", MISSING, 3, 0, 0, 0, 1);
        copyRefused("to a missing one", MISSING, 0, 0, 3, 0, 1);
        copyRefused("both are missing", MISSING, 3, 0, 3, 0, 0);
        copyRefused("missing ahead of beyond", MISSING, 3, -1, 0, -1, -1);
        copyRefused("8 to 64 bits", KIND, 0, 0, 2, 0, 1);
        copyRefused("64 to 8 bits", KIND, 2, 0, 1, 0, 1);
        copyRefused("none of other bits", KIND, 2, 0, 1, 0, 0);
        copyRefused("kind ahead of beyond", KIND, 0, -1, 2, 9, MIN);
        copyRefused("from -1", BEYOND, 0, -1, 1, 0, 1);
        copyRefused("to -1", BEYOND, 0, 0, 1, -1, 1);
        copyRefused("n -1", BEYOND, 0, 0, 1, 0, -1);
        copyRefused("n min", BEYOND, 0, 0, 1, 0, MIN);
        copyRefused("from min", BEYOND, 0, MIN, 1, 0, 1);
        copyRefused("to min", BEYOND, 0, 0, 1, MIN, MIN);
        copyRefused("5 of 4", BEYOND, 0, 0, 1, 0, 5);
        copyRefused("4 from 1 of 4", BEYOND, 0, 1, 1, 0, 4);
        copyRefused("1 behind the end", BEYOND, 0, 4, 1, 0, 1);
        copyRefused("0 one behind the end", BEYOND, 0, 5, 1, 0, 0);
        copyRefused("4 from 3 into 6", BEYOND, 0, 0, 1, 3, 4);
        copyRefused("1 to the end", BEYOND, 0, 0, 1, 6, 1);
        copyRefused("0 to one behind the end", BEYOND, 0, 0, 1, 7, 0);
        copyRefused("far too many", BEYOND, 0, 1, 1, 1, MAX);
        copyRefused("from far beyond", BEYOND, 0, MAX, 1, 0, 1);
        copyRefused("to far beyond", BEYOND, 0, 0, 1, MAX, 1);
        copyRefused("all far beyond", BEYOND, 0, MAX, 1, MAX, MAX);
        copyRefused("onto itself, 4 from 0 to 1", BEYOND, 0, 0, 0, 1, 4);
    }

    private static AcreBuys row(int bits, long... numbers) {
        AcreBuys x = World.full();
        x.sheet(3, bits, numbers.length);
        for (int i = 0; i < numbers.length; i++) {
            x.write(3, i, numbers[i]);
        }
        return x;
    }

    private static void p34Cost() {
        noSheet("cost", (x, s) -> x.cost(s));
        full("cost of none", x -> x.cost(3), MISSING);
        refused(() -> row(8, 14), "cost of field 14", x -> x.cost(3), KIND);
        refused(() -> row(8, 3, -1), "cost of field -1", x -> x.cost(3), KIND);
        refused(() -> row(8, 3, 4, 3), "cost of one told twice", x -> x.cost(3), KIND);
        refused(() -> row(16, 0, 0), "cost of ours told twice", x -> x.cost(3), KIND);
        refused(() -> row(64, 1L << 32), "cost of a field of 33 bits", x -> x.cost(3), KIND);
        refused(() -> row(64, 5, Long.MIN_VALUE), "cost of the least number", x -> x.cost(3), KIND);
        refused(() -> row(64, 5, Long.MAX_VALUE), "cost of the greatest number", x -> x.cost(3), KIND);
        refused(() -> row(8, 0, 1, 2, 3, 4, 5, 6, 7, 8, 9, 10, 11, 12, 13, 14), "cost, the 15th", x -> x.cost(3), KIND);
    }

    private static void p35Offers() {
        noSheet("offers", (x, s) -> x.offers(s));
        full("offers of none", x -> x.offers(3), MISSING);
    }

    private static void p36Read() {
        noSheet("read", (x, s) -> x.read(s));
        full("read of none", x -> x.read(3), MISSING);
    }

    private static AcreBuys torn() {
        AcreBuys x = World.full();
        x.tear();
        return x;
    }

    private static void p38Undo() {
        some("undo", x -> x.undo(), NONE);
        empty("undo", x -> x.undo(), NONE);
        refused(RefusalTest::torn, "undo when torn", x -> x.undo(), NONE);
    }

    private static void p40Count() {
        for (int what : new int[] {-1, 7, 32, MIN, MAX}) {
            full("count " + what, x -> x.count(what), BEYOND);
        }
    }

    private static void p41Status() {
        for (int which : new int[] {-2, 7, 32, MIN, MAX}) {
            full("status " + which, x -> x.status(which), BEYOND);
        }
    }

    /** What only tells answers the same again, counts no finding and changes nothing. */
    private static void tells(Supplier<AcreBuys> world, String name, ToLongFunction<AcreBuys> call) {
        World.asked(world, name, call, call.applyAsLong(world.get()));
    }

    private static void tellers(Supplier<AcreBuys> world, int field, int strip) {
        for (int what = 0; what < 8; what++) {
            int w = what;
            tells(world, "of " + w, x -> x.of(field, w));
        }
        tells(world, "as", x -> x.as(field, 0));
        tells(world, "asks", x -> x.asks(field, 16383));
        tells(world, "paperOf", x -> x.paperOf(field, 0));
        for (int what = 0; what < 5; what++) {
            int w = what;
            tells(world, "stands " + w, x -> x.stands(w));
            tells(world, "stripOf " + w, x -> x.stripOf(strip, w));
        }
        tells(world, "had", x -> x.had());
        tells(world, "least", x -> x.least(strip));
        tells(world, "order", x -> x.order(strip, 1));
        tells(world, "best", x -> x.best());
        tells(world, "last", x -> x.last(strip, 0));
        tells(world, "last's field", x -> x.last(strip, 1));
        tells(world, "giveUp", x -> x.giveUp(0));
        tells(world, "giveUp not", x -> x.giveUp(9999999));
        tells(world, "rights", x -> x.rights(strip));
        tells(world, "share", x -> x.share(strip, 9999, field));
        tells(world, "common", x -> x.common());
        tells(world, "first", x -> x.first(strip));
        tells(world, "read", x -> x.read(0));
        tells(world, "copy of none", x -> x.copy(2, 5, 2, 5, 0));
        for (int which = -1; which < 7; which++) {
            int w = which;
            tells(world, "status " + w, x -> x.status(w));
            tells(world, "count " + w, x -> w < 0 ? 0 : x.count(w));
        }
    }
}
