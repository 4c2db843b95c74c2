/** One method a promise of the document: ordinary inputs, named edges, wrong inputs. */
public final class PromiseTest {
    private static final int BEYOND = Check.BEYOND;
    private static final int FULL = Check.FULL;
    private static final int KIND = Check.KIND;
    private static final int NONE = Check.NONE;
    private static final int STATE = Check.STATE;
    private static final int MISSING = Check.MISSING;
    private static final int SIZE = Check.SIZE;
    private static final int MIN = Integer.MIN_VALUE;
    private static final int MAX = Integer.MAX_VALUE;

    private static void due(String what, long got, long want) {
        Check.due(what, got, want);
    }

    /** Fields 0 to 5, one of each kind, WORTH 100, 200, .. 600; told by none. */
    private static AcreBuys oneOfEach() {
        AcreBuys x = new AcreBuys();
        for (int kind = 0; kind < 6; kind++) {
            x.field(kind, 100 * (kind + 1));
        }
        return x;
    }

    private static AcreBuys plain(int fields, int worth) {
        AcreBuys x = new AcreBuys();
        for (int i = 0; i < fields; i++) {
            x.field(0, worth);
        }
        return x;
    }

    public static void main(String[] args) {
        p1NewObject();
        p2Field();
        p3Of();
        p4Set();
        p5As();
        p6Asks();
        p7Rule();
        p8Offer();
        p9Paper();
        p10PaperOf();
        p11Claim();
        p12County();
        p13Month();
        p14Seed();
        p15Stands();
        p16Strip();
        p17StripOf();
        p18Had();
        p19Least();
        p20Order();
        p21Best();
        p22Last();
        p23GiveUp();
        p24Rights();
        p25Share();
        p26Common();
        p27First();
        p28Feed();
        p29Wipe();
        p30Plan();
        p30Faults();
        p31Sheet();
        p32Write();
        p33Copy();
        p34Cost();
        p35Offers();
        p36Read();
        p37Image();
        p38Undo();
        p39Tear();
        p40Count();
        p41Status();
        Check.end();
    }

    private static void p1NewObject() {
        AcreBuys x = new AcreBuys();
        for (int what = 0; what <= 6; what++) {
            due("p1 count " + what, x.count(what), what == 4 ? 1 : 0);
        }
        for (int what = 0; what <= 4; what++) {
            due("p1 stands " + what, x.stands(what), 0);
        }
        due("p1 zeal", x.rule(0, 0), 0);
        due("p1 calm", x.rule(1, 9), 9);
        due("p1 law", x.rule(2, 150), 150);
        due("p1 power", x.rule(3, 0), 0);
        due("p1 status", x.status(-1), 0);
        due("p1 tear", x.tear(), 0);
        due("p1 undo", x.undo(), NONE);
        due("p1 sheet is missing", x.read(0), MISSING);
        due("p1 no field", x.of(0, 0), BEYOND);
    }

    private static void p2Field() {
        AcreBuys x = new AcreBuys();
        due("p2 first", x.field(0, 1), 0);
        due("p2 second", x.field(5, 9999), 1);
        due("p2 kind 6", x.field(6, 1), BEYOND);
        due("p2 kind -1", x.field(-1, 1), BEYOND);
        due("p2 worth 0", x.field(0, 0), BEYOND);
        due("p2 worth 10000", x.field(0, 10000), BEYOND);
        due("p2 worth min", x.field(0, MIN), BEYOND);
        for (int i = 2; i < 14; i++) {
            due("p2 field " + i, x.field(i % 6, i), i);
        }
        due("p2 full", x.field(0, 1), FULL);
        due("p2 beyond before full", x.field(6, 1), BEYOND);
        due("p2 fields", x.count(0), 14);
        due("p2 a new one is free", x.of(13, 4), 0);
        due("p2 a new one isn't wary", x.of(13, 2), 0);
        due("p2 a new one tells none", x.of(13, 3), 0);
    }

    private static void p3Of() {
        AcreBuys x = oneOfEach();
        x.set(0, 3, 1 << 4 | 1 << 13);
        x.set(4, 2, 8);
        x.set(4, 3, 1 << 4);
        due("p3 kind", x.of(4, 0), 4);
        due("p3 worth", x.of(4, 1), 500);
        due("p3 wary", x.of(4, 2), 8);
        due("p3 tells", x.of(0, 3), 1 << 4 | 1 << 13);
        due("p3 free", x.of(4, 4), 0);
        due("p3 heard before", x.of(4, 6), 0);
        due("p3 ware before", x.of(4, 7), 8);
        due("p3 lord asks by 8", x.of(4, 5), (500 + 400 + 500) * 3 / 2);
        x.offer(0, 100);
        due("p3 ours", x.of(0, 4), 1);
        due("p3 heard by ours", x.of(4, 6), 1);
        due("p3 ware", x.of(4, 7), 9);
        x.offer(4, 99999);
        due("p3 itself isn't heard", x.of(4, 6), 1);
        x.set(4, 2, 9);
        due("p3 ware is 9 at most", x.of(4, 7), 9);
        x.rule(0, 100);
        x.month();
        due("p3 lost", x.of(1, 4), 2);
        due("p3 what -1", x.of(0, -1), BEYOND);
        due("p3 what 8", x.of(0, 8), BEYOND);
        due("p3 field 6", x.of(6, 0), BEYOND);
        due("p3 field -1", x.of(-1, 0), BEYOND);
        due("p3 field max", x.of(MAX, 0), BEYOND);
    }

    private static void p4Set() {
        AcreBuys x = oneOfEach();
        due("p4 worth", x.set(1, 1, 9999), 200);
        due("p4 worth was", x.set(1, 1, 1), 9999);
        due("p4 worth 0", x.set(1, 1, 0), BEYOND);
        due("p4 worth 10000", x.set(1, 1, 10000), BEYOND);
        due("p4 wary", x.set(1, 2, 9), 0);
        due("p4 wary was", x.set(1, 2, 0), 9);
        due("p4 wary 10", x.set(1, 2, 10), BEYOND);
        due("p4 wary -1", x.set(1, 2, -1), BEYOND);
        due("p4 tells", x.set(1, 3, 16383), 0);
        due("p4 tells was", x.set(1, 3, 0), 16383);
        due("p4 tells 16384", x.set(1, 3, 16384), BEYOND);
        due("p4 tells -1", x.set(1, 3, -1), BEYOND);
        due("p4 what 0", x.set(1, 0, 1), BEYOND);
        due("p4 what 4", x.set(1, 4, 1), BEYOND);
        due("p4 field 6", x.set(6, 1, 1), BEYOND);
        due("p4 field -1", x.set(-1, 1, 1), BEYOND);
        due("p4 nothing else changed", x.of(1, 1), 1);
    }

    private static void p5As() {
        AcreBuys x = oneOfEach();
        for (int f = 0; f < 6; f++) {
            x.set(f, 2, 5);
        }
        int[] price = {150, 250, 750, 600, 1875, 1140};
        int[] under = {-1, 0, 0, 0, 2, 3};
        for (int f = 0; f < 6; f++) {
            for (int kind = 0; kind < 6; kind++) {
                boolean is = kind == f || kind == under[f] || kind == 0;
                due("p5 as(" + f + ", " + kind + ")", x.as(f, kind), is ? price[f] : KIND);
            }
        }
        due("p5 kind 6", x.as(0, 6), BEYOND);
        due("p5 kind -1", x.as(0, -1), BEYOND);
        due("p5 field 6", x.as(6, 0), BEYOND);
        due("p5 field min", x.as(MIN, 0), BEYOND);
    }

    private static void p6Asks() {
        AcreBuys x = new AcreBuys();
        x.field(0, 15);
        x.field(1, 15);
        x.field(2, 15);
        x.field(3, 15);
        x.field(4, 15);
        x.field(5, 15);
        int all = 63;
        for (int f = 0; f < 6; f++) {
            x.set(f, 3, all);
        }
        int[] none = {15, 15, 15, 15, 22, 15};
        int[] three = {19, 17, 19, 34, 28, 39};
        int[] five = {22, 19, 37, 47, 55, 53};
        for (int f = 0; f < 6; f++) {
            int others = all & ~(1 << f);
            int two = f > 1 ? 3 : 48;
            int third = f == 3 ? 1 << 4 : 1 << 3;
            due("p6 by none " + f, x.asks(f, 0), none[f]);
            due("p6 by itself " + f, x.asks(f, 1 << f), none[f]);
            due("p6 by three " + f, x.asks(f, two | third), three[f]);
            due("p6 by five " + f, x.asks(f, others), five[f]);
            due("p6 by all of 14 " + f, x.asks(f, 16383), five[f]);
        }
        due("p6 fields that aren't there tell none", x.asks(0, 16383 & ~63), 15);
        due("p6 set 16384", x.asks(0, 16384), BEYOND);
        due("p6 set -1", x.asks(0, -1), BEYOND);
        due("p6 field 6", x.asks(6, 0), BEYOND);
        due("p6 field -1", x.asks(-1, 0), BEYOND);
        p6Edges();
    }

    private static void p6Edges() {
        AcreBuys x = new AcreBuys();
        x.field(2, 9999);
        x.field(4, 9999);
        x.field(5, 100);
        x.set(0, 2, 4);
        due("p6 stubborn by 4", x.asks(0, 0), 9999 + 3999);
        x.set(0, 2, 5);
        due("p6 stubborn by 5", x.asks(0, 0), 9999 + 4999 + 9999);
        x.set(1, 2, 9);
        due("p6 the dearest lord", x.asks(1, 0), 28997 + 14498);
        x.set(2, 2, 4);
        due("p6 brother by 4", x.asks(2, 0), 180);
        x.set(2, 2, 5);
        due("p6 brother by 5 is by 9", x.asks(2, 0), 190);
        AcreBuys y = plain(13, 1);
        y.field(3, 10);
        for (int f = 0; f < 13; f++) {
            y.set(f, 3, 1 << 13);
        }
        due("p6 heard isn't 9 at most", y.asks(13, 16383), 19 + 65);
    }

    private static void p7Rule() {
        AcreBuys x = new AcreBuys();
        int[] limit = {100, 9, 999, 9};
        int[] first = {0, 9, 150, 0};
        for (int what = 0; what < 4; what++) {
            due("p7 first " + what, x.rule(what, limit[what]), first[what]);
            due("p7 most " + what, x.rule(what, 0), limit[what]);
            due("p7 least " + what, x.rule(what, 1), 0);
            due("p7 too much " + what, x.rule(what, limit[what] + 1), BEYOND);
            due("p7 below 0 " + what, x.rule(what, -1), BEYOND);
            due("p7 stays " + what, x.rule(what, 0), 1);
        }
        due("p7 what 4", x.rule(4, 0), BEYOND);
        due("p7 what -1", x.rule(-1, 0), BEYOND);
        due("p7 what min", x.rule(MIN, 0), BEYOND);
    }

    private static void p8Offer() {
        AcreBuys x = plain(3, 100);
        due("p8 one too little", x.offer(0, 99), 0);
        due("p8 wary is 1 more", x.of(0, 2), 1);
        due("p8 nothing is spent", x.stands(1), 0);
        due("p8 not ours", x.of(0, 4), 0);
        due("p8 as asked", x.offer(0, 110), 1);
        due("p8 ours", x.of(0, 4), 1);
        due("p8 wary stays", x.of(0, 2), 1);
        due("p8 spent", x.stands(1), 110);
        due("p8 not free", x.offer(0, 110), STATE);
        due("p8 more than asked", x.offer(1, 99999), 1);
        due("p8 all of it is spent", x.stands(1), 110 + 99999);
        x.set(2, 2, 9);
        due("p8 none by 9", x.offer(2, 189), 0);
        due("p8 wary is 9 at most", x.of(2, 2), 9);
        x.paper(2, 50);
        due("p8 refused, the paper stays", x.offer(2, 0), 0);
        due("p8 a paper", x.count(2), 1);
        due("p8 bought, the paper goes", x.offer(2, 190), 1);
        due("p8 no paper", x.count(2), 0);
        due("p8 price 100000", x.offer(2, 100000), BEYOND);
        due("p8 price -1", x.offer(2, -1), BEYOND);
        due("p8 field 3", x.offer(3, 1), BEYOND);
        due("p8 field -1", x.offer(-1, 1), BEYOND);
        AcreBuys y = plain(1, 100);
        y.rule(0, 100);
        y.month();
        due("p8 lost isn't free", y.offer(0, 100), STATE);
    }

    private static void p9Paper() {
        AcreBuys x = plain(9, 109);
        x.set(8, 1, 9);
        due("p9 a tenth, cut", x.paper(0, 0), 10);
        due("p9 it is spent", x.stands(1), 10);
        due("p9 1 at least", x.paper(8, 99), 1);
        due("p9 there is one", x.paper(0, 99), STATE);
        x.offer(1, 109);
        due("p9 not free", x.paper(1, 99), STATE);
        due("p9 spent is more by it", x.stands(1), 10 + 1 + 109);
        due("p9 month 100", x.paper(2, 100), BEYOND);
        due("p9 month -1", x.paper(2, -1), BEYOND);
        due("p9 field 9", x.paper(9, 0), BEYOND);
        due("p9 field -1", x.paper(-1, 0), BEYOND);
        for (int f = 2; f < 6; f++) {
            x.paper(f, 5);
        }
        due("p9 six", x.count(2), 6);
        due("p9 full", x.paper(6, 5), FULL);
        due("p9 state before full", x.paper(0, 5), STATE);
        x.month();
        due("p9 one is past", x.count(2), 5);
        due("p9 month past", x.paper(6, 0), BEYOND);
        due("p9 this month", x.paper(6, 1), 10);
    }

    private static void p10PaperOf() {
        AcreBuys x = plain(2, 100);
        due("p10 none", x.paperOf(0, 0), NONE);
        x.set(0, 2, 3);
        x.paper(0, 7);
        x.set(0, 2, 9);
        due("p10 the price of then", x.paperOf(0, 0), 130);
        due("p10 month", x.paperOf(0, 1), 7);
        due("p10 what 2", x.paperOf(0, 2), BEYOND);
        due("p10 what -1", x.paperOf(0, -1), BEYOND);
        due("p10 field 2", x.paperOf(2, 0), BEYOND);
        due("p10 beyond before none", x.paperOf(1, 2), BEYOND);
        for (int i = 0; i < 7; i++) {
            x.month();
        }
        due("p10 the last month", x.paperOf(0, 1), 7);
        x.month();
        due("p10 past", x.paperOf(0, 1), NONE);
    }

    private static void p11Claim() {
        AcreBuys x = plain(2, 100);
        due("p11 none", x.claim(0), NONE);
        x.paper(0, 1);
        x.set(0, 2, 9);
        x.month();
        due("p11 the paper's price", x.claim(0), 100);
        due("p11 ours", x.of(0, 4), 1);
        due("p11 spent", x.stands(1), 110);
        due("p11 the paper is no more", x.claim(0), NONE);
        x.paper(1, 1);
        x.month();
        due("p11 past", x.claim(1), NONE);
        due("p11 field 2", x.claim(2), BEYOND);
        due("p11 field -1", x.claim(-1), BEYOND);
    }

    private static void p12County() {
        AcreBuys x = plain(4, 99);
        due("p12 no power", x.county(0), NONE);
        x.rule(3, 3);
        x.set(0, 2, 9);
        x.paper(0, 9);
        due("p12 by worth, cut", x.county(0), 148);
        due("p12 ours", x.of(0, 4), 1);
        due("p12 spent", x.stands(1), 148 + 18);
        due("p12 power", x.count(6), 2);
        due("p12 no paper", x.count(2), 0);
        due("p12 not free", x.county(0), STATE);
        x.rule(2, 0);
        due("p12 law 0", x.county(1), 0);
        x.rule(2, 999);
        x.set(2, 1, 9999);
        due("p12 the dearest", x.county(2), 99890);
        due("p12 power is gone", x.county(3), NONE);
        due("p12 state before none", x.county(2), STATE);
        due("p12 field 4", x.county(4), BEYOND);
        due("p12 field -1", x.county(-1), BEYOND);
    }

    private static void p13Month() {
        AcreBuys x = plain(4, 50);
        due("p13 no zeal", x.month(), -1);
        due("p13 month", x.stands(0), 1);
        x.seed(1);
        x.rule(0, 54);
        due("p13 a draw of 54 isn't below 54", x.month(), -1);
        x.seed(1);
        x.rule(0, 55);
        due("p13 a draw of 54 is below 55", x.month(), 0);
        due("p13 lost", x.of(0, 4), 2);
        x.rule(0, 100);
        x.set(1, 2, 1);
        due("p13 the cheapest", x.month(), 2);
        x.paper(3, 5);
        due("p13 not one with a paper", x.month(), 1);
        due("p13 none is left", x.month(), 3);
        due("p13 none at all", x.month(), -1);
        for (int i = 7; i < 99; i++) {
            due("p13 month " + i, x.month(), -1);
        }
        due("p13 the last month", x.stands(0), 99);
        due("p13 no month behind it", x.month(), STATE);
        due("p13 it stays", x.stands(0), 99);
        p13Calm();
    }

    private static void p13Calm() {
        AcreBuys x = plain(3, 50);
        x.set(0, 2, 9);
        x.set(1, 2, 5);
        x.set(2, 2, 4);
        x.offer(1, 99999);
        x.month();
        due("p13 calm 9", x.of(0, 2), 9);
        x.rule(1, 4);
        x.month();
        due("p13 9 is above 4", x.of(0, 2), 8);
        due("p13 ours too", x.of(1, 2), 4);
        due("p13 4 isn't above 4", x.of(2, 2), 4);
        x.rule(1, 0);
        x.month();
        due("p13 1 less", x.of(2, 2), 3);
        AcreBuys y = plain(2, 50);
        y.set(0, 2, 1);
        y.set(1, 2, 0);
        y.set(1, 1, 54);
        y.rule(1, 0);
        y.rule(0, 100);
        due("p13 the rival is ahead of calm", y.month(), 1);
        AcreBuys z = plain(2, 50);
        z.paper(0, 0);
        z.rule(0, 100);
        due("p13 papers are past ahead of the rival", z.month(), 0);
    }

    private static void p14Seed() {
        AcreBuys x = new AcreBuys();
        due("p14 first", x.seed(MIN), 1);
        due("p14 any", x.seed(-1000000001), MIN);
        due("p14 no finding", x.status(-1), 0);
        due("p14 is told", x.seed(1), -1000000001);
        x.month();
        due("p14 a draw", x.seed(7), 1103527590);
        x.month();
        due("p14 goes round", x.seed(0), 7 * 1103515245 + 12345);
    }

    private static void p15Stands() {
        AcreBuys x = plain(5, 10);
        x.offer(4, 10);
        x.offer(3, 20);
        x.rule(0, 100);
        x.month();
        due("p15 month", x.stands(0), 1);
        due("p15 spent", x.stands(1), 30);
        due("p15 ours", x.stands(2), 2);
        due("p15 lost", x.stands(3), 1);
        due("p15 free", x.stands(4), 2);
        due("p15 what 5", x.stands(5), BEYOND);
        due("p15 what -1", x.stands(-1), BEYOND);
        due("p15 findings", x.status(0), 2);
    }

    private static void p16Strip() {
        AcreBuys x = plain(3, 10);
        due("p16 first", x.strip(7, 0), 0);
        due("p16 empty", x.strip(0, 9999), 1);
        due("p16 no such field", x.strip(8, 0), BEYOND);
        due("p16 below 0", x.strip(-1, 0), BEYOND);
        due("p16 min", x.strip(MIN, 0), BEYOND);
        due("p16 round 10000", x.strip(1, 10000), BEYOND);
        due("p16 round -1", x.strip(1, -1), BEYOND);
        for (int i = 2; i < 6; i++) {
            due("p16 strip " + i, x.strip(1, 0), i);
        }
        due("p16 full", x.strip(1, 0), FULL);
        due("p16 beyond before full", x.strip(8, 0), BEYOND);
        due("p16 strips", x.count(1), 6);
    }

    private static void p17StripOf() {
        AcreBuys x = plain(4, 10);
        x.strip(7, 12);
        x.strip(8, 0);
        due("p17 set", x.stripOf(0, 0), 7);
        due("p17 round", x.stripOf(0, 1), 12);
        due("p17 not had", x.stripOf(0, 2), 0);
        due("p17 can be", x.stripOf(0, 3), 1);
        due("p17 free", x.stripOf(0, 4), 7);
        x.offer(3, 10);
        due("p17 had", x.stripOf(1, 2), 1);
        x.offer(1, 10);
        x.rule(0, 100);
        x.month();
        due("p17 can't be", x.stripOf(0, 3), 0);
        due("p17 free now", x.stripOf(0, 4), 4);
        due("p17 what 5", x.stripOf(0, 5), BEYOND);
        due("p17 what -1", x.stripOf(0, -1), BEYOND);
        due("p17 strip 2", x.stripOf(2, 0), BEYOND);
        due("p17 strip -1", x.stripOf(-1, 0), BEYOND);
    }

    private static void p18Had() {
        AcreBuys x = plain(3, 10);
        due("p18 no strips", x.had(), 0);
        x.strip(1, 0);
        x.strip(0, 0);
        x.strip(3, 0);
        due("p18 the empty one", x.had(), 2);
        x.offer(0, 10);
        due("p18 two", x.had(), 3);
        x.offer(1, 10);
        due("p18 three", x.had(), 7);
    }

    private static void p19Least() {
        AcreBuys x = plain(3, 100);
        x.set(0, 3, 6);
        x.set(1, 3, 4);
        x.strip(7, 30);
        due("p19 the talkers last", x.least(0), 330);
        x.offer(0, 100);
        due("p19 the rest", x.least(0), 30 + 110 + 110);
        x.offer(2, 110);
        due("p19 one", x.least(0), 30 + 110);
        x.offer(1, 110);
        due("p19 had: only round", x.least(0), 30);
        due("p19 strip 1", x.least(1), BEYOND);
        due("p19 strip -1", x.least(-1), BEYOND);
        AcreBuys y = plain(12, 1);
        y.strip(4095, 0);
        due("p19 twelve", y.least(0), SIZE);
        y.offer(3, 1);
        due("p19 eleven", y.least(0), SIZE);
        y.offer(4, 1);
        due("p19 ten", y.least(0), 10);
        y.rule(0, 100);
        y.month();
        due("p19 can't be", y.least(0), STATE);
        AcreBuys z = plain(12, 1);
        z.strip(4095, 0);
        z.rule(0, 100);
        z.month();
        due("p19 state before size", z.least(0), STATE);
    }

    private static void p20Order() {
        AcreBuys x = plain(4, 100);
        x.strip(13, 30);
        due("p20 all alike: first", x.order(0, 0), 0);
        due("p20 all alike: second", x.order(0, 1), 2);
        due("p20 all alike: third", x.order(0, 2), 3);
        due("p20 no fourth", x.order(0, 3), NONE);
        x.set(0, 3, 4);
        due("p20 0 tells 2: 2 first", x.order(0, 0), 2);
        due("p20 then 0", x.order(0, 1), 0);
        due("p20 then 3", x.order(0, 2), 3);
        x.offer(2, 100);
        due("p20 ours is left out", x.order(0, 1), 3);
        due("p20 no third", x.order(0, 2), NONE);
        due("p20 i 10", x.order(0, 10), BEYOND);
        due("p20 i -1", x.order(0, -1), BEYOND);
        due("p20 strip 1", x.order(1, 0), BEYOND);
        due("p20 strip -1", x.order(-1, 0), BEYOND);
        AcreBuys y = plain(11, 1);
        y.strip(2047, 0);
        due("p20 size", y.order(0, 0), SIZE);
        y.rule(0, 100);
        y.month();
        due("p20 state", y.order(0, 0), STATE);
        AcreBuys z = plain(10, 10);
        for (int f = 0; f < 9; f++) {
            z.set(f, 3, 1 << f + 1);
        }
        z.strip(1023, 0);
        for (int i = 0; i < 10; i++) {
            due("p20 ten, backwards " + i, z.order(0, i), 9 - i);
        }
    }

    private static void p21Best() {
        AcreBuys x = plain(14, 10);
        due("p21 no strips", x.best(), NONE);
        x.strip(2047, 0);
        due("p21 size", x.best(), NONE);
        x.strip(7, 5);
        x.strip(3, 15);
        due("p21 of several the least", x.best(), 1);
        x.strip(16, 24);
        due("p21 the least cost", x.best(), 3);
        x.offer(0, 10);
        x.offer(1, 10);
        due("p21 by what is left", x.best(), 1);
        x.rule(0, 100);
        x.month();
        due("p21 can't be any more", x.best(), 2);
        AcreBuys y = plain(3, 10);
        y.strip(1, 0);
        y.strip(2, 0);
        y.strip(6, 0);
        due("p21 strip 0", y.best(), 0);
    }

    private static void p22Last() {
        AcreBuys x = plain(4, 100);
        x.set(0, 3, 6);
        x.set(1, 3, 5);
        x.set(3, 3, 7);
        x.strip(7, 30);
        due("p22 the dearest", x.last(0, 0), 120);
        due("p22 which", x.last(0, 1), 2);
        x.set(2, 3, 3);
        due("p22 of several the least", x.last(0, 1), 0);
        x.offer(3, 100);
        due("p22 ours beside it tell too", x.last(0, 0), 130);
        x.offer(0, 99999);
        due("p22 not ours", x.last(0, 1), 1);
        due("p22 what 2", x.last(0, 2), BEYOND);
        due("p22 what -1", x.last(0, -1), BEYOND);
        due("p22 strip 1", x.last(1, 0), BEYOND);
        x.offer(1, 99999);
        x.offer(2, 99999);
        due("p22 had", x.last(0, 0), NONE);
        AcreBuys y = plain(2, 1);
        y.strip(3, 0);
        y.rule(0, 100);
        y.month();
        due("p22 can't be", y.last(0, 1), STATE);
    }

    private static void p23GiveUp() {
        AcreBuys x = plain(12, 10);
        due("p23 no strips", x.giveUp(9999999), 1);
        x.strip(4095, 0);
        due("p23 one without a least cost", x.giveUp(9999999), 1);
        x.strip(3, 5);
        due("p23 just enough", x.giveUp(25), 0);
        due("p23 one too little", x.giveUp(24), 1);
        x.strip(16, 4);
        due("p23 any of them", x.giveUp(14), 0);
        x.rule(0, 100);
        for (int i = 0; i < 5; i++) {
            x.month();
        }
        due("p23 none can be", x.giveUp(9999999), 1);
        AcreBuys y = new AcreBuys();
        due("p23 gain 0, no strips", y.giveUp(0), 1);
        y.strip(0, 0);
        due("p23 gain 0 is enough", y.giveUp(0), 0);
        due("p23 gain 10000000", x.giveUp(10000000), BEYOND);
        due("p23 gain -1", x.giveUp(-1), BEYOND);
    }

    private static void p24Rights() {
        AcreBuys x = plain(3, 109);
        x.set(2, 1, 5);
        x.strip(7, 1000);
        due("p24 all", x.rights(0), 1000 + 2 * (10 + 109) + 1 + 5);
        x.set(0, 3, 2);
        x.offer(0, 109);
        due("p24 what is free", x.rights(0), 1000 + 11 + 119 + 1 + 5);
        x.paper(1, 99);
        due("p24 a paper that is there doesn't matter", x.rights(0), 1000 + 11 + 119 + 1 + 5);
        x.offer(1, 9999);
        x.offer(2, 9999);
        due("p24 had", x.rights(0), 1000);
        due("p24 strip 1", x.rights(1), BEYOND);
        due("p24 strip -1", x.rights(-1), BEYOND);
        AcreBuys y = plain(2, 1);
        y.strip(3, 0);
        y.rule(0, 100);
        y.month();
        due("p24 can't be", y.rights(0), STATE);
    }

    private static void p25Share() {
        AcreBuys x = plain(4, 10);
        x.set(1, 1, 20);
        x.set(2, 1, 5);
        x.strip(7, 100);
        due("p25 the part, cut", x.share(0, 100, 1), 20 + 65 * 20 / 35);
        due("p25 just the worths", x.share(0, 35, 2), 5);
        due("p25 less", x.share(0, 34, 2), NONE);
        due("p25 not of the strip", x.share(0, 100, 3), STATE);
        due("p25 state before none", x.share(0, 0, 3), STATE);
        x.offer(0, 10);
        due("p25 not free", x.share(0, 100, 0), STATE);
        due("p25 those that are free", x.share(0, 100, 1), 20 + 75 * 20 / 25);
        due("p25 gain 10000000", x.share(0, 10000000, 1), BEYOND);
        due("p25 gain -1", x.share(0, -1, 1), BEYOND);
        due("p25 field 4", x.share(0, 100, 4), BEYOND);
        due("p25 field -1", x.share(0, 100, -1), BEYOND);
        due("p25 strip 1", x.share(1, 100, 1), BEYOND);
        AcreBuys y = plain(2, 9999);
        y.strip(3, 0);
        due("p25 great", y.share(0, 9999999, 0), 4999999);
        y.rule(0, 100);
        y.month();
        due("p25 though it can't be", y.share(0, 9999999, 1), 9999999);
    }

    private static void p26Common() {
        AcreBuys x = plain(5, 10);
        due("p26 no strips", x.common(), NONE);
        x.strip(15, 0);
        due("p26 one", x.common(), 15);
        x.strip(14, 0);
        x.strip(22, 0);
        due("p26 all three", x.common(), 6);
        x.strip(1, 0);
        due("p26 none shared", x.common(), 0);
        x.rule(0, 100);
        x.month();
        due("p26 those that can be", x.common(), 6);
        x.month();
        due("p26 none can be", x.common(), NONE);
    }

    private static void p27First() {
        AcreBuys x = plain(4, 100);
        x.strip(7, 0);
        due("p27 of several the least", x.first(0), 0);
        x.set(0, 3, 6);
        due("p27 who tells none", x.first(0), 1);
        x.set(2, 1, 200);
        due("p27 the others together: the dear one first", x.first(0), 2);
        x.set(2, 3, 11);
        x.set(2, 2, 0);
        due("p27 though it tells", x.first(0), 2);
        x.set(2, 1, 110);
        due("p27 its telling outweighs", x.first(0), 1);
        x.offer(1, 100);
        due("p27 free ones alone", x.first(0), 2);
        x.offer(0, 99999);
        x.offer(2, 99999);
        due("p27 none is free", x.first(0), NONE);
        due("p27 strip 1", x.first(1), BEYOND);
        due("p27 strip -1", x.first(-1), BEYOND);
        AcreBuys y = plain(2, 1);
        y.strip(3, 0);
        y.rule(0, 100);
        y.month();
        due("p27 though it can't be", y.first(0), 1);
        AcreBuys z = plain(4, 100);
        z.set(0, 1, 150);
        z.set(0, 3, 1 << 1);
        z.set(1, 3, 1 << 2);
        z.set(2, 3, 1 << 1);
        z.strip(15, 0);
        due("p27 together, not the last alone", z.first(0), 0);
    }

    private static void p28Feed() {
        AcreBuys x = new AcreBuys();
        due("p28 n 0", x.feed(1, 0), BEYOND);
        due("p28 n 5", x.feed(1, 5), BEYOND);
        due("p28 n -1", x.feed(1, -1), BEYOND);
        due("p28 four", x.feed('z' << 24 | 'e' << 16 | 'a' << 8 | 'l', 4), 4);
        due("p28 two", x.feed(7 << 16 | ' ' << 8 | '5', 2), 6);
        due("p28 the highest first", x.plan(), 1);
        due("p28 read", x.rule(0, 0), 5);
        for (int i = 1; i < 30; i++) {
            x.feed(0, 4);
        }
        due("p28 118", x.feed(0, 2), 118);
        due("p28 full", x.feed(0, 3), FULL);
        due("p28 the last two", x.feed(-1, 2), 120);
        due("p28 no more", x.feed(0, 1), FULL);
        due("p28 beyond before full", x.feed(0, 5), BEYOND);
    }

    private static void p29Wipe() {
        AcreBuys x = new AcreBuys();
        due("p29 empty", x.wipe(), 0);
        x.feed(0, 3);
        due("p29 three", x.wipe(), 3);
        due("p29 empty then", x.count(3), 0);
        due("p29 anew", Check.planOf(x, "calm 3"), 1);
        due("p29 read", x.rule(1, 0), 3);
    }

    private static void plan(String text, int want) {
        AcreBuys x = plain(2, 10);
        x.strip(1, 1);
        due("p30 '" + text + "'", Check.planOf(x, text), want);
        due("p30 tape of '" + text + "'", x.count(3), 0);
        due("p30 no finding by '" + text + "'", x.status(-1), 0);
        if (want < 0) {
            due("p30 fields of '" + text + "'", x.count(0), 2);
            due("p30 strips of '" + text + "'", x.count(1), 1);
            due("p30 zeal of '" + text + "'", x.rule(0, 0), 0);
        }
    }

    private static void p30Plan() {
        AcreBuys x = plain(1, 10);
        String text = "lord 9999 wary 9 tells 0 13 0;brother1tells2;strip 0 2 round 9999 ; strip 1;zeal 100;calm0;law 999;power 9";
        due("p30 items", Check.planOf(x, text), 8);
        due("p30 lord", x.of(1, 0), 4);
        due("p30 lord's worth", x.of(1, 1), 9999);
        due("p30 lord's wary", x.of(1, 2), 9);
        due("p30 lord tells", x.of(1, 3), 1 | 1 << 13);
        due("p30 brother", x.of(2, 0), 5);
        due("p30 brother's worth", x.of(2, 1), 1);
        due("p30 brother's wary", x.of(2, 2), 0);
        due("p30 brother tells", x.of(2, 3), 4);
        due("p30 strip 0", x.stripOf(0, 0), 5);
        due("p30 round 0", x.stripOf(0, 1), 9999);
        due("p30 strip 1", x.stripOf(1, 0), 2);
        due("p30 round 1", x.stripOf(1, 1), 0);
        due("p30 zeal", x.rule(0, 0), 100);
        due("p30 calm", x.rule(1, 0), 0);
        due("p30 law", x.rule(2, 0), 999);
        due("p30 power", x.rule(3, 0), 9);
        due("p30 kinds", Check.planOf(x, "owner 1;keen 2;stubborn 3;talker 4;lord 5;brother 6"), 6);
        for (int kind = 0; kind < 6; kind++) {
            due("p30 kind " + kind, x.of(3 + kind, 0), kind);
            due("p30 worth of kind " + kind, x.of(3 + kind, 1), 1 + kind);
        }
        plan("  owner  0005  ", 1);
        plan("zeal 0;zeal 100;zeal 1", 3);
    }

    private static void p30Faults() {
        plan("", -1);
        plan("   ", -4);
        plan(";", -1);
        plan("owner", -6);
        plan("owner 5;", -9);
        plan("owner 5 ; ", -11);
        plan("owner 0", -7);
        plan("owner 10000", -7);
        plan("owner 99999999999999999999", -7);
        plan("owner wary", -7);
        plan("Owner 5", -1);
        plan("owners 5", -1);
        plan("own 5", -1);
        plan("owner 5 6", -9);
        plan("owner 5 wary", -13);
        plan("owner 5 wary 10", -14);
        plan("owner 5 wary 9", 1);
        plan("owner 5 wary 0", 1);
        plan("strip 0 round 0", 1);
        plan("owner 5 tells", -14);
        plan("owner 5 tells;", -14);
        plan("owner 5 tells 14", -15);
        plan("owner 5 tells 0 14", -17);
        plan("owner 5 tells 0 wary 3", -17);
        plan("owner 5 wary 3 wary 3", -16);
        plan("owner 5 round 3", -9);
        plan("owner 5,", -8);
        plan("owner 5\n", -8);
        plan("owner 5;;", -9);
        plan("owner 5 strip 0", -9);
        plan("owner 5 zeal", -9);
        plan("strip", -6);
        plan("strip round 5", -7);
        plan("strip 2", -7);
        plan("strip 0 2", -9);
        plan("owner 5;strip 0 2", 2);
        plan("strip 2;owner 5", -7);
        plan("strip 0 round", -14);
        plan("strip 0 round 10000", -15);
        plan("strip 0 round 9999", 1);
        plan("strip 0 round 1 2", -17);
        plan("zeal 101", -6);
        plan("calm 10", -6);
        plan("law 1000", -5);
        plan("power 10", -7);
        plan("zeal", -5);
        plan("zeal zeal", -6);
        plan("5", -1);
        plan("zeal 50; strip 1 round 7; owner 5; keen x", -41);
        plan("wary 5", -1);
        AcreBuys x = plain(13, 1);
        due("p30 a 15th field", Check.planOf(x, "owner 5;owner 0"), -9);
        due("p30 no 14th then", x.count(0), 13);
        due("p30 a 14th field", Check.planOf(x, "owner 5"), 1);
        for (int i = 0; i < 5; i++) {
            x.strip(0, 0);
        }
        due("p30 a 7th strip", Check.planOf(x, "strip 0;strip 99"), -9);
        due("p30 no 6th then", x.count(1), 5);
        x.wipe();
        for (int i = 0; i < 120; i++) {
            x.feed(i < 119 ? '1' : 'x', 1);
        }
        due("p30 a full tape", x.plan(), -1);
    }

    private static void p31Sheet() {
        AcreBuys x = new AcreBuys();
        due("p31 8", x.sheet(0, 8, 40), 40);
        due("p31 16", x.sheet(3, 16, 1), 1);
        due("p31 64, empty", x.sheet(1, 64, 0), 0);
        due("p31 empty isn't missing", x.read(1), 0);
        x.write(0, 39, 5);
        due("p31 anew", x.sheet(0, 8, 40), 40);
        due("p31 all 0", x.write(0, 39, 1), 0);
        due("p31 bits 0", x.sheet(0, 0, 7), 0);
        due("p31 missing", x.write(0, 0, 1), MISSING);
        due("p31 sheet 4", x.sheet(4, 8, 1), BEYOND);
        due("p31 sheet -1", x.sheet(-1, 8, 1), BEYOND);
        due("p31 bits 32", x.sheet(0, 32, 1), BEYOND);
        due("p31 bits -8", x.sheet(0, -8, -1), BEYOND);
        due("p31 n -1", x.sheet(0, 8, -1), SIZE);
        due("p31 n min, bits 0", x.sheet(0, 0, MIN), SIZE);
        due("p31 n 41", x.sheet(0, 8, 41), BEYOND);
        due("p31 n max, bits 0", x.sheet(3, 0, MAX), BEYOND);
        due("p31 still there", x.write(3, 0, 0), 0);
    }

    private static void p32Write() {
        AcreBuys x = new AcreBuys();
        x.sheet(0, 8, 2);
        x.sheet(1, 16, 2);
        x.sheet(2, 64, 2);
        due("p32 was 0", x.write(0, 1, 100), 0);
        due("p32 was 100", x.write(0, 1, 256 + 7), 100);
        due("p32 8 lowest bits", x.write(0, 1, -1), 7);
        due("p32 8 bits, with a sign", x.write(0, 1, 0), -1);
        x.write(1, 0, 65536L * 3 + 1000);
        due("p32 16 lowest bits", x.write(1, 0, 65535), 1000);
        due("p32 16 bits, with a sign", x.write(1, 0, 0), -1);
        x.write(2, 0, Long.MIN_VALUE);
        due("p32 all 64 bits", x.write(2, 0, 1L << 40), Long.MIN_VALUE);
        due("p32 all 64 bits again", x.write(2, 0, 0), 1L << 40);
        due("p32 others stay", x.write(2, 1, 0), 0);
        due("p32 i 2", x.write(0, 2, 0), BEYOND);
        due("p32 i -1", x.write(0, -1, 0), BEYOND);
        due("p32 missing", x.write(3, -1, 0), MISSING);
        due("p32 sheet 4", x.write(4, 0, 0), BEYOND);
        due("p32 sheet -1", x.write(-1, 0, 0), BEYOND);
    }

    private static void p33Copy() {
        AcreBuys x = new AcreBuys();
        x.sheet(0, 8, 5);
        x.sheet(1, 8, 3);
        x.sheet(2, 16, 5);
        for (int i = 0; i < 5; i++) {
            x.write(0, i, i + 1);
        }
        due("p33 two", x.copy(0, 3, 1, 1, 2), 2);
        due("p33 first", x.write(1, 1, 0), 4);
        due("p33 second", x.write(1, 2, 0), 5);
        due("p33 untouched", x.write(1, 0, 0), 0);
        due("p33 over itself", x.copy(0, 0, 0, 1, 4), 4);
        due("p33 as they were", x.write(0, 4, 0), 4);
        due("p33 as they were, too", x.write(0, 1, 0), 1);
        due("p33 none, at the end", x.copy(0, 5, 1, 3, 0), 0);
        due("p33 from too far", x.copy(0, 6, 1, 3, 0), BEYOND);
        due("p33 the source hasn't so many", x.copy(0, 4, 1, 0, 2), BEYOND);
        due("p33 the target hasn't so many", x.copy(0, 0, 1, 2, 2), BEYOND);
        due("p33 from -1", x.copy(0, -1, 1, 0, 1), BEYOND);
        due("p33 to -1", x.copy(0, 0, 1, -1, 1), BEYOND);
        due("p33 n -1", x.copy(0, 0, 1, 0, -1), BEYOND);
        due("p33 n max", x.copy(0, 1, 1, 1, MAX), BEYOND);
        due("p33 from max", x.copy(0, MAX, 1, MAX, MAX), BEYOND);
        due("p33 n min", x.copy(0, 0, 1, 0, MIN), BEYOND);
        due("p33 other bits", x.copy(0, -1, 2, 0, 1), KIND);
        due("p33 missing target", x.copy(0, 0, 3, 0, 1), MISSING);
        due("p33 missing source", x.copy(3, 0, 0, 0, 1), MISSING);
        due("p33 sheet 4", x.copy(3, 0, 4, 0, 1), BEYOND);
        due("p33 sheet -1", x.copy(-1, 0, 3, 0, 1), BEYOND);
    }

    private static void p34Cost() {
        AcreBuys x = plain(4, 100);
        x.set(0, 3, 6);
        x.set(3, 3, 7);
        x.sheet(0, 8, 3);
        x.write(0, 0, 0);
        x.write(0, 1, 1);
        x.write(0, 2, 2);
        due("p34 those ahead tell", x.cost(0), 320);
        x.write(0, 0, 2);
        x.write(0, 2, 0);
        due("p34 another order", x.cost(0), 300);
        x.offer(3, 100);
        due("p34 ours tell", x.cost(0), 330);
        x.write(0, 1, 3);
        due("p34 ours in the row", x.cost(0), 320);
        x.write(0, 1, 0);
        due("p34 told twice", x.cost(0), KIND);
        x.write(0, 1, 4);
        due("p34 no field", x.cost(0), KIND);
        x.write(0, 1, -1);
        due("p34 below 0", x.cost(0), KIND);
        x.sheet(1, 64, 1);
        x.write(1, 0, 1L << 32);
        due("p34 far beyond", x.cost(1), KIND);
        x.sheet(1, 64, 0);
        due("p34 an empty row", x.cost(1), 0);
        due("p34 missing", x.cost(2), MISSING);
        due("p34 sheet 4", x.cost(4), BEYOND);
        due("p34 sheet -1", x.cost(-1), BEYOND);
    }

    private static void p35Offers() {
        AcreBuys x = plain(4, 100);
        x.set(0, 3, 2);
        x.sheet(0, 64, 11);
        long[] row = {0, 100, 1, 109, 1, 120, 7, 100, 2, 100000, 3};
        for (int i = 0; i < row.length; i++) {
            x.write(0, i, row[i]);
        }
        due("p35 two", x.offers(0), 2);
        due("p35 ours", x.stands(2), 2);
        due("p35 spent", x.stands(1), 220);
        due("p35 a refusal makes wary", x.of(1, 2), 1);
        due("p35 no price", x.of(2, 2), 0);
        due("p35 not whole", x.of(3, 2), 0);
        due("p35 again: none", x.offers(0), 0);
        due("p35 no finding", x.status(-1), 0);
        x.write(0, 8, 1L << 32 | 2);
        x.write(0, 9, 100);
        due("p35 no field", x.offers(0), 0);
        x.write(0, 8, 2);
        x.write(0, 9, 1L << 32 | 100);
        due("p35 a price far beyond", x.offers(0), 0);
        x.write(0, 9, -1);
        due("p35 a price below 0", x.offers(0), 0);
        due("p35 no refusal", x.of(2, 2), 0);
        x.write(0, 9, 99999);
        due("p35 the greatest price", x.offers(0), 1);
        x.sheet(1, 8, 4);
        x.write(1, 0, 3);
        x.write(1, 2, 3);
        x.write(1, 3, 120);
        due("p35 the last pair", x.offers(1), 1);
        due("p35 a price of 0 makes wary", x.of(3, 2), 1);
        due("p35 missing", x.offers(2), MISSING);
        due("p35 sheet 4", x.offers(4), BEYOND);
        due("p35 sheet -1", x.offers(-1), BEYOND);
    }

    private static void p36Read() {
        AcreBuys x = plain(3, 100);
        x.sheet(0, 16, 3);
        for (int i = 0; i < 3; i++) {
            x.write(0, i, 100);
        }
        due("p36 all right", x.read(0), 0);
        x.set(1, 2, 1);
        due("p36 the second is wrong", x.read(0), 2);
        x.write(0, 1, 110);
        x.write(0, 2, 0);
        due("p36 the third is wrong", x.read(0), 3);
        x.sheet(1, 16, 4);
        x.copy(0, 0, 1, 0, 2);
        x.write(1, 2, 100);
        due("p36 the fourth stands for no field", x.read(1), 4);
        x.sheet(2, 64, 1);
        x.write(2, 0, 100);
        due("p36 as many as there are", x.read(2), 0);
        x.write(2, 0, 1L << 32 | 100);
        due("p36 far beyond", x.read(2), 1);
        x.sheet(2, 64, 0);
        due("p36 none", x.read(2), 0);
        due("p36 missing", x.read(3), MISSING);
        due("p36 sheet 4", x.read(4), BEYOND);
        due("p36 sheet -1", x.read(-1), BEYOND);
    }

    private static AcreBuys rich() {
        AcreBuys x = plain(5, 100);
        x.strip(3, 7);
        x.set(0, 2, 2);
        x.set(0, 3, 30);
        x.offer(1, 100);
        x.paper(2, 9);
        x.rule(0, 100);
        x.rule(1, 8);
        x.rule(2, 200);
        x.rule(3, 4);
        x.month();
        return x;
    }

    /** All that sections 1 and 2 tell, as one number. */
    private static long sum(AcreBuys x) {
        long h = 0;
        for (int f = 0; f < 14; f++) {
            for (int what = 0; what < 8; what++) {
                h = h * 31 + x.of(f, what);
            }
            h = h * 31 + x.paperOf(f, 0);
            h = h * 31 + x.paperOf(f, 1);
        }
        for (int strip = 0; strip < 6; strip++) {
            for (int what = 0; what < 5; what++) {
                h = h * 31 + x.stripOf(strip, what);
            }
        }
        int[] some = {0, 0, 0, 0};
        for (int what = 0; what < 4; what++) {
            some[what] = x.rule(what, 0);
            x.rule(what, some[what]);
            h = h * 31 + some[what];
        }
        for (int what = 0; what < 5; what++) {
            h = h * 31 + x.stands(what);
        }
        return h * 31 + x.count(4);
    }

    private static void spoil(AcreBuys x) {
        x.field(3, 5);
        x.strip(1, 1);
        x.set(0, 1, 1);
        x.set(0, 2, 9);
        x.set(0, 3, 0);
        x.offer(0, 9999);
        x.claim(2);
        x.paper(5, 50);
        x.rule(0, 99);
        x.rule(1, 1);
        x.rule(2, 1);
        x.rule(3, 1);
        x.month();
        x.seed(99);
    }

    private static void p37Image() {
        AcreBuys x = rich();
        long was = sum(x);
        due("p37 image", x.image(), 1);
        due("p37 nothing changes", sum(x), was);
        spoil(x);
        due("p37 undo", x.undo(), 5);
        due("p37 all is as it was", sum(x), was);
        x.set(0, 1, 77);
        due("p37 a later one", x.image(), 1);
        x.set(0, 1, 78);
        x.undo();
        due("p37 the latest", x.of(0, 1), 77);
    }

    private static void p38Undo() {
        AcreBuys x = rich();
        due("p38 none", x.undo(), NONE);
        x.image();
        x.sheet(0, 8, 2);
        x.write(0, 1, 9);
        x.feed(0, 3);
        x.field(0, 1);
        int findings = x.status(-1);
        due("p38 fields", x.undo(), 5);
        due("p38 the tape stays", x.count(3), 3);
        due("p38 sheets stay", x.write(0, 1, 9), 9);
        due("p38 findings stay", x.status(-1), findings);
        x.set(0, 1, 3);
        due("p38 it stays kept", x.undo(), 5);
        due("p38 again", x.of(0, 1), 100);
        p38Papers();
        AcreBuys y = new AcreBuys();
        y.image();
        y.field(0, 1);
        y.set(0, 2, 9);
        y.set(0, 3, 9);
        due("p38 to nothing", y.undo(), 0);
        due("p38 no field", y.of(0, 0), BEYOND);
        due("p38 a new one", y.field(2, 3), 0);
        due("p38 not wary", y.of(0, 2), 0);
        due("p38 tells none", y.of(0, 3), 0);
    }

    private static void p38Papers() {
        AcreBuys x = plain(1, 100);
        x.paper(0, 0);
        x.image();
        x.month();
        x.set(0, 2, 9);
        x.paper(0, 50);
        due("p38 another paper", x.paperOf(0, 0), 190);
        x.undo();
        due("p38 the price of then", x.paperOf(0, 0), 100);
        due("p38 the month of then", x.paperOf(0, 1), 0);
    }

    private static void p39Tear() {
        AcreBuys x = rich();
        due("p39 nothing", x.tear(), 0);
        x.image();
        x.image();
        due("p39 something", x.tear(), 1);
        due("p39 nothing then", x.tear(), 0);
        due("p39 no undo", x.undo(), NONE);
        due("p39 fields stay", x.count(0), 5);
    }

    private static void p40Count() {
        AcreBuys x = rich();
        due("p40 fields", x.count(0), 5);
        due("p40 strips", x.count(1), 1);
        due("p40 papers", x.count(2), 1);
        x.feed(0, 4);
        due("p40 bytes", x.count(3), 4);
        x.seed(-1000000003);
        due("p40 z", x.count(4), -1000000003);
        due("p40 z is no finding", x.status(-1), 0);
        x.set(3, 2, 5);
        x.set(1, 2, 1);
        due("p40 all wary", x.count(5), 8);
        due("p40 power", x.count(6), 4);
        due("p40 what 7", x.count(7), BEYOND);
        due("p40 what -1", x.count(-1), BEYOND);
        due("p40 findings", x.status(0), 2);
    }

    private static void p41Status() {
        AcreBuys x = plain(14, 1);
        x.of(14, 0);
        x.stands(9);
        x.field(0, 1);
        x.as(0, 1);
        x.best();
        x.common();
        x.offer(0, 1);
        x.offer(0, 1);
        x.read(0);
        x.sheet(0, 8, -1);
        x.write(1, 0, 1);
        x.cost(4);
        int[] want = {3, 1, 1, 2, 1, 2, 1};
        for (int which = 0; which < 7; which++) {
            due("p41 status " + which, x.status(which), want[which]);
        }
        due("p41 all", x.status(-1), 11);
        due("p41 status 7", x.status(7), BEYOND);
        due("p41 it counts", x.status(0), 4);
        due("p41 status -2", x.status(-2), BEYOND);
        due("p41 status min", x.status(MIN), BEYOND);
        due("p41 all of them", x.status(-1), 14);
        x.image();
        x.of(14, 0);
        x.undo();
        due("p41 undo takes none back", x.status(-1), 15);
        Check.planOf(x, "x");
        due("p41 a plan's fault is none", x.status(-1), 15);
    }
}
