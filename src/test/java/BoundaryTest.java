import java.util.function.Supplier;

/**
 * Boundary by boundary, in the order of the document: first the terms (sections 1 to 4), then the promises.
 * The last value that may be and the first that may not at both ends, nothing there and all places taken,
 * numbers that go round. What a refused call leaves alone is in RefusalTest.
 */
public final class BoundaryTest {
    private static final int BEYOND = Check.BEYOND;
    private static final int FULL = Check.FULL;
    private static final int KIND = Check.KIND;
    private static final int NONE = Check.NONE;
    private static final int STATE = Check.STATE;
    private static final int MISSING = Check.MISSING;
    private static final int SIZE = Check.SIZE;
    private static final int MIN = Integer.MIN_VALUE;
    private static final int MAX = Integer.MAX_VALUE;
    private static final int OWNER = 0;
    private static final int KEEN = 1;
    private static final int STUBBORN = 2;
    private static final int TALKER = 3;
    private static final int LORD = 4;
    private static final int BROTHER = 5;

    private static void due(String what, long got, long want) {
        Check.due(what, got, want);
    }

    private static AcreBuys owners(int... worths) {
        AcreBuys x = new AcreBuys();
        for (int worth : worths) {
            x.field(OWNER, worth);
        }
        return x;
    }

    private static AcreBuys many(int fields, int worth) {
        AcreBuys x = new AcreBuys();
        for (int f = 0; f < fields; f++) {
            x.field(OWNER, worth);
        }
        return x;
    }

    /** All of WORTH are LOST, the cheapest ones first. */
    private static void lose(AcreBuys x, int months) {
        int was = x.rule(0, 100);
        for (int i = 0; i < months; i++) {
            x.month();
        }
        x.rule(0, was);
    }

    /** What FIELD 0 of a kind asks by a WARY, told by so many of OURS. */
    private static int asks(int kind, int worth, int wary, int heard) {
        AcreBuys x = new AcreBuys();
        x.field(kind, worth);
        x.set(0, 2, wary);
        for (int f = 1; f <= heard; f++) {
            x.field(OWNER, 1);
            x.set(f, 3, 1);
        }
        return x.asks(0, 16383);
    }

    public static void main(String[] args) {
        termsHeardAndWare();
        termsAsksByWare();
        termsAsksCut();
        termsAsksByHeard();
        termsOffer();
        termsPaper();
        termsMonthPapers();
        termsDraw();
        termsRival();
        termsCalm();
        termsCounty();
        termsStrips();
        termsTapeTokens();
        termsWords();
        termsNumbers();
        termsPlanFields();
        termsPlanTells();
        termsPlanStrips();
        termsPlanRules();
        termsPlanEnds();
        termsPlanFull();
        termsPlanUndone();
        termsCost();
        termsLeast();
        termsOrderTies();
        termsLast();
        termsGiveUp();
        termsRights();
        termsAsOne();
        termsSheets();
        p1NewObject();
        p2Field();
        p3Of();
        p4Set();
        p5As();
        p6Asks();
        p7Rule();
        p8Offer();
        p9Paper();
        p10PaperOf();
        p11Claim();
        p12County();
        p13Month();
        p14Seed();
        p15Stands();
        p16Strip();
        p17StripOf();
        p18Had();
        p19Least();
        p20Order();
        p21Best();
        p22Last();
        p23GiveUp();
        p24Rights();
        p25Share();
        p26Common();
        p27First();
        p28Feed();
        p29Wipe();
        p30Plan();
        p31Sheet();
        p32Write();
        p33Copy();
        p34Cost();
        p35Offers();
        p36Read();
        p37Image();
        p38Undo();
        p39Tear();
        p40Count();
        p41Status();
        lastOf512Calls();
        Check.end();
    }

    // ---- section 1

    private static void termsHeardAndWare() {
        AcreBuys x = many(14, 100);
        for (int f = 0; f < 14; f++) {
            x.set(f, 3, 1);
        }
        due("heard by none", x.of(0, 6), 0);
        for (int f = 1; f < 14; f++) {
            x.offer(f, 99999);
            due("heard by " + f, x.of(0, 6), f);
            due("ware, 9 at most, by " + f, x.of(0, 7), Math.min(9, f));
        }
        x.offer(0, 99999);
        due("itself isn't heard", x.of(0, 6), 13);
        for (int wary = 0; wary <= 9; wary++) {
            AcreBuys y = many(3, 100);
            y.set(0, 2, wary);
            y.set(1, 3, 1);
            y.set(2, 3, 1);
            due("ware by wary " + wary, y.of(0, 7), wary);
            y.offer(1, 100);
            due("ware by one more than " + wary, y.of(0, 7), Math.min(9, wary + 1));
            y.offer(2, 100);
            due("ware by two more than " + wary, y.of(0, 7), Math.min(9, wary + 2));
            due("wary stays " + wary, y.of(0, 2), wary);
        }
        AcreBuys z = many(3, 100);
        z.set(1, 3, 1);
        z.set(2, 3, 1);
        z.offer(1, 100);
        lose(z, 1);
        due("the cheapest is lost", z.of(2, 4), 2);
        due("who is lost isn't heard", z.of(0, 6), 1);
    }

    private static void termsAsksByWare() {
        int[] owner = {100, 110, 120, 130, 140, 150, 160, 170, 180, 190};
        int[] keen = {100, 105, 110, 115, 120, 125, 130, 135, 140, 145};
        int[] stubborn = {100, 110, 120, 130, 140, 250, 260, 270, 280, 290};
        int[] lord = {150, 165, 180, 195, 210, 375, 390, 405, 420, 435};
        int[] brother = {100, 120, 140, 160, 180, 190, 190, 190, 190, 190};
        for (int wary = 0; wary <= 9; wary++) {
            due("owner by " + wary, asks(OWNER, 100, wary, 0), owner[wary]);
            due("keen by " + wary, asks(KEEN, 100, wary, 0), keen[wary]);
            due("stubborn by " + wary, asks(STUBBORN, 100, wary, 0), stubborn[wary]);
            due("talker by " + wary, asks(TALKER, 100, wary, 0), owner[wary]);
            due("lord by " + wary, asks(LORD, 100, wary, 0), lord[wary]);
            due("brother by " + wary, asks(BROTHER, 100, wary, 0), brother[wary]);
        }
    }

    private static void termsAsksCut() {
        due("owner of 1 by 9", asks(OWNER, 1, 9, 0), 1);
        due("owner of 2 by 4", asks(OWNER, 2, 4, 0), 2);
        due("owner of 2 by 5", asks(OWNER, 2, 5, 0), 3);
        due("owner of 9999 by 9", asks(OWNER, 9999, 9, 0), 9999 + 8999);
        due("keen, 1 above: all of it stays", asks(KEEN, 10, 1, 0), 11);
        due("keen, 2 above", asks(KEEN, 10, 2, 0), 11);
        due("keen, 3 above", asks(KEEN, 10, 3, 0), 12);
        due("keen of 1 by 9", asks(KEEN, 1, 9, 0), 1);
        due("keen of 9999 by 9", asks(KEEN, 9999, 9, 0), 18998 - 4499);
        due("stubborn of 1 by 4", asks(STUBBORN, 1, 4, 0), 1);
        due("stubborn of 1 by 5", asks(STUBBORN, 1, 5, 0), 2);
        due("stubborn of 9999 by 9", asks(STUBBORN, 9999, 9, 0), 18998 + 9999);
        due("lord of 1", asks(LORD, 1, 0, 0), 1);
        due("lord of 1 by 4", asks(LORD, 1, 4, 0), 1);
        due("lord of 1 by 5", asks(LORD, 1, 5, 0), 3);
        due("lord of 3", asks(LORD, 3, 0, 0), 4);
        due("lord of 9999 by 9", asks(LORD, 9999, 9, 0), 28997 + 14498);
        due("brother of 1 by 9", asks(BROTHER, 1, 9, 0), 1);
        due("brother of 9999 by 4", asks(BROTHER, 9999, 4, 0), 9999 + 7999);
        due("brother of 9999 by 5", asks(BROTHER, 9999, 5, 0), 18998);
        due("talker of 1 by 9", asks(TALKER, 1, 9, 0), 1);
    }

    private static void termsAsksByHeard() {
        for (int heard = 0; heard <= 13; heard++) {
            int ware = Math.min(9, heard);
            int twice = Math.min(9, 2 * heard);
            due("owner told by " + heard, asks(OWNER, 10, 0, heard), 10 + ware);
            due("keen told by " + heard, asks(KEEN, 10, 0, heard), 10 + ware - ware / 2);
            due("stubborn told by " + heard, asks(STUBBORN, 10, 0, heard), 10 + ware + (heard >= 5 ? 10 : 0));
            due("talker told by " + heard, asks(TALKER, 10, 0, heard), 10 + ware + 5 * heard);
            due("brother told by " + heard, asks(BROTHER, 10, 0, heard), 10 + twice + 5 * heard);
        }
        due("stubborn by 3 and 1", asks(STUBBORN, 10, 3, 1), 14);
        due("stubborn by 3 and 2", asks(STUBBORN, 10, 3, 2), 25);
        due("lord by 4 and 0", asks(LORD, 10, 4, 0), 21);
        due("lord by 4 and 1", asks(LORD, 10, 4, 1), 37);
        due("talker by 9 and 1", asks(TALKER, 10, 9, 1), 19 + 5);
        due("brother by 4 and 0", asks(BROTHER, 10, 4, 0), 18);
        due("brother by 3 and 1", asks(BROTHER, 10, 3, 1), 18 + 5);
        due("brother by 3 and 2", asks(BROTHER, 10, 3, 2), 19 + 10);
        due("brother by 9 and 13", asks(BROTHER, 10, 9, 13), 19 + 65);
    }

    private static void termsOffer() {
        Supplier<AcreBuys> two = () -> owners(100, 50);
        World.changes(two, "one too little", x -> x.offer(0, 99), 0,
            "of(0, 2)=1", "of(0, 5)=110", "of(0, 7)=1", "count(5)=1");
        World.changes(two, "0", x -> x.offer(0, 0), 0, "of(0, 2)=1", "of(0, 5)=110", "of(0, 7)=1", "count(5)=1");
        World.changes(two, "just what it asks", x -> x.offer(0, 100), 1,
            "of(0, 4)=1", "stands(1)=100", "stands(2)=1", "stands(4)=1");
        World.changes(two, "one more", x -> x.offer(0, 101), 1,
            "of(0, 4)=1", "stands(1)=101", "stands(2)=1", "stands(4)=1");
        World.changes(two, "the greatest", x -> x.offer(1, 99999), 1,
            "of(1, 4)=1", "stands(1)=99999", "stands(2)=1", "stands(4)=1");
        AcreBuys x = owners(100);
        for (int i = 1; i <= 12; i++) {
            due("too little again", x.offer(0, 99), 0);
            due("wary by " + i, x.of(0, 2), Math.min(9, i));
        }
        due("by 9 one too little", x.offer(0, 189), 0);
        due("by 9", x.offer(0, 190), 1);
        due("spent is only what was paid", x.stands(1), 190);
        AcreBuys y = owners(10, 10);
        y.set(0, 3, 2);
        y.offer(0, 10);
        due("by what it asks now", y.offer(1, 10), 0);
        due("wary and told", y.offer(1, 11), 0);
        due("wary, wary and told", y.offer(1, 13), 1);
        AcreBuys z = owners(10, 20);
        z.paper(0, 9);
        z.paper(1, 9);
        due("refused, with a paper", z.offer(0, 9), 0);
        due("the paper stays", z.paperOf(0, 0), 10);
        due("bought, with a paper", z.offer(0, 11), 1);
        due("the paper is no more", z.paperOf(0, 0), NONE);
        due("the other one stays", z.paperOf(1, 0), 20);
    }

    private static void termsPaper() {
        int[] worths = {1, 9, 10, 19, 20, 99, 100, 109, 110, 9999};
        int[] costs = {1, 1, 1, 1, 2, 9, 10, 10, 11, 999};
        for (int i = 0; i < worths.length; i++) {
            AcreBuys x = owners(worths[i]);
            due("a paper for " + worths[i], x.paper(0, 0), costs[i]);
            due("what was paid for " + worths[i], x.stands(1), costs[i]);
            due("its price " + worths[i], x.paperOf(0, 0), worths[i]);
        }
        AcreBuys lord = new AcreBuys();
        lord.field(LORD, 9999);
        lord.set(0, 2, 9);
        due("the dearest paper", lord.paper(0, 99), 4349);
        due("the dearest claim", lord.claim(0), 43495);
        due("both are spent", lord.stands(1), 4349 + 43495);
        AcreBuys x = many(8, 50);
        for (int f = 0; f < 6; f++) {
            due("paper " + f, x.paper(f, 9), 5);
        }
        due("six", x.count(2), 6);
        due("a seventh", x.paper(6, 9), FULL);
        x.claim(0);
        due("five", x.count(2), 5);
        due("a sixth again", x.paper(6, 9), 5);
        due("a seventh again", x.paper(7, 9), FULL);
        x.offer(1, 50);
        due("a sixth after an offer", x.paper(7, 9), 5);
    }

    private static void termsMonthPapers() {
        AcreBuys x = many(6, 50);
        for (int f = 0; f < 6; f++) {
            x.paper(f, f);
        }
        for (int month = 0; month < 6; month++) {
            due("as long as the month isn't greater, " + month, x.count(2), 6 - month);
            due("its last month " + month, x.paperOf(month, 1), month);
            due("the one before " + month, month == 0 ? NONE : x.claim(month - 1), NONE);
            x.month();
        }
        due("none is left", x.count(2), 0);
        due("none was bought", x.stands(2), 0);
        AcreBuys y = owners(50);
        y.paper(0, 1);
        y.month();
        due("in its last month", y.claim(0), 50);
        AcreBuys z = owners(50);
        z.paper(0, 0);
        z.month();
        due("past: a new one may be", z.paper(0, 1), 5);
        due("paid twice", z.stands(1), 10);
    }

    /** A z whose draw has this rest by 100, and whose own sign is as told. */
    private static int seedFor(int rest, boolean negative) {
        for (long z = 0; z < 1000000; z++) {
            long next = z * 1103515245L + 12345L & 0xffffffffL;
            if (next / 256 % 100 == rest && next > 0x7fffffffL == negative) {
                return (int) z;
            }
        }
        return -1;
    }

    private static void termsDraw() {
        for (int rest = 0; rest < 100; rest++) {
            for (int sign = 0; sign < 2; sign++) {
                int seed = seedFor(rest, sign == 1);
                AcreBuys x = owners(5);
                x.rule(0, rest);
                x.seed(seed);
                due("a rest that is zeal " + rest, x.month(), -1);
                AcreBuys y = owners(5);
                y.rule(0, rest + 1);
                y.seed(seed);
                due("a rest below zeal " + rest, y.month(), 0);
                due("z", y.count(4), (int) (seed * 1103515245L + 12345L));
                due("z's sign", y.count(4) < 0 ? 1 : 0, sign);
            }
        }
        AcreBuys x = new AcreBuys();
        long z = 1;
        for (int i = 0; i < 99; i++) {
            x.month();
            z = z * 1103515245L + 12345L & 0xffffffffL;
            due("z goes round " + i, x.count(4), (int) z);
        }
        for (int seed : new int[] {0, -1, MIN, MAX, -1000000001}) {
            AcreBuys y = new AcreBuys();
            y.seed(seed);
            y.month();
            due("z of " + seed, y.count(4), (int) (seed * 1103515245L + 12345L));
        }
    }

    private static void termsRival() {
        AcreBuys x = owners(30, 20, 20, 40);
        x.rule(0, 100);
        due("of several the least", x.month(), 1);
        due("then the other", x.month(), 2);
        due("then the next", x.month(), 0);
        due("the last", x.month(), 3);
        int z = x.count(4);
        due("none is free", x.month(), -1);
        due("but z is drawn", x.count(4), z * 1103515245 + 12345);
        due("nothing was paid", x.stands(1), 0);
        AcreBuys y = owners(10, 11, 12);
        y.paper(0, 2);
        y.offer(1, 11);
        y.rule(0, 100);
        due("no paper, and free", y.month(), 2);
        due("all have one", y.month(), -1);
        due("past, it is lost", y.month(), 0);
        due("ours stays", y.of(1, 4), 1);
        AcreBuys told = owners(100, 101, 50);
        told.set(2, 3, 1);
        told.offer(2, 50);
        told.rule(0, 100);
        due("by what it asks, not by worth", told.month(), 1);
        AcreBuys calm = owners(100, 101);
        calm.set(0, 2, 1);
        calm.rule(0, 100);
        calm.rule(1, 0);
        due("the rival is ahead of calm", calm.month(), 1);
        due("calm in the same month", calm.of(0, 2), 0);
        AcreBuys never = many(3, 5);
        for (int i = 0; i < 99; i++) {
            due("zeal 0", never.month(), -1);
        }
    }

    private static void termsCalm() {
        for (int calm = 0; calm <= 9; calm++) {
            for (int wary = 0; wary <= 9; wary++) {
                AcreBuys x = owners(5);
                x.set(0, 2, wary);
                x.rule(1, calm);
                x.month();
                due("wary " + wary + " by calm " + calm, x.of(0, 2), wary > calm ? wary - 1 : wary);
            }
        }
        AcreBuys x = owners(5, 6, 7);
        for (int f = 0; f < 3; f++) {
            x.set(f, 2, 9);
        }
        x.rule(1, 0);
        x.offer(2, 99999);
        lose(x, 1);
        for (int f = 0; f < 3; f++) {
            due("free, ours or lost: " + f, x.of(f, 2), 8);
        }
    }

    private static void termsCounty() {
        AcreBuys x = owners(1, 66, 67, 9999, 100, 100);
        x.rule(3, 9);
        due("1 by 150, cut", x.county(0), 1);
        due("66 by 150", x.county(1), 99);
        due("67 by 150, cut", x.county(2), 100);
        x.rule(2, 999);
        due("the dearest", x.county(3), 99890);
        due("spent", x.stands(1), 1 + 99 + 100 + 99890);
        due("power is less by each", x.count(6), 5);
        x.rule(2, 0);
        due("for nothing", x.county(4), 0);
        x.rule(3, 1);
        x.rule(2, 1);
        x.set(5, 2, 9);
        x.paper(5, 7);
        due("by worth, wary or not", x.county(5), 1);
        due("no paper", x.count(2), 0);
        due("ours", x.of(5, 4), 1);
        due("wary stays", x.of(5, 2), 9);
        due("power is 0", x.count(6), 0);
        AcreBuys y = many(10, 100);
        y.rule(3, 9);
        for (int f = 0; f < 9; f++) {
            due("as often as power lasts", y.county(f), 150);
        }
        due("it doesn't last", y.county(9), NONE);
    }

    // ---- section 2

    private static void termsStrips() {
        AcreBuys x = owners(10, 20, 30);
        x.strip(0, 0);
        x.strip(1, 0);
        x.strip(7, 9999);
        due("none of its fields isn't ours", x.stripOf(0, 2), 1);
        due("it can be", x.stripOf(0, 3), 1);
        due("one isn't ours", x.stripOf(1, 2), 0);
        lose(x, 1);
        due("one is lost", x.stripOf(1, 3), 0);
        due("one of three is lost", x.stripOf(2, 3), 0);
        due("two are free", x.stripOf(2, 4), 6);
        due("none of it is lost", x.stripOf(0, 3), 1);
        x.offer(1, 20);
        x.offer(2, 30);
        due("the others are ours: not had", x.stripOf(2, 2), 0);
        due("nor can it be", x.stripOf(2, 3), 0);
        due("none is free", x.stripOf(2, 4), 0);
    }

    /** A text on an object of two OWNERS and one STRIP: what plan answers, and what a FAULT leaves alone. */
    private static void text(String text, int want) {
        Supplier<AcreBuys> world = () -> {
            AcreBuys x = owners(10, 20);
            x.strip(1, 1);
            Check.type(x, text);
            return x;
        };
        if (want >= 0) {
            AcreBuys x = world.get();
            due("plan '" + text + "'", x.plan(), want);
            due("tape of '" + text + "'", x.count(3), 0);
            due("findings of '" + text + "'", x.status(-1), 0);
        } else if (text.length() == 0) {
            World.changes(world, "plan ''", x -> x.plan(), want);
        } else {
            World.changes(world, "plan '" + text + "'", x -> x.plan(), want, "count(3)=0");
        }
    }

    /** A text whose FAULT is at the place that a | shows. */
    private static void fault(String marked) {
        int place = marked.indexOf('|');
        text(marked.substring(0, place) + marked.substring(place + 1), -1 - place);
    }

    private static void termsTapeTokens() {
        for (int b = 0; b < 256; b++) {
            boolean isBlank = b == ' ';
            char sign = (char) b;
            text(sign + "zeal 5", isBlank ? 1 : -1);
            text("zeal 5" + sign, isBlank || b >= '0' && b <= '9' ? 1 : b == ';' ? -8 : -7);
            text("zeal" + sign + "5", isBlank || b >= '0' && b <= '9' ? 1 : b >= 'a' && b <= 'z' ? -1 : -5);
        }
        fault("|Zeal 5");
        fault("|zeaL 5");
        fault("|`");
        fault("|{");
        fault("zeal |/5");
        fault("zeal |:5");
        fault("zeal |-5");
        fault("zeal 5|.5");
        fault("zeal 5|\t");
        text("zeal5", 1);
        text("zeal5;calm5", 2);
        text("zeal 5;calm 5", 2);
        text("   zeal   5   ;   calm   5   ", 2);
        text("owner5wary5tells0 1;strip0 1round5", 2);
        fault("zeal 5 |5");
        fault("zeal 5|calm 5");
        fault("|zealcalm 5");
        fault("zeal5|zeal");
        fault("|z");
        fault("|zea 5");
        fault("|zeals 5");
        fault("|ownerkeen 5");
        fault("|a");
        fault("|zz");
    }

    /** A WORD is the one that is meant only if each letter of it is, and no more and no less are there. */
    private static void termsWords() {
        String[] firsts = {"owner", "keen", "stubborn", "talker", "lord", "brother", "strip", "zeal", "calm", "law",
            "power"};
        for (String word : firsts) {
            for (int i = 0; i < word.length(); i++) {
                fault("|" + word.substring(0, i) + "q" + word.substring(i + 1) + " 1");
                fault("|" + word.substring(0, i) + word.substring(i + 1) + " 1");
                fault("|" + word.substring(0, i) + "q" + word.substring(i) + " 1");
            }
            fault("|" + word + "q 1");
            text(word + " 1", 1);
        }
        String[] others = {"wary", "tells"};
        for (String word : others) {
            for (int i = 0; i < word.length(); i++) {
                fault("owner 5 |" + word.substring(0, i) + "q" + word.substring(i + 1) + " 1");
                fault("owner 5 |" + word.substring(0, i) + word.substring(i + 1) + " 1");
            }
            fault("owner 5 |" + word + "q 1");
            text("owner 5 " + word + " 1", 1);
        }
        fault("strip 0 |rounds 1");
        fault("strip 0 |roun 1");
        fault("strip 0 |qound 1");
        fault("strip 0 |rounq 1");
    }

    private static void termsNumbers() {
        text("law 0", 1);
        text("law 000", 1);
        text("law 0000000000000000000000000000000000000000000000000000999", 1);
        fault("law |1000");
        fault("owner |10000");
        fault("owner |010000");
        fault("owner |4294967297");
        fault("owner |2147483648");
        fault("owner |18446744073709551617");
        fault("owner |99999999999999999999999999999999");
        fault("owner 5 tells |4294967296");
        fault("strip |4294967296");
        fault("strip 0 round |10000");
        fault("strip 0 round |4294967296");
        fault("zeal |4294967296");
        text("owner 9999", 1);
        text("owner 09999", 1);
    }

    private static void termsPlanFields() {
        String[] names = {"owner", "keen", "stubborn", "talker", "lord", "brother"};
        for (int kind = 0; kind < 6; kind++) {
            String name = names[kind];
            AcreBuys x = new AcreBuys();
            due(name, Check.planOf(x, name + " 1"), 1);
            due(name + "'s kind", x.of(0, 0), kind);
            due(name + "'s worth", x.of(0, 1), 1);
            due(name + "'s wary", x.of(0, 2), 0);
            due(name + "'s tells", x.of(0, 3), 0);
            due(name + " with all", Check.planOf(x, name + " 9999 wary 9 tells 13"), 1);
            due(name + "'s greatest worth", x.of(1, 1), 9999);
            due(name + "'s greatest wary", x.of(1, 2), 9);
            due(name + "'s last field", x.of(1, 3), 1 << 13);
            text(name + " 1", 1);
            text(name + " 9999", 1);
            fault(name + " |0");
            fault(name + " |10000");
            fault(name + " |;");
            fault(name + " |x");
            fault(name + " |wary 1");
            fault(name + " |tells 1");
            fault(name + "|");
            fault(name + "  |");
            text(name + " 5 wary 0", 1);
            text(name + " 5 wary 9", 1);
            fault(name + " 5 wary |10");
            fault(name + " 5 wary |tells 1");
            fault(name + " 5 wary |;zeal 1");
            fault(name + " 5 wary 1 |wary 1");
            fault(name + " 5 wary 1 |2");
            fault(name + " 5 wary|");
            fault(name + " 5 |round 1");
            fault(name + " 5 |" + name);
        }
    }

    private static void termsPlanTells() {
        text("owner 5 tells 0", 1);
        text("owner 5 tells 13", 1);
        text("owner 5 tells 0 1 2 3 4 5 6 7 8 9 10 11 12 13", 1);
        text("owner 5 tells 3 3 3", 1);
        fault("owner 5 tells |14");
        fault("owner 5 tells 13 |14");
        fault("owner 5 tells |");
        fault("owner 5 tells|");
        fault("owner 5 tells |;");
        fault("owner 5 tells |x");
        fault("owner 5 tells |tells");
        fault("owner 5 tells 1 |wary 1");
        fault("owner 5 tells 1 |tells 2");
        fault("owner 5 tells 1 |round 2");
        fault("owner 5 tells 1 |zeal 2");
        AcreBuys x = new AcreBuys();
        Check.planOf(x, "owner 5 tells 0 1 2 3 4 5 6 7 8 9 10 11 12 13;keen 5 tells 4 4 2");
        due("tells all", x.of(0, 3), 16383);
        due("tells two", x.of(1, 3), 20);
    }

    private static void termsPlanStrips() {
        text("strip 0", 1);
        text("strip 1", 1);
        text("strip 0 1 1 0", 1);
        fault("strip |2");
        fault("strip 0 |2");
        fault("strip 0 1 |13");
        fault("strip|");
        fault("strip |");
        fault("strip |;");
        fault("strip |round 5");
        fault("strip |x");
        text("strip 0 round 0", 1);
        text("strip 0 round 9999", 1);
        fault("strip 0 round |10000");
        fault("strip 0 round|");
        fault("strip 0 round |;");
        fault("strip 0 round |round 1");
        fault("strip 0 round 1 |1");
        fault("strip 0 round 1 |round 1");
        fault("strip 0 |wary 1");
        fault("strip 0 |strip 1");
        text("owner 5;strip 2", 2);
        fault("strip |2;owner 5");
        fault("owner 5;strip 0 |3;owner 5");
        AcreBuys x = new AcreBuys();
        due("no field by then", Check.planOf(x, "strip 0"), -7);
        due("one by then", Check.planOf(x, "owner 5;strip 0;owner 6;strip 1 0 1 round 7"), 4);
        due("set 0", x.stripOf(0, 0), 1);
        due("round 0", x.stripOf(0, 1), 0);
        due("set 1", x.stripOf(1, 0), 3);
        due("round 1", x.stripOf(1, 1), 7);
    }

    private static void termsPlanRules() {
        String[] names = {"zeal", "calm", "law", "power"};
        int[] limit = {100, 9, 999, 9};
        for (int what = 0; what < 4; what++) {
            String name = names[what];
            AcreBuys x = new AcreBuys();
            due(name, Check.planOf(x, name + " " + limit[what]), 1);
            due(name + " at most", x.rule(what, 1), limit[what]);
            due(name, Check.planOf(x, name + " 0"), 1);
            due(name + " at least", x.rule(what, 1), 0);
            due(name + " twice", Check.planOf(x, name + " 2;" + name + " 3"), 2);
            due(name + ", the later one", x.rule(what, 1), 3);
            fault(name + " |" + (limit[what] + 1));
            fault(name + "|");
            fault(name + " |");
            fault(name + " |;");
            fault(name + " |" + name);
            fault(name + " 1 |1");
            fault(name + " 1 |wary 1");
            fault(name + " 1;" + name + " |" + (limit[what] + 1));
        }
    }

    private static void termsPlanEnds() {
        World.changes(World::empty, "an empty tape", x -> x.plan(), -1);
        text("", -1);
        fault(" |");
        fault("      |");
        fault("|;");
        fault(" |;zeal 1");
        fault("zeal 1;|");
        fault("zeal 1; |");
        fault("zeal 1;|;");
        fault("zeal 1; |; zeal 1");
        fault("|5");
        fault("|wary 1");
        fault("|tells 1");
        fault("|round 1");
        StringBuilder many = new StringBuilder("calm 1");
        for (int i = 1; i < 17; i++) {
            many.append(";calm ").append(i % 10);
        }
        text(many.toString(), 17);
        text(many + " ", 17);
        fault(many + ";|");
        String blanks = " ".repeat(114);
        text(blanks + "zeal 1", 1);
        text("zeal" + " ".repeat(115) + "1", 1);
        fault("zeal" + " ".repeat(116) + "|");
        fault(" ".repeat(120) + "|");
        fault("|" + "a".repeat(120));
        fault("|" + "1".repeat(120));
        fault("zeal |" + "1".repeat(115));
        text("zeal " + "0".repeat(115), 1);
        fault(" ".repeat(119) + "|x");
        fault("|" + ";".repeat(120));
    }

    private static void termsPlanFull() {
        AcreBuys x = many(13, 1);
        Check.type(x, "owner 5;lord 0");
        due("a 15th: its own, not its number", x.plan(), -9);
        due("no 14th", x.count(0), 13);
        due("a 14th", Check.planOf(x, "lord 7 tells 13"), 1);
        due("14", x.count(0), 14);
        due("a 15th at once", Check.planOf(x, "zeal 5; keen 5"), -9);
        due("nothing of it", x.rule(0, 0), 0);
        for (int i = 0; i < 5; i++) {
            x.strip(1, 0);
        }
        due("a 7th: its own, not its number", Check.planOf(x, "strip 0;strip 99"), -9);
        due("no 6th", x.count(1), 5);
        due("a 6th", Check.planOf(x, "strip 13"), 1);
        due("6", x.count(1), 6);
        due("a 7th at once", Check.planOf(x, "strip"), -1);
        due("other items may be", Check.planOf(x, "power 3"), 1);
        due("findings", x.status(-1), 0);
        AcreBuys y = new AcreBuys();
        due("14 at once", Check.planOf(y, "owner 1;owner 2;owner 3;owner 4;owner 5;owner 6;owner 7;keen 8;keen 9;"
            + "keen 10;keen 11;keen 12;lord 13;lord 14"), 14);
        due("the last one", y.of(13, 1), 14);
        due("6 at once", Check.planOf(y, "strip 0;strip 1;strip 2;strip 3;strip 4;strip 13 0"), 6);
        due("the last strip", y.stripOf(5, 0), 1 | 1 << 13);
    }

    /** A FAULT at the very end takes back all ITEMS ahead of it. */
    private static void termsPlanUndone() {
        String text = "lord 9 wary 3 tells 0 5;strip 0 5 round 8;zeal 9;calm 3;law 7;power 5;x";
        Supplier<AcreBuys> world = () -> {
            AcreBuys x = World.some();
            x.wipe();
            Check.type(x, text);
            return x;
        };
        World.changes(world, "a fault at the end", x -> x.plan(), -1 - text.indexOf('x'), "count(3)=0");
        AcreBuys x = new AcreBuys();
        Check.planOf(x, "owner 5 wary 9 tells 1;x");
        due("no field", x.count(0), 0);
        due("field 0 anew", x.field(0, 3), 0);
        due("not wary", x.of(0, 2), 0);
        due("tells none", x.of(0, 3), 0);
    }

    // ---- section 3

    private static AcreBuys chain(int fields, int worth) {
        AcreBuys x = many(fields, worth);
        for (int f = 0; f < fields - 1; f++) {
            x.set(f, 3, 1 << f + 1);
        }
        return x;
    }

    private static void lay(AcreBuys x, int bits, long... row) {
        x.sheet(0, bits, row.length);
        for (int i = 0; i < row.length; i++) {
            x.write(0, i, row[i]);
        }
    }

    private static void termsCost() {
        AcreBuys x = chain(14, 10);
        lay(x, 8);
        due("an empty row", x.cost(0), 0);
        lay(x, 8, 13);
        due("the last field alone", x.cost(0), 10);
        lay(x, 8, 0, 1, 2, 3, 4, 5, 6, 7, 8, 9, 10, 11, 12, 13);
        due("all 14", x.cost(0), 153);
        lay(x, 64, 13, 12, 11, 10, 9, 8, 7, 6, 5, 4, 3, 2, 1, 0);
        due("all 14, backwards", x.cost(0), 140);
        x.offer(0, 10);
        lay(x, 16, 1, 0);
        due("ours and ahead in the row are told once", x.cost(0), 21);
        lay(x, 16, 0, 1);
        due("ours ahead in the row", x.cost(0), 21);
        AcreBuys dear = new AcreBuys();
        for (int f = 0; f < 14; f++) {
            dear.field(LORD, 9999);
            dear.set(f, 2, 9);
        }
        lay(dear, 8, 0, 1, 2, 3, 4, 5, 6, 7, 8, 9, 10, 11, 12, 13);
        due("the dearest row", dear.cost(0), 14 * 43495);
    }

    private static void termsLeast() {
        AcreBuys none = owners(5);
        none.strip(0, 0);
        none.strip(0, 9999);
        due("no field, no round", none.least(0), 0);
        due("no field, but round", none.least(1), 9999);
        AcreBuys x = chain(14, 10);
        x.strip(1023, 7);
        x.strip(2047, 7);
        x.strip(16383, 7);
        due("10 that aren't ours", x.least(0), 107);
        due("11 that aren't ours", x.least(1), SIZE);
        due("14 that aren't ours", x.least(2), SIZE);
        x.offer(13, 10);
        x.offer(12, 10);
        x.offer(11, 10);
        due("11 of 14", x.least(2), SIZE);
        x.offer(10, 10);
        due("10 of 14", x.least(2), 107);
        due("10 of 11", x.least(1), 107);
        lose(x, 1);
        due("one is lost", x.least(2), STATE);
        AcreBuys dear = new AcreBuys();
        for (int f = 0; f < 10; f++) {
            dear.field(LORD, 9999);
            dear.set(f, 2, 9);
        }
        dear.strip(1023, 9999);
        due("the dearest", dear.least(0), 10 * 43495 + 9999);
        AcreBuys told = many(6, 10);
        told.set(0, 3, 16);
        told.set(1, 3, 16);
        told.set(4, 3, 3);
        told.set(5, 3, 31);
        told.strip(1 | 16, 0);
        told.strip(3 | 16, 0);
        told.strip(12, 0);
        due("each tells the other", told.least(0), 21);
        due("two tell one, that tells both: it last", told.least(1), 32);
        due("the first then", told.order(1, 0), 0);
        due("others' tales are forgotten", told.least(2), 20);
        told.offer(5, 10);
        due("ours, of no strip, tells", told.least(2), 22);
        due("ours tells all three", told.least(1), 35);
        AcreBuys lost = owners(10, 20);
        lost.set(0, 3, 2);
        lost.strip(2, 0);
        lose(lost, 1);
        due("who is lost doesn't tell", lost.least(0), 20);
        AcreBuys ring = many(3, 10);
        ring.set(0, 3, 2);
        ring.set(1, 3, 4);
        ring.set(2, 3, 1);
        ring.strip(7, 0);
        due("a ring: one is told whatever the order", ring.least(0), 31);
        due("a ring's first", ring.order(0, 0), 0);
        due("a ring's second", ring.order(0, 1), 2);
        due("a ring's third", ring.order(0, 2), 1);
    }

    private static void termsOrderTies() {
        AcreBuys x = many(14, 10);
        x.strip(0b11_1111_1111_0000, 0);
        for (int i = 0; i < 10; i++) {
            due("all alike " + i, x.order(0, i), 4 + i);
        }
        AcreBuys y = many(4, 10);
        y.set(0, 3, 2);
        y.strip(15, 0);
        int[] want = {1, 0, 2, 3};
        for (int i = 0; i < 4; i++) {
            due("1 ahead of 0 alone " + i, y.order(0, i), want[i]);
        }
        AcreBuys z = many(4, 10);
        z.set(1, 3, 1);
        z.set(0, 3, 8);
        int[] free = {2, 3, 0, 1};
        z.strip(15, 0);
        for (int i = 0; i < 4; i++) {
            due("3 ahead of 0, 0 ahead of 1: " + i, z.order(0, i), free[i]);
        }
        AcreBuys cut = many(3, 9);
        cut.set(0, 3, 6);
        cut.strip(7, 0);
        due("what is cut away doesn't matter", cut.order(0, 0), 0);
        due("9 by 1 asks 9", cut.least(0), 27);
    }

    private static void termsLast() {
        AcreBuys x = many(14, 10);
        for (int f = 0; f < 14; f++) {
            x.set(f, 3, 16383);
        }
        x.strip(1, 0);
        x.strip(3, 0);
        x.strip(16383, 0);
        due("alone: itself doesn't tell it", x.last(0, 0), 10);
        due("alone: it", x.last(0, 1), 0);
        due("two", x.last(1, 0), 11);
        due("of several the least", x.last(1, 1), 0);
        due("14: 9 at most", x.last(2, 0), 19);
        x.offer(0, 10);
        due("had", x.last(0, 0), NONE);
        due("the only one left", x.last(1, 1), 1);
        x.offer(2, 11);
        due("ours beside the strip tell too", x.last(1, 0), 12);
        AcreBuys y = owners(10, 11, 11);
        y.strip(7, 9999);
        due("the greatest", y.last(0, 0), 11);
        due("the first of the greatest", y.last(0, 1), 1);
        lose(y, 1);
        due("one is lost", y.last(0, 0), STATE);
        AcreBuys eleven = many(11, 10);
        eleven.strip(2047, 0);
        due("more than 10 may be", eleven.last(0, 0), 10);
    }

    private static void termsGiveUp() {
        AcreBuys x = owners(10, 20);
        x.strip(3, 5);
        due("just so much", x.giveUp(35), 0);
        due("one too little", x.giveUp(34), 1);
        due("gain 0", x.giveUp(0), 1);
        due("the greatest gain", x.giveUp(9999999), 0);
        x.strip(2, 14);
        due("the other strip", x.giveUp(34), 0);
        due("neither", x.giveUp(33), 1);
        lose(x, 1);
        due("the first can't be", x.giveUp(35), 0);
        due("the second needs", x.giveUp(33), 1);
        lose(x, 1);
        due("none can be", x.giveUp(9999999), 1);
        x.strip(0, 0);
        due("one that is had for nothing", x.giveUp(0), 0);
    }

    private static void termsRights() {
        AcreBuys x = owners(1, 9, 10, 19, 20);
        x.strip(0, 0);
        x.strip(0, 9999);
        x.strip(1, 0);
        x.strip(2, 3);
        x.strip(12, 0);
        x.strip(31, 100);
        due("no field", x.rights(0), 0);
        due("round alone", x.rights(1), 9999);
        due("1 at least", x.rights(2), 2);
        due("1 at least, and round", x.rights(3), 13);
        due("each cut for itself", x.rights(4), 11 + 20);
        due("all", x.rights(5), 100 + 2 + 10 + 11 + 20 + 22);
        x.offer(4, 20);
        due("those that are free", x.rights(5), 100 + 2 + 10 + 11 + 20);
        lose(x, 1);
        due("one is lost", x.rights(5), STATE);
        due("others can be", x.rights(4), 31);
        AcreBuys all = many(14, 10);
        all.strip(16383, 0);
        due("more than six, and more than ten", all.rights(0), 14 * 11);
    }

    private static void termsAsOne() {
        AcreBuys x = owners(3, 5, 7);
        x.strip(7, 0);
        due("just the worths", x.share(0, 15, 1), 5);
        due("one too little", x.share(0, 14, 1), NONE);
        due("one more, cut", x.share(0, 16, 2), 7);
        due("7 of 15, cut", x.share(0, 15 + 2, 2), 7);
        due("14 of 30", x.share(0, 15 + 3, 2), 8);
        due("5 by 15", x.share(0, 15 + 3, 1), 6);
        due("5 by 15, one less", x.share(0, 15 + 2, 1), 5);
        due("the greatest gain", x.share(0, 9999999, 2), 7 + 9999984L * 7 / 15);
        due("of a single one", owners(1).share(0, 0, 0), BEYOND);
        AcreBuys one = owners(1, 9999);
        one.strip(1, 0);
        one.strip(2, 0);
        due("all of it", one.share(0, 9999999, 0), 9999999);
        due("all of it for the dearest", one.share(1, 9999999, 1), 9999999);
        due("its worth", one.share(1, 9999, 1), 9999);
        due("less than its worth", one.share(1, 9998, 1), NONE);
        AcreBuys all = many(14, 9999);
        all.strip(16383, 0);
        due("14 of the dearest", all.share(0, 9999999, 13), 9999 + (9999999L - 14 * 9999) * 9999 / (14 * 9999));
        due("their worths", all.share(0, 14 * 9999, 0), 9999);
        due("one below", all.share(0, 14 * 9999 - 1, 0), NONE);
    }

    // ---- section 4

    private static void termsSheets() {
        AcreBuys x = new AcreBuys();
        for (int s = 0; s < 4; s++) {
            due("missing at first " + s, x.write(s, 0, 1), MISSING);
            due("40 numbers " + s, x.sheet(s, 64, 40), 40);
            due("the last " + s, x.write(s, 39, 7), 0);
            due("one behind it " + s, x.write(s, 40, 7), BEYOND);
        }
        due("two findings a sheet", x.status(-1), 8);
    }

    // ---- promises 1 to 41

    private static void p1NewObject() {
        AcreBuys x = new AcreBuys();
        int[] counts = {0, 0, 0, 0, 1, 0, 0};
        for (int what = 0; what <= 6; what++) {
            due("p1 count " + what, x.count(what), counts[what]);
        }
        for (int what = 0; what <= 4; what++) {
            due("p1 stands " + what, x.stands(what), 0);
        }
        for (int which = -1; which <= 6; which++) {
            due("p1 status " + which, x.status(which), 0);
        }
        due("p1 zeal", x.rule(0, 0), 0);
        due("p1 calm", x.rule(1, 0), 9);
        due("p1 law", x.rule(2, 0), 150);
        due("p1 power", x.rule(3, 0), 0);
        due("p1 tape", x.wipe(), 0);
        due("p1 no image", x.tear(), 0);
        due("p1 no field", x.of(0, 0), BEYOND);
        due("p1 no strip", x.stripOf(0, 0), BEYOND);
        for (int s = 0; s <= 3; s++) {
            due("p1 sheet " + s, x.cost(s), MISSING);
        }
        AcreBuys y = new AcreBuys();
        y.field(5, 9);
        y.seed(7);
        due("p1 another object is new, too", new AcreBuys().count(0), 0);
        due("p1 with z of its own", new AcreBuys().count(4), 1);
    }

    private static void p2Field() {
        Supplier<AcreBuys> two = () -> owners(10, 20);
        World.changes(two, "p2 a third", x -> x.field(5, 9999), 2, "count(0)=3", "stands(4)=3",
            "of(2, 0)=5", "of(2, 1)=9999", "of(2, 2)=0", "of(2, 3)=0", "of(2, 4)=0", "of(2, 5)=9999", "of(2, 6)=0",
            "of(2, 7)=0", "paperOf(2, 0)=" + NONE, "paperOf(2, 1)=" + NONE);
        AcreBuys x = new AcreBuys();
        due("p2 the least kind and worth", x.field(0, 1), 0);
        due("p2 kind -1", x.field(-1, 1), BEYOND);
        due("p2 kind 6", x.field(6, 1), BEYOND);
        due("p2 worth 0", x.field(0, 0), BEYOND);
        due("p2 worth 10000", x.field(0, 10000), BEYOND);
        for (int f = 1; f < 14; f++) {
            due("p2 the greatest kind and worth " + f, x.field(5, 9999), f);
        }
        due("p2 a 15th", x.field(0, 1), FULL);
        due("p2 a 15th of no kind", x.field(6, 1), BEYOND);
        due("p2 a 15th of no worth", x.field(0, 0), BEYOND);
        due("p2 no more came", x.count(0), 14);
        AcreBuys told = owners(10);
        told.set(0, 3, 2);
        told.offer(0, 10);
        told.field(0, 10);
        due("p2 told ahead of being there", told.of(1, 6), 1);
    }

    private static void p3Of() {
        AcreBuys x = World.full();
        int[] last = {13 % 6, 77, 13 % 4, 1 | 1 << (13 * 5 + 3) % 14, 0};
        for (int what = 0; what <= 4; what++) {
            due("p3 the last field's " + what, x.of(13, what), last[what]);
        }
        due("p3 ours", x.of(0, 4), 1);
        due("p3 lost", x.of(2, 4), 2);
        due("p3 free", x.of(3, 4), 0);
        due("p3 field 14", x.of(14, 0), BEYOND);
        due("p3 field -1", x.of(-1, 0), BEYOND);
        due("p3 what 8", x.of(0, 8), BEYOND);
        due("p3 what -1", x.of(0, -1), BEYOND);
        AcreBuys y = owners(100, 100);
        y.set(0, 3, 2);
        due("p3 heard by one that isn't ours", y.of(1, 6), 0);
        y.offer(0, 100);
        due("p3 heard now", y.of(1, 6), 1);
        due("p3 ware now", y.of(1, 7), 1);
        due("p3 asks now", y.of(1, 5), 110);
        y.set(1, 2, 9);
        due("p3 ware, 9 at most", y.of(1, 7), 9);
        y.offer(1, 99999);
        due("p3 ours asks, too", y.of(1, 5), 190);
        lose(x, 1);
        due("p3 lost asks, too", x.of(2, 5) > 0 ? 1 : 0, 1);
    }

    private static void p4Set() {
        Supplier<AcreBuys> two = () -> owners(100, 20);
        World.changes(two, "p4 worth", x -> x.set(0, 1, 9999), 100, "of(0, 1)=9999", "of(0, 5)=9999");
        World.changes(two, "p4 least worth", x -> x.set(0, 1, 1), 100, "of(0, 1)=1", "of(0, 5)=1");
        World.changes(two, "p4 wary", x -> x.set(0, 2, 9), 0,
            "of(0, 2)=9", "of(0, 5)=190", "of(0, 7)=9", "count(5)=9");
        World.changes(two, "p4 tells all", x -> x.set(0, 3, 16383), 0, "of(0, 3)=16383");
        World.changes(two, "p4 the same", x -> x.set(0, 1, 100), 100);
        AcreBuys x = owners(100, 20);
        x.set(1, 2, 9);
        due("p4 wary was 9", x.set(1, 2, 0), 9);
        due("p4 wary was 0", x.set(1, 2, 0), 0);
        due("p4 wary -1", x.set(1, 2, -1), BEYOND);
        due("p4 wary 10", x.set(1, 2, 10), BEYOND);
        due("p4 worth 0", x.set(1, 1, 0), BEYOND);
        due("p4 worth 10000", x.set(1, 1, 10000), BEYOND);
        x.set(1, 3, 16383);
        due("p4 tells all were", x.set(1, 3, 0), 16383);
        due("p4 tells none were", x.set(1, 3, 1 << 13), 0);
        due("p4 tells 16384", x.set(1, 3, 16384), BEYOND);
        due("p4 tells -1", x.set(1, 3, -1), BEYOND);
        due("p4 what 0", x.set(1, 0, 0), BEYOND);
        due("p4 what 4", x.set(1, 4, 0), BEYOND);
        due("p4 the field behind the last", x.set(2, 1, 5), BEYOND);
        x.paper(0, 9);
        x.set(0, 1, 50);
        due("p4 a paper's price stays", x.paperOf(0, 0), 100);
        x.offer(0, 50);
        due("p4 of one that is ours", x.set(0, 1, 60), 50);
    }

    private static void p5As() {
        for (int own = 0; own < 6; own++) {
            AcreBuys x = new AcreBuys();
            x.field(own, 100);
            x.set(0, 2, 9);
            int price = asks(own, 100, 9, 0);
            for (int kind = 0; kind < 6; kind++) {
                boolean isUnder = kind == own || kind == OWNER || kind == STUBBORN && own == LORD
                    || kind == TALKER && own == BROTHER;
                due("p5 kind " + own + " as " + kind, x.as(0, kind), isUnder ? price : KIND);
            }
            due("p5 as 6", x.as(0, 6), BEYOND);
            due("p5 as -1", x.as(0, -1), BEYOND);
            due("p5 field 1", x.as(1, own), BEYOND);
        }
        AcreBuys y = new AcreBuys();
        y.field(BROTHER, 10);
        y.field(OWNER, 10);
        y.set(1, 3, 1);
        y.offer(1, 10);
        due("p5 by its own kind, now", y.as(0, OWNER), 17);
        due("p5 none is a lord but lords", y.as(0, LORD), KIND);
    }

    private static void p6Asks() {
        AcreBuys x = many(14, 10);
        for (int f = 0; f < 14; f++) {
            x.set(f, 3, 1 << 13);
        }
        due("p6 none", x.asks(13, 0), 10);
        due("p6 the least field", x.asks(13, 1), 11);
        due("p6 the greatest but itself", x.asks(13, 1 << 12), 11);
        due("p6 itself", x.asks(13, 1 << 13), 10);
        due("p6 nine", x.asks(13, 511), 19);
        due("p6 all", x.asks(13, 16383), 19);
        due("p6 one that is told by none", x.asks(0, 16383), 10);
        x.offer(0, 10);
        due("p6 by the set, not by ours", x.asks(13, 2), 11);
        due("p6 by the set, none", x.asks(13, 0), 10);
        due("p6 16384", x.asks(13, 16384), BEYOND);
        due("p6 -1", x.asks(13, -1), BEYOND);
        AcreBuys y = owners(10);
        due("p6 fields that there aren't", y.asks(0, 16383), 10);
        due("p6 field 1", y.asks(1, 0), BEYOND);
        AcreBuys z = owners(10, 10, 10);
        z.image();
        z.set(2, 3, 1);
        due("p6 told by 2", z.asks(0, 4), 11);
        z.undo();
        due("p6 told no more", z.asks(0, 4), 10);
        AcreBuys gone = owners(10, 10);
        gone.image();
        gone.field(OWNER, 10);
        gone.set(2, 3, 1);
        gone.undo();
        due("p6 a field that is gone tells none", gone.asks(0, 4), 10);
    }

    private static void p7Rule() {
        int[] limit = {100, 9, 999, 9};
        int[] first = {0, 9, 150, 0};
        for (int what = 0; what < 4; what++) {
            int w = what;
            int l = limit[what];
            AcreBuys x = new AcreBuys();
            due("p7 what was first " + what, x.rule(what, l), first[what]);
            due("p7 most " + what, x.rule(what, 0), l);
            due("p7 least " + what, x.rule(what, l), 0);
            due("p7 too much " + what, x.rule(what, l + 1), BEYOND);
            due("p7 too little " + what, x.rule(what, -1), BEYOND);
            due("p7 it stays " + what, x.rule(what, 0), l);
            String power = "count(6)=" + (what == 3 ? 1 : 0);
            World.changes(World::empty, "p7 alone " + what, y -> y.rule(w, 1), first[what], "rule(" + w + ")=1", power);
        }
        due("p7 what 4", new AcreBuys().rule(4, 0), BEYOND);
        due("p7 what -1", new AcreBuys().rule(-1, 0), BEYOND);
    }

    private static void p8Offer() {
        AcreBuys x = owners(100, 100, 50);
        due("p8 price -1", x.offer(0, -1), BEYOND);
        due("p8 price 100000", x.offer(0, 100000), BEYOND);
        due("p8 wary stays", x.of(0, 2), 0);
        due("p8 price 0", x.offer(0, 0), 0);
        due("p8 price 99999", x.offer(0, 99999), 1);
        due("p8 ours", x.offer(0, 99999), STATE);
        lose(x, 1);
        due("p8 lost", x.offer(2, 50), STATE);
        due("p8 no field", x.offer(3, 50), BEYOND);
        due("p8 no field, no price", x.offer(0, 100000), BEYOND);
        due("p8 the last field", x.offer(1, 100), 1);
    }

    private static void p9Paper() {
        Supplier<AcreBuys> two = () -> owners(100, 20);
        World.changes(two, "p9 till now", x -> x.paper(0, 0), 10,
            "paperOf(0, 0)=100", "paperOf(0, 1)=0", "stands(1)=10", "count(2)=1");
        World.changes(two, "p9 till 99", x -> x.paper(1, 99), 2,
            "paperOf(1, 0)=20", "paperOf(1, 1)=99", "stands(1)=2", "count(2)=1");
        AcreBuys x = many(9, 10);
        due("p9 till -1", x.paper(0, -1), BEYOND);
        due("p9 till 100", x.paper(0, 100), BEYOND);
        x.month();
        x.month();
        due("p9 till 1 in month 2", x.paper(0, 1), BEYOND);
        due("p9 till 2 in month 2", x.paper(0, 2), 1);
        due("p9 there is one", x.paper(0, 2), STATE);
        x.offer(1, 10);
        due("p9 ours", x.paper(1, 50), STATE);
        lose(x, 1);
        due("p9 its month went by: lost", x.paper(0, 50), STATE);
        due("p9 free", x.paper(2, 50), 1);
        for (int f = 3; f < 8; f++) {
            x.paper(f, 99);
        }
        due("p9 a seventh", x.paper(8, 99), FULL);
        due("p9 there is one, and six", x.paper(7, 99), STATE);
        due("p9 ours, and six", x.paper(1, 99), STATE);
        due("p9 no month, and six", x.paper(8, 100), BEYOND);
        AcreBuys late = owners(10, 10);
        for (int i = 0; i < 99; i++) {
            late.month();
        }
        due("p9 in month 99 till 98", late.paper(0, 98), BEYOND);
        due("p9 in month 99 till 99", late.paper(0, 99), 1);
        due("p9 in month 99 it holds", late.claim(0), 10);
    }

    private static void p10PaperOf() {
        AcreBuys x = owners(100, 20);
        due("p10 none", x.paperOf(0, 0), NONE);
        x.set(0, 2, 1);
        x.paper(0, 0);
        x.set(0, 2, 9);
        due("p10 the price of then", x.paperOf(0, 0), 110);
        due("p10 month 0", x.paperOf(0, 1), 0);
        due("p10 the other one has none", x.paperOf(1, 1), NONE);
        due("p10 what 2", x.paperOf(0, 2), BEYOND);
        due("p10 what -1", x.paperOf(0, -1), BEYOND);
        due("p10 what 2 of none", x.paperOf(1, 2), BEYOND);
        due("p10 field 2", x.paperOf(2, 0), BEYOND);
        x.month();
        due("p10 past", x.paperOf(0, 1), NONE);
        x.paper(0, 99);
        due("p10 anew", x.paperOf(0, 0), 190);
        x.claim(0);
        due("p10 claimed", x.paperOf(0, 0), NONE);
        x.paper(1, 5);
        x.rule(3, 1);
        x.county(1);
        due("p10 taken", x.paperOf(1, 0), NONE);
    }

    private static void p11Claim() {
        Supplier<AcreBuys> one = () -> {
            AcreBuys x = owners(100, 20);
            x.paper(0, 4);
            x.set(0, 2, 1);
            return x;
        };
        World.changes(one, "p11", x -> x.claim(0), 100, "of(0, 4)=1", "stands(1)=110", "stands(2)=1", "stands(4)=1",
            "count(2)=0", "paperOf(0, 0)=" + NONE, "paperOf(0, 1)=" + NONE);
        AcreBuys x = one.get();
        due("p11 no paper", x.claim(1), NONE);
        due("p11 no field", x.claim(2), BEYOND);
        due("p11 field -1", x.claim(-1), BEYOND);
        for (int i = 0; i < 4; i++) {
            x.month();
        }
        due("p11 in its last month", x.claim(0), 100);
        due("p11 once", x.claim(0), NONE);
        AcreBuys y = one.get();
        for (int i = 0; i < 5; i++) {
            y.month();
        }
        due("p11 a month later", y.claim(0), NONE);
    }

    private static void p12County() {
        Supplier<AcreBuys> one = () -> {
            AcreBuys x = owners(33, 20);
            x.rule(3, 1);
            x.paper(0, 4);
            return x;
        };
        World.changes(one, "p12", x -> x.county(0), 49, "of(0, 4)=1", "stands(1)=52", "stands(2)=1", "stands(4)=1",
            "count(2)=0", "count(6)=0", "rule(3)=0", "paperOf(0, 0)=" + NONE, "paperOf(0, 1)=" + NONE);
        AcreBuys x = one.get();
        due("p12 the last of power", x.county(0), 49);
        due("p12 power is 0", x.county(1), NONE);
        due("p12 ours, and power is 0", x.county(0), STATE);
        due("p12 no field, and power is 0", x.county(2), BEYOND);
        x.rule(3, 9);
        due("p12 ours, with power", x.county(0), STATE);
        lose(x, 1);
        due("p12 lost", x.county(1), STATE);
        due("p12 power stays", x.count(6), 9);
    }

    private static void p13Month() {
        AcreBuys x = new AcreBuys();
        for (int i = 1; i <= 99; i++) {
            due("p13 month " + i, x.month(), -1);
            due("p13 it is " + i, x.stands(0), i);
        }
        int z = x.count(4);
        due("p13 it is 99", x.month(), STATE);
        due("p13 it stays 99", x.stands(0), 99);
        due("p13 no draw", x.count(4), z);
        AcreBuys y = many(14, 5);
        y.set(13, 1, 4);
        y.rule(0, 100);
        due("p13 the last field", y.month(), 13);
        due("p13 field 0", y.month(), 0);
        int next = 12345 + 1103515245;
        Supplier<AcreBuys> two = () -> {
            AcreBuys w = owners(33, 20);
            w.rule(0, 100);
            return w;
        };
        World.changes(two, "p13", w -> w.month(), 1, "count(4)=" + next, "stands(0)=1", "stands(3)=1", "stands(4)=1",
            "of(1, 4)=2");
        Supplier<AcreBuys> none = () -> {
            AcreBuys w = owners(33, 20);
            w.offer(0, 33);
            w.paper(1, 9);
            w.rule(0, 100);
            return w;
        };
        World.changes(none, "p13 none to lose", w -> w.month(), -1, "count(4)=" + next, "stands(0)=1");
        World.changes(() -> owners(33), "p13 zeal 0", w -> w.month(), -1, "count(4)=" + next, "stands(0)=1");
        World.changes(World::empty, "p13 no fields", w -> w.month(), -1, "count(4)=" + next, "stands(0)=1");
    }

    private static void p14Seed() {
        AcreBuys x = new AcreBuys();
        int was = 1;
        for (int v : new int[] {0, -1, MIN, MAX, -1000000001, -1000000007, 1}) {
            due("p14 what it was ahead of " + v, x.seed(v), was);
            due("p14 z", x.count(4), v);
            was = v;
        }
        due("p14 no finding", x.status(-1), 0);
        World.changes(World::empty, "p14", y -> y.seed(MIN), 1, "count(4)=" + MIN);
    }

    private static void p15Stands() {
        AcreBuys x = many(14, 10);
        due("p15 all are free", x.stands(4), 14);
        x.rule(3, 9);
        for (int f = 0; f < 7; f++) {
            x.offer(f, 99999);
        }
        lose(x, 7);
        due("p15 month", x.stands(0), 7);
        due("p15 spent", x.stands(1), 7 * 99999);
        due("p15 ours", x.stands(2), 7);
        due("p15 lost", x.stands(3), 7);
        due("p15 none is free", x.stands(4), 0);
        due("p15 what 5", x.stands(5), BEYOND);
        due("p15 what -1", x.stands(-1), BEYOND);
        AcreBuys y = many(14, 10);
        for (int f = 0; f < 14; f++) {
            y.offer(f, 99999);
        }
        due("p15 all are ours", y.stands(2), 14);
        due("p15 all was paid", y.stands(1), 14 * 99999);
    }

    private static void p16Strip() {
        Supplier<AcreBuys> two = () -> owners(10, 20);
        World.changes(two, "p16", x -> x.strip(3, 9999), 0, "count(1)=1", "stripOf(0, 0)=3", "stripOf(0, 1)=9999",
            "stripOf(0, 2)=0", "stripOf(0, 3)=1", "stripOf(0, 4)=3");
        World.changes(two, "p16 none", x -> x.strip(0, 0), 0, "count(1)=1", "stripOf(0, 0)=0", "stripOf(0, 1)=0",
            "stripOf(0, 2)=1", "stripOf(0, 3)=1", "stripOf(0, 4)=0");
        AcreBuys x = many(14, 10);
        due("p16 all 14", x.strip(16383, 0), 0);
        due("p16 the last alone", x.strip(1 << 13, 0), 1);
        due("p16 a 15th", x.strip(1 << 14, 0), BEYOND);
        due("p16 -1", x.strip(-1, 0), BEYOND);
        due("p16 min", x.strip(MIN, 0), BEYOND);
        due("p16 round -1", x.strip(1, -1), BEYOND);
        due("p16 round 10000", x.strip(1, 10000), BEYOND);
        due("p16 the same set again", x.strip(16383, 9999), 2);
        for (int i = 3; i < 6; i++) {
            due("p16 strip " + i, x.strip(0, 0), i);
        }
        due("p16 a seventh", x.strip(0, 0), FULL);
        due("p16 a seventh of no set", x.strip(1 << 14, 0), BEYOND);
        due("p16 a seventh of no round", x.strip(0, 10000), BEYOND);
        AcreBuys y = owners(10);
        due("p16 the only one", y.strip(1, 0), 0);
        due("p16 one behind it", y.strip(2, 0), BEYOND);
        due("p16 it and one behind it", y.strip(3, 0), BEYOND);
        due("p16 of one that is lost or ours", lostAndOurs().strip(3, 0), 0);
    }

    private static AcreBuys lostAndOurs() {
        AcreBuys x = owners(10, 20);
        lose(x, 1);
        x.offer(1, 20);
        return x;
    }

    private static void p17StripOf() {
        AcreBuys x = World.full();
        int[][] want = {
            {16383 & ~4, 10, 0, 1, 16383 & ~7},
            {12, 20, 0, 0, 8},
            {3, 30, 1, 1, 0},
            {25, 40, 0, 1, 24},
            {0, 50, 1, 1, 0},
            {16383, 60, 0, 0, 16383 & ~7}};
        for (int strip = 0; strip < 6; strip++) {
            for (int what = 0; what < 5; what++) {
                due("p17 strip " + strip + " what " + what, x.stripOf(strip, what), want[strip][what]);
            }
        }
        due("p17 strip 6", x.stripOf(6, 0), BEYOND);
        due("p17 strip -1", x.stripOf(-1, 0), BEYOND);
        due("p17 what 5", x.stripOf(0, 5), BEYOND);
        due("p17 what -1", x.stripOf(0, -1), BEYOND);
        due("p17 the first that isn't there", World.some().stripOf(2, 0), BEYOND);
    }

    private static void p18Had() {
        due("p18 no strip", new AcreBuys().had(), 0);
        AcreBuys x = owners(10, 20);
        for (int strip = 0; strip < 6; strip++) {
            x.strip(strip % 2 == 0 ? 0 : 3, 0);
        }
        due("p18 those of no field", x.had(), 0b010101);
        x.offer(0, 10);
        due("p18 half of it", x.had(), 0b010101);
        x.offer(1, 20);
        due("p18 all six", x.had(), 0b111111);
        AcreBuys y = owners(10, 20);
        y.strip(3, 0);
        lose(y, 1);
        y.offer(1, 20);
        due("p18 one is lost", y.had(), 0);
    }

    private static void p19Least() {
        AcreBuys x = World.full();
        due("p19 11 aren't ours", x.least(0), SIZE);
        due("p19 can't be", x.least(1), STATE);
        due("p19 had", x.least(2), 30);
        due("p19 empty", x.least(4), 50);
        due("p19 can't be, and more than 10", x.least(5), STATE);
        due("p19 strip 6", x.least(6), BEYOND);
        due("p19 strip -1", x.least(-1), BEYOND);
        x.offer(13, 99999);
        due("p19 10 aren't ours", x.least(0) > 0 ? 1 : 0, 1);
    }

    private static void p20Order() {
        AcreBuys x = chain(14, 10);
        x.strip(1023, 0);
        x.strip(2047, 0);
        x.strip(1, 0);
        for (int i = 0; i < 10; i++) {
            due("p20 the i-th " + i, x.order(0, i), 9 - i);
            due("p20 of 11 " + i, x.order(1, i), SIZE);
            due("p20 of 1 " + i, x.order(2, i), i == 0 ? 0 : NONE);
        }
        for (int strip = 0; strip < 3; strip++) {
            due("p20 i -1", x.order(strip, -1), BEYOND);
            due("p20 i 10", x.order(strip, 10), BEYOND);
        }
        due("p20 strip 3", x.order(3, 0), BEYOND);
        due("p20 strip -1", x.order(-1, 0), BEYOND);
        x.offer(10, 10);
        due("p20 10 of 11: 9 is told already", x.order(1, 9), 0);
        x.offer(9, 10);
        due("p20 nine: the last", x.order(0, 8), 0);
        due("p20 nine: no tenth", x.order(0, 9), NONE);
        lose(x, 1);
        due("p20 can't be", x.order(2, 0), STATE);
        due("p20 can't be, no such i", x.order(2, 9), STATE);
    }

    private static void p21Best() {
        due("p21 no strips", new AcreBuys().best(), NONE);
        AcreBuys x = many(14, 10);
        x.strip(2047, 0);
        due("p21 11 fields", x.best(), NONE);
        x.strip(1023, 9999);
        due("p21 the only one that has it", x.best(), 1);
        x.strip(3, 10);
        x.strip(4, 20);
        x.strip(0, 30);
        due("p21 of several the least", x.best(), 2);
        x.strip(8, 19);
        due("p21 one less, the last strip", x.best(), 5);
        lose(x, 1);
        due("p21 those that can be", x.best(), 5);
        x.offer(1, 99999);
        x.offer(2, 99999);
        due("p21 had for its round", x.best(), 3);
        x.offer(3, 99999);
        due("p21 had for less", x.best(), 5);
        lose(x, 11);
        due("p21 those that are had", x.best(), 5);
        AcreBuys zero = owners(10, 10, 11);
        zero.strip(1, 0);
        due("p21 the only one", zero.best(), 0);
        zero.strip(2, 0);
        due("p21 strip 0 of two alike", zero.best(), 0);
        zero.strip(4, 0);
        due("p21 strip 0 still", zero.best(), 0);
        zero.strip(0, 9);
        due("p21 one less", zero.best(), 3);
        AcreBuys nothing = new AcreBuys();
        nothing.strip(0, 0);
        nothing.strip(0, 0);
        due("p21 for nothing", nothing.best(), 0);
    }

    private static void p22Last() {
        AcreBuys x = World.full();
        for (int what = 0; what <= 1; what++) {
            due("p22 can't be", x.last(1, what), STATE);
            due("p22 had", x.last(2, what), NONE);
            due("p22 empty", x.last(4, what), NONE);
            due("p22 strip 6", x.last(6, what), BEYOND);
            due("p22 strip -1", x.last(-1, what), BEYOND);
        }
        due("p22 what 2", x.last(0, 2), BEYOND);
        due("p22 what -1", x.last(0, -1), BEYOND);
        due("p22 can't be, no such what", x.last(1, 2), BEYOND);
        AcreBuys y = many(14, 10);
        y.set(13, 1, 11);
        y.strip(16383, 0);
        due("p22 the last field", y.last(0, 1), 13);
        due("p22 its price", y.last(0, 0), 11);
    }

    private static void p23GiveUp() {
        AcreBuys x = new AcreBuys();
        due("p23 no strips", x.giveUp(9999999), 1);
        due("p23 gain -1", x.giveUp(-1), BEYOND);
        due("p23 gain 10000000", x.giveUp(10000000), BEYOND);
        due("p23 gain 0", x.giveUp(0), 1);
        AcreBuys y = many(11, 1);
        y.strip(2047, 0);
        due("p23 11 fields", y.giveUp(9999999), 1);
        y.offer(4, 1);
        due("p23 10 fields", y.giveUp(10), 0);
        due("p23 one too little for 10", y.giveUp(9), 1);
        for (int i = 0; i < 5; i++) {
            y.strip(1, i == 4 ? 7 : 9999);
        }
        due("p23 by the sixth strip", y.giveUp(8), 0);
        due("p23 not by it", y.giveUp(7), 1);
    }

    private static void p24Rights() {
        AcreBuys x = World.full();
        due("p24 had", x.rights(2), 30);
        due("p24 empty", x.rights(4), 50);
        due("p24 can't be", x.rights(1), STATE);
        due("p24 strip 6", x.rights(6), BEYOND);
        due("p24 strip -1", x.rights(-1), BEYOND);
        AcreBuys y = new AcreBuys();
        for (int f = 0; f < 14; f++) {
            y.field(LORD, 9999);
            y.set(f, 2, 9);
        }
        y.strip(16383, 9999);
        due("p24 the dearest", y.rights(0), 14 * (4349 + 43495) + 9999);
    }

    private static void p25Share() {
        AcreBuys x = World.full();
        due("p25 the worths of those that are free", x.share(3, 121 + 128, 3), 121);
        due("p25 one less", x.share(3, 121 + 128 - 1, 3), NONE);
        due("p25 ours", x.share(3, 500, 0), STATE);
        due("p25 lost", x.share(1, 500, 2), STATE);
        due("p25 another one", x.share(3, 500, 5), STATE);
        due("p25 a strip that can't be", x.share(1, 121, 3), 121);
        due("p25 gain -1", x.share(3, -1, 3), BEYOND);
        due("p25 gain 10000000", x.share(3, 10000000, 3), BEYOND);
        due("p25 gain 0", x.share(3, 0, 3), NONE);
        due("p25 field 14", x.share(3, 500, 14), BEYOND);
        due("p25 field -1", x.share(3, 500, -1), BEYOND);
        due("p25 strip 6", x.share(6, 500, 3), BEYOND);
        due("p25 strip -1", x.share(-1, 500, 3), BEYOND);
        due("p25 no such gain, not free", x.share(3, -1, 0), BEYOND);
        due("p25 too little, not free", x.share(3, 0, 0), STATE);
    }

    private static void p26Common() {
        AcreBuys x = many(14, 10);
        due("p26 no strips", x.common(), NONE);
        x.strip(16383, 0);
        due("p26 all", x.common(), 16383);
        x.strip(1 << 13 | 1, 0);
        due("p26 the first and the last", x.common(), 1 << 13 | 1);
        x.strip(1 << 13, 0);
        due("p26 the last", x.common(), 1 << 13);
        x.strip(1, 0);
        due("p26 they share none", x.common(), 0);
        lose(x, 1);
        due("p26 one can be", x.common(), 1 << 13);
        x.offer(13, 10);
        due("p26 though it is had", x.common(), 1 << 13);
        AcreBuys y = owners(10);
        y.strip(1, 0);
        lose(y, 1);
        due("p26 none can be", y.common(), NONE);
        y.strip(0, 0);
        due("p26 the empty one can be", y.common(), 0);
    }

    private static void p27First() {
        AcreBuys x = owners(10, 10, 10, 1);
        x.strip(0, 0);
        x.strip(1, 0);
        x.strip(7, 0);
        due("p27 of no field", x.first(0), NONE);
        due("p27 of one", x.first(1), 0);
        due("p27 of several the least", x.first(2), 0);
        x.set(0, 3, 2);
        due("p27 who makes one ask more isn't it", x.first(2), 1);
        x.set(1, 3, 1);
        due("p27 nor the next", x.first(2), 2);
        x.set(2, 3, 3);
        due("p27 who makes two ask more", x.first(2), 0);
        due("p27 strip 3", x.first(3), BEYOND);
        due("p27 strip -1", x.first(-1), BEYOND);
        x.offer(0, 99999);
        due("p27 the one is ours", x.first(1), NONE);
        due("p27 of the two that are left", x.first(2), 1);
        AcreBuys y = owners(10, 9, 8);
        y.strip(7, 0);
        due("p27 without the dear one the others ask least", y.first(0), 0);
        lose(y, 1);
        due("p27 one is lost", y.first(0), 0);
        lose(y, 2);
        due("p27 all are lost", y.first(0), NONE);
        AcreBuys beside = owners(10, 10, 10);
        beside.strip(3, 0);
        beside.set(0, 3, 4);
        due("p27 others of the strip alone", beside.first(0), 0);
        beside.set(2, 3, 2);
        beside.offer(2, 10);
        due("p27 ours tell, too", beside.first(0), 1);
    }

    private static void p28Feed() {
        AcreBuys x = new AcreBuys();
        due("p28 n 0", x.feed(0, 0), BEYOND);
        due("p28 n 5", x.feed(0, 5), BEYOND);
        due("p28 n -1", x.feed(0, -1), BEYOND);
        due("p28 4 of them", x.feed('z' << 24 | 'e' << 16 | 'a' << 8 | 'l', 4), 4);
        due("p28 3 of them", x.feed(0xff202020, 3), 7);
        due("p28 2 of them", x.feed(0xffff2020, 2), 9);
        due("p28 1 of them", x.feed(-256 | '9', 1), 10);
        due("p28 the highest first", x.plan(), 1);
        due("p28 told", x.rule(0, 0), 9);
        due("p28 a negative number", x.feed(-1, 4), 4);
        due("p28 its byte begins no token", x.plan(), -1);
        for (int n = 1; n <= 4; n++) {
            AcreBuys y = new AcreBuys();
            int had = 0;
            while (had + n <= 120) {
                had += n;
                due("p28 n " + n, y.feed(0, n), had);
            }
            due("p28 120 are all, by " + n, y.feed(0, n), FULL);
            due("p28 they stay, by " + n, y.count(3), 120);
        }
        AcreBuys z = new AcreBuys();
        for (int i = 0; i < 39; i++) {
            z.feed(0, 3);
        }
        due("p28 117 and 4", z.feed(0, 4), FULL);
        due("p28 117 and 3", z.feed(0, 3), 120);
        due("p28 120 and 5", z.feed(0, 5), BEYOND);
        due("p28 wiped", z.wipe(), 120);
        due("p28 again", z.feed(0, 4), 4);
    }

    private static void p29Wipe() {
        due("p29 empty", new AcreBuys().wipe(), 0);
        World.changes(World::full, "p29", x -> x.wipe(), 117, "count(3)=0");
        AcreBuys x = World.full();
        x.feed(0, 3);
        due("p29 120", x.wipe(), 120);
        due("p29 empty then", x.wipe(), 0);
        due("p29 nothing to plan", x.plan(), -1);
        Check.type(x, "calm 5");
        due("p29 nothing is left over", x.plan(), 1);
    }

    private static void p30Plan() {
        Supplier<AcreBuys> typed = () -> {
            AcreBuys x = owners(10);
            Check.type(x, "keen 7 wary 2 tells 0;strip 1 round 9;calm 3");
            return x;
        };
        World.changes(typed, "p30", x -> x.plan(), 3, "count(3)=0", "count(0)=2", "count(1)=1", "count(5)=2",
            "stands(4)=2", "of(1, 0)=1", "of(1, 1)=7", "of(1, 2)=2", "of(1, 3)=1", "of(1, 4)=0", "of(1, 5)=8",
            "of(1, 6)=0", "of(1, 7)=2", "paperOf(1, 0)=" + NONE, "paperOf(1, 1)=" + NONE, "stripOf(0, 0)=2",
            "stripOf(0, 1)=9", "stripOf(0, 2)=0", "stripOf(0, 3)=1", "stripOf(0, 4)=2", "rule(1)=3");
        AcreBuys x = typed.get();
        x.image();
        due("p30 one", x.plan(), 3);
        due("p30 it is empty then", x.plan(), -1);
        due("p30 an image isn't touched", x.undo(), 1);
        Check.type(x, "keen 0");
        due("p30 a fault", x.plan(), -6);
        due("p30 it is empty then, too", x.plan(), -1);
        due("p30 an image stays", x.tear(), 1);
        due("p30 no findings", x.status(-1), 0);
    }

    private static void p31Sheet() {
        AcreBuys x = new AcreBuys();
        for (int bits : new int[] {8, 16, 64}) {
            for (int s = 0; s <= 3; s++) {
                due("p31 0 numbers", x.sheet(s, bits, 0), 0);
                due("p31 not missing", x.cost(s), 0);
                due("p31 no number 0", x.write(s, 0, 1), BEYOND);
                due("p31 1 number", x.sheet(s, bits, 1), 1);
                due("p31 no number 1", x.write(s, 1, 1), BEYOND);
                due("p31 40 numbers", x.sheet(s, bits, 40), 40);
                due("p31 number 39", x.write(s, 39, 100), 0);
                due("p31 41 numbers", x.sheet(s, bits, 41), BEYOND);
                due("p31 -1 numbers", x.sheet(s, bits, -1), SIZE);
                due("p31 it stays", x.write(s, 39, 100), 100);
                due("p31 anew", x.sheet(s, bits, 40), 40);
                due("p31 all 0", x.write(s, 39, 100), 0);
                due("p31 missing", x.sheet(s, 0, 40), 0);
                due("p31 it is", x.write(s, 39, 100), MISSING);
                due("p31 bits 0, 0 numbers", x.sheet(s, 0, 0), 0);
                due("p31 bits 0, -1 numbers", x.sheet(s, 0, -1), SIZE);
                due("p31 bits 0, 41 numbers", x.sheet(s, 0, 41), BEYOND);
            }
        }
        due("p31 sheet 4", x.sheet(4, 8, 1), BEYOND);
        due("p31 sheet -1", x.sheet(-1, 8, 1), BEYOND);
        due("p31 no such sheet ahead of size", x.sheet(4, 8, -1), BEYOND);
        due("p31 no such bits ahead of size", x.sheet(0, 1, -1), BEYOND);
        x.sheet(0, 8, 2);
        x.write(0, 1, 5);
        x.sheet(1, 8, 40);
        due("p31 others stay", x.write(0, 1, 5), 5);
    }

    private static void p32Write() {
        AcreBuys x = new AcreBuys();
        x.sheet(0, 8, 2);
        x.sheet(1, 16, 2);
        x.sheet(2, 64, 2);
        long[] told = {127, 128, 255, 256, 383, 384, -1, -128, -129, 32767, 32768, 65535, 65536, 1L << 31, 1L << 32,
            1L << 63, Long.MAX_VALUE, Long.MIN_VALUE, 0};
        for (long v : told) {
            for (int s = 0; s <= 2; s++) {
                x.write(s, 1, v);
            }
            due("p32 8 lowest bits of " + v, x.write(0, 1, 0), (byte) v);
            due("p32 16 lowest bits of " + v, x.write(1, 1, 0), (short) v);
            due("p32 64 lowest bits of " + v, x.write(2, 1, 0), v);
            for (int s = 0; s <= 2; s++) {
                due("p32 the other number stays " + v, x.write(s, 0, 0), 0);
            }
        }
        due("p32 number -1", x.write(0, -1, 0), BEYOND);
        due("p32 number 2", x.write(0, 2, 0), BEYOND);
        due("p32 missing", x.write(3, 0, 0), MISSING);
        due("p32 missing, no such number", x.write(3, 40, 0), MISSING);
        due("p32 sheet 4", x.write(4, 0, 0), BEYOND);
        due("p32 sheet -1", x.write(-1, 0, 0), BEYOND);
        x.write(2, 0, MISSING);
        due("p32 a number like a finding is none", x.write(2, 0, 0), MISSING);
        due("p32 status", x.status(5), 2);
    }

    private static AcreBuys oneToFive() {
        AcreBuys x = new AcreBuys();
        x.sheet(0, 16, 5);
        x.sheet(1, 16, 7);
        for (int i = 0; i < 5; i++) {
            x.write(0, i, i + 1);
        }
        return x;
    }

    private static void holds(String what, AcreBuys x, int s, int... want) {
        for (int i = 0; i < want.length; i++) {
            due(what + " at " + i, x.write(s, i, 0), want[i]);
        }
        due(what + ": no more", x.write(s, want.length, 0), BEYOND);
    }

    private static void p33Copy() {
        AcreBuys x = oneToFive();
        due("p33 all", x.copy(0, 0, 1, 2, 5), 5);
        holds("p33 to the end", x, 1, 0, 0, 1, 2, 3, 4, 5);
        holds("p33 they stay", x, 0, 1, 2, 3, 4, 5);
        AcreBuys up = oneToFive();
        due("p33 upwards", up.copy(0, 0, 0, 2, 3), 3);
        holds("p33 upwards, as they were", up, 0, 1, 2, 1, 2, 3);
        AcreBuys down = oneToFive();
        due("p33 downwards", down.copy(0, 2, 0, 0, 3), 3);
        holds("p33 downwards, as they were", down, 0, 3, 4, 5, 4, 5);
        AcreBuys same = oneToFive();
        due("p33 onto itself", same.copy(0, 0, 0, 0, 5), 5);
        holds("p33 onto itself", same, 0, 1, 2, 3, 4, 5);
        AcreBuys none = oneToFive();
        due("p33 none from the end to the end", none.copy(0, 5, 1, 7, 0), 0);
        due("p33 none from behind the end", none.copy(0, 6, 1, 7, 0), BEYOND);
        due("p33 none to behind the end", none.copy(0, 5, 1, 8, 0), BEYOND);
        due("p33 one too many", none.copy(0, 1, 1, 0, 5), BEYOND);
        due("p33 one too many there", none.copy(0, 0, 1, 3, 5), BEYOND);
        due("p33 from -1", none.copy(0, -1, 1, 0, 1), BEYOND);
        due("p33 to -1", none.copy(0, 0, 1, -1, 1), BEYOND);
        due("p33 n -1", none.copy(0, 1, 1, 1, -1), BEYOND);
        due("p33 a sum that goes round", none.copy(0, MAX, 1, 0, MAX), BEYOND);
        due("p33 a sum that goes round there", none.copy(0, 0, 1, MAX, 1), BEYOND);
        due("p33 a sum that goes round to 0", none.copy(0, MIN, 1, MIN, MIN), BEYOND);
        none.sheet(2, 8, 5);
        none.sheet(3, 64, 0);
        due("p33 8 and 16", none.copy(0, 0, 2, 0, 1), KIND);
        due("p33 none of 64 and 16", none.copy(3, 0, 0, 0, 0), KIND);
        due("p33 none of an empty one", none.copy(3, 0, 3, 0, 0), 0);
        none.sheet(3, 0, 0);
        due("p33 from a missing one", none.copy(3, 0, 0, 0, 0), MISSING);
        due("p33 to a missing one", none.copy(0, 0, 3, 0, 0), MISSING);
        due("p33 sheet 4", none.copy(0, 0, 4, 0, 0), BEYOND);
        due("p33 sheet -1", none.copy(-1, 0, 0, 0, 0), BEYOND);
        for (int bits : new int[] {8, 16, 64}) {
            AcreBuys great = new AcreBuys();
            great.sheet(0, bits, 40);
            great.sheet(1, bits, 40);
            great.write(0, 0, -5);
            great.write(0, 39, 6);
            due("p33 forty", great.copy(0, 0, 1, 0, 40), 40);
            due("p33 the first", great.write(1, 0, 0), -5);
            due("p33 the fortieth", great.write(1, 39, 0), 6);
        }
    }

    private static void p34Cost() {
        AcreBuys x = many(14, 10);
        lay(x, 8);
        due("p34 none", x.cost(0), 0);
        lay(x, 8, 0);
        due("p34 the first field", x.cost(0), 10);
        lay(x, 8, -1);
        due("p34 -1", x.cost(0), KIND);
        lay(x, 16, 13);
        due("p34 the last field", x.cost(0), 10);
        lay(x, 16, 14);
        due("p34 14", x.cost(0), KIND);
        lay(x, 8, 0, 1, 2, 3, 4, 5, 6, 7, 8, 9, 10, 11, 12, 13);
        due("p34 all", x.cost(0), 140);
        lay(x, 8, 0, 1, 2, 3, 4, 5, 6, 7, 8, 9, 10, 11, 12, 13, 0);
        due("p34 the first twice", x.cost(0), KIND);
        lay(x, 8, 5, 5);
        due("p34 at once twice", x.cost(0), KIND);
        for (long far : new long[] {1L << 32, -1L << 32, 1L << 40 | 3, Long.MIN_VALUE, Long.MAX_VALUE}) {
            lay(x, 64, far);
            due("p34 far beyond " + far, x.cost(0), KIND);
        }
        x.sheet(0, 8, 40);
        due("p34 40 of field 0", x.cost(0), KIND);
        due("p34 missing", x.cost(1), MISSING);
        due("p34 sheet 4", x.cost(4), BEYOND);
        due("p34 sheet -1", x.cost(-1), BEYOND);
        AcreBuys y = new AcreBuys();
        lay(y, 8, 0);
        due("p34 no fields", y.cost(0), KIND);
        AcreBuys lost = owners(10, 20);
        lost.set(0, 3, 2);
        lose(lost, 1);
        lay(lost, 8, 0, 1);
        due("p34 a field that is lost", lost.cost(0), 10 + 22);
    }

    private static void p35Offers() {
        AcreBuys x = owners(10, 20, 5);
        lay(x, 64);
        due("p35 none", x.offers(0), 0);
        lay(x, 64, 0);
        due("p35 not whole", x.offers(0), 0);
        lay(x, 64, 0, 9);
        due("p35 refused", x.offers(0), 0);
        due("p35 wary", x.of(0, 2), 1);
        lay(x, 64, 0, -1, 0, 100000, 0, 1L << 32, -1, 50, 3, 50, 1L << 32, 50, Long.MIN_VALUE, 50, 0, Long.MAX_VALUE);
        due("p35 all are left out", x.offers(0), 0);
        due("p35 no more wary", x.of(0, 2), 1);
        lay(x, 64, 0, 0, 0, 99999, 0, 99999, 0);
        due("p35 the least price, then the greatest", x.offers(0), 1);
        due("p35 ours by then: left out", x.stands(1), 99999);
        due("p35 wary by the least price", x.of(0, 2), 2);
        lay(x, 16, 1, 20, 1);
        due("p35 two of three numbers", x.offers(0), 1);
        lose(x, 1);
        lay(x, 16, 2, 9999);
        due("p35 lost: left out", x.offers(0), 0);
        due("p35 not wary", x.of(2, 2), 0);
        due("p35 no findings", x.status(-1), 0);
        due("p35 missing", x.offers(1), MISSING);
        due("p35 sheet 4", x.offers(4), BEYOND);
        due("p35 sheet -1", x.offers(-1), BEYOND);
        AcreBuys all = many(14, 10);
        all.sheet(3, 8, 40);
        for (int f = 0; f < 14; f++) {
            all.write(3, 12 + 2 * f, f);
            all.write(3, 13 + 2 * f, 16);
        }
        due("p35 20 pairs", all.offers(3), 14);
        due("p35 field 0 was refused six times, then asked 16", all.of(0, 2), 6);
        AcreBuys told = owners(10, 10);
        told.set(0, 3, 2);
        lay(told, 8, 0, 10, 1, 10);
        due("p35 one after the other", told.offers(0), 1);
        Supplier<AcreBuys> two = () -> {
            AcreBuys w = owners(10, 10);
            lay(w, 8, 0, 12, 1, 9);
            return w;
        };
        World.changes(two, "p35", w -> w.offers(0), 1, "of(0, 4)=1", "of(1, 2)=1", "of(1, 5)=11", "of(1, 7)=1",
            "stands(1)=12", "stands(2)=1", "stands(4)=1", "count(5)=1");
    }

    private static void p36Read() {
        AcreBuys x = many(14, 10);
        lay(x, 8);
        due("p36 none", x.read(0), 0);
        lay(x, 8, 10);
        due("p36 one", x.read(0), 0);
        lay(x, 8, 9);
        due("p36 the first isn't right", x.read(0), 1);
        lay(x, 16, 10, 10, 10, 10, 10, 10, 10, 10, 10, 10, 10, 10, 10, 10);
        due("p36 all 14", x.read(0), 0);
        x.write(0, 13, 11);
        due("p36 the last isn't right", x.read(0), 14);
        x.write(0, 6, 9);
        due("p36 the first that isn't", x.read(0), 7);
        lay(x, 64, 10, 10, 10, 10, 10, 10, 10, 10, 10, 10, 10, 10, 10, 10, 0);
        due("p36 the 15th stands for no field", x.read(0), 15);
        x.write(0, 13, 0);
        due("p36 the 14th isn't right", x.read(0), 14);
        lay(x, 64, 10 | 1L << 32);
        due("p36 far beyond", x.read(0), 1);
        x.offer(0, 10);
        lose(x, 1);
        lay(x, 64, 10, 10);
        due("p36 ours and lost ask, too", x.read(0), 0);
        due("p36 missing", x.read(1), MISSING);
        due("p36 sheet 4", x.read(4), BEYOND);
        due("p36 sheet -1", x.read(-1), BEYOND);
        AcreBuys y = new AcreBuys();
        lay(y, 8, 0);
        due("p36 no fields", y.read(0), 1);
        y.sheet(0, 8, 0);
        due("p36 no fields, none told", y.read(0), 0);
        AcreBuys dear = new AcreBuys();
        dear.field(LORD, 9999);
        dear.set(0, 2, 9);
        lay(dear, 64, 43495);
        due("p36 the dearest", dear.read(0), 0);
    }

    private static void p37Image() {
        World.changes(World::full, "p37", x -> x.image(), 1);
        AcreBuys x = new AcreBuys();
        due("p37 of nothing", x.image(), 1);
        x.field(0, 5);
        due("p37 again", x.image(), 1);
        due("p37 the latest", x.undo(), 1);
        due("p37 and no other", x.undo(), 1);
        due("p37 none behind it", x.tear() + x.tear(), 1);
    }

    private static void p38Undo() {
        AcreBuys x = new AcreBuys();
        due("p38 nothing is kept", x.undo(), NONE);
        x.image();
        x.field(0, 5);
        due("p38 no fields", x.undo(), 0);
        due("p38 none there", x.of(0, 0), BEYOND);
        due("p38 it stays", x.undo(), 0);
        AcreBuys y = World.full();
        Supplier<AcreBuys> all = () -> {
            AcreBuys w = World.some();
            w.image();
            spoilAll(w);
            w.undo();
            return w;
        };
        World.changes(World::some, "p38 all comes back", w -> {
            w.image();
            spoilAll(w);
            return w.undo();
        }, 5);
        World.changes(all, "p38 and once more", w -> {
            spoilAll(w);
            return w.undo();
        }, 5);
        World.changes(World::full, "p38 what has changed since", w -> w.undo(), 14,
            "of(13, 1)=191", "of(13, 5)=" + imagePrice(), "count(4)=" + (1103515245 + 12345));
        for (int f = 3; f < 14; f++) {
            y.offer(f, 99999);
        }
        y.rule(1, 0);
        for (int i = 0; i < 50; i++) {
            y.month();
        }
        y.image();
        due("p38 14 fields", y.undo(), 14);
        due("p38 month", y.stands(0), 51);
        due("p38 ours", y.stands(2), 13);
        due("p38 the tape stays", y.count(3), 117);
        due("p38 sheets stay", y.write(2, 0, 0), 1L << 40);
        y.tear();
        due("p38 torn", y.undo(), NONE);
        due("p38 a finding isn't taken back", y.status(3), 1);
    }

    /** Of World.some: changes all that an image keeps, by calls that answer no finding. */
    private static void spoilAll(AcreBuys x) {
        for (int f = 0; f < 5; f++) {
            x.set(f, 1, 500 + f);
            x.set(f, 2, 7);
            x.set(f, 3, 31);
        }
        x.field(LORD, 3);
        x.set(5, 2, 9);
        x.set(5, 3, 63);
        x.strip(63, 77);
        x.claim(1);
        x.paper(0, 1);
        x.paper(2, 77);
        lose(x, 2);
        x.paper(0, 66);
        x.county(0);
        x.offer(2, 99999);
        x.rule(0, 55);
        x.rule(1, 5);
        x.rule(2, 555);
        x.rule(3, 5);
        x.seed(5);
    }

    /** FIELD 13 of the full world, as it was when the image was made: a KEEN one of 191, WARY 1, told by 0. */
    private static int imagePrice() {
        AcreBuys x = World.full();
        x.set(13, 1, 191);
        return x.of(13, 5);
    }

    private static void p39Tear() {
        due("p39 nothing", new AcreBuys().tear(), 0);
        World.changes(World::full, "p39", x -> x.tear(), 1);
        AcreBuys x = World.full();
        x.image();
        x.image();
        due("p39 something", x.tear(), 1);
        due("p39 nothing then", x.tear(), 0);
        due("p39 none to go back to", x.undo(), NONE);
        due("p39 no findings by it", x.status(-1), 1);
        due("p39 anew", x.image(), 1);
        due("p39 something again", x.tear(), 1);
    }

    private static void p40Count() {
        AcreBuys x = World.full();
        due("p40 fields", x.count(0), 14);
        due("p40 strips", x.count(1), 6);
        due("p40 papers", x.count(2), 6);
        due("p40 bytes", x.count(3), 117);
        due("p40 z", x.count(4), 555);
        due("p40 power", x.count(6), 0);
        due("p40 what 7", x.count(7), BEYOND);
        due("p40 what -1", x.count(-1), BEYOND);
        AcreBuys y = many(14, 5);
        for (int f = 0; f < 14; f++) {
            y.set(f, 2, 9);
        }
        due("p40 all wary", y.count(5), 126);
        y.offer(0, 99999);
        lose(y, 1);
        due("p40 all wary, of ours and of the rival's, too", y.count(5), 126);
        for (int v : new int[] {BEYOND, SIZE, MIN, MAX}) {
            y.seed(v);
            due("p40 any number", y.count(4), v);
        }
        y.rule(3, 9);
        due("p40 power 9", y.count(6), 9);
        due("p40 no findings", y.status(-1), 0);
    }

    private static void p41Status() {
        AcreBuys x = many(14, 5);
        x.image();
        int[] want = new int[7];
        for (int i = 1; i <= 3; i++) {
            x.of(14, 0);
            x.field(0, 5);
            x.as(0, 1);
            x.claim(0);
            x.share(0, 5, 5);
            x.read(0);
            x.sheet(0, 8, -1);
            want[0] = 2 * i;
            for (int which = 1; which < 7; which++) {
                want[which] = which == 4 ? 0 : i;
            }
            for (int which = 0; which < 7; which++) {
                due("p41 " + i + " times " + which, x.status(which), want[which]);
            }
            due("p41 all " + i, x.status(-1), 7 * i);
        }
        x.offer(0, 5);
        x.offer(0, 5);
        due("p41 state", x.status(4), 1);
        x.undo();
        due("p41 undo takes none back", x.status(4), 1);
        x.tear();
        x.wipe();
        x.plan();
        due("p41 nor do others", x.status(-1), 22);
        due("p41 which 7", x.status(7), BEYOND);
        due("p41 it is counted from then on", x.status(0), 7);
        due("p41 which -2", x.status(-2), BEYOND);
        due("p41 all of them", x.status(-1), 24);
        AcreBuys y = new AcreBuys();
        for (int i = 0; i < 511; i++) {
            y.best();
        }
        due("p41 511 findings", y.status(-1), 511);
    }

    /** The 512th call is as good as the first. */
    private static void lastOf512Calls() {
        AcreBuys x = chain(10, 10);
        x.strip(1023, 0);
        for (int i = 20; i < 511; i++) {
            x.least(0);
        }
        due("the 512th call", x.order(0, 9), 0);
    }
}
