import java.util.LinkedHashMap;
import java.util.List;
import java.util.Map;
import java.util.function.Function;
import java.util.function.Supplier;
import java.util.function.ToLongFunction;

/**
 * Objects in a known state, and all that can be seen of one. What a call has changed is seen on two objects
 * with the same past, one of which had the call too: so a probe may spoil what it looks at, and no object
 * is used for more than its 512 calls.
 */
final class World {
    private static final List<Function<AcreBuys, Map<String, Long>>> PROBES =
        List.of(World::land, World::sheets, World::planned, World::undone);

    private World() {
    }

    static AcreBuys empty() {
        return new AcreBuys();
    }

    /** 14 FIELDS (0 and 1 are OURS, 2 is LOST), 6 PAPERS, 6 STRIPS, 117 bytes, POWER 0, MONTH 1, an image. */
    static AcreBuys full() {
        AcreBuys x = new AcreBuys();
        for (int f = 0; f < 14; f++) {
            x.field(f % 6, 100 + 7 * f);
            x.set(f, 2, f % 4);
            x.set(f, 3, 1 << (f + 1) % 14 | 1 << (f * 5 + 3) % 14);
        }
        x.set(2, 1, 50);
        x.offer(0, 99999);
        x.offer(1, 99999);
        x.rule(0, 100);
        x.month();
        x.rule(0, 40);
        for (int f = 3; f < 9; f++) {
            x.paper(f, f);
        }
        x.strip(16383 & ~4, 10);
        x.strip(4 | 8, 20);
        x.strip(3, 30);
        x.strip(8 | 16 | 1, 40);
        x.strip(0, 50);
        x.strip(16383, 60);
        x.image();
        x.set(13, 1, 77);
        x.seed(555);
        layPaper(x);
        Check.type(x, "zeal 7;calm 3");
        for (int i = 0; i < 26; i++) {
            x.feed(0x20202020, 4);
        }
        return x;
    }

    /** 5 FIELDS, 2 STRIPS, 1 PAPER, a TAPE that says two FIELDS, POWER 2, no image. */
    static AcreBuys some() {
        AcreBuys x = new AcreBuys();
        for (int f = 0; f < 5; f++) {
            x.field(5 - f, 40 + 10 * f);
        }
        x.set(0, 3, 6);
        x.set(3, 3, 17);
        x.set(1, 2, 4);
        x.rule(3, 2);
        x.offer(3, 500);
        x.paper(1, 3);
        x.strip(7, 10);
        x.strip(24, 20);
        x.seed(-12345);
        layPaper(x);
        Check.type(x, "lord 9 tells 1;keen 8");
        return x;
    }

    /** As some, but the MONTH is 99. */
    static AcreBuys late() {
        AcreBuys x = some();
        for (int i = 0; i < 99; i++) {
            x.month();
        }
        return x;
    }

    /** Sheet 0 has 8 bits, 1 has 16, 2 has 64; 3 is MISSING. */
    private static void layPaper(AcreBuys x) {
        x.sheet(0, 8, 4);
        x.sheet(1, 16, 3);
        x.sheet(2, 64, 5);
        for (int i = 0; i < 3; i++) {
            x.write(0, i, 10 + i);
            x.write(1, i, 1000 + i);
            x.write(2, i, 1L << 40 | i);
        }
    }

    /** What sections 1 and 2 tell, THE TAPE's length, and what hangs on it. */
    static Map<String, Long> land(AcreBuys x) {
        Map<String, Long> seen = new LinkedHashMap<>();
        for (int what = 0; what <= 6; what++) {
            seen.put("count(" + what + ")", (long) x.count(what));
        }
        for (int what = 0; what <= 4; what++) {
            seen.put("stands(" + what + ")", x.stands(what));
        }
        for (int f = 0; f < 14; f++) {
            for (int what = 0; what <= 7; what++) {
                seen.put("of(" + f + ", " + what + ")", (long) x.of(f, what));
            }
            seen.put("paperOf(" + f + ", 0)", (long) x.paperOf(f, 0));
            seen.put("paperOf(" + f + ", 1)", (long) x.paperOf(f, 1));
        }
        for (int strip = 0; strip < 6; strip++) {
            for (int what = 0; what <= 4; what++) {
                seen.put("stripOf(" + strip + ", " + what + ")", (long) x.stripOf(strip, what));
            }
        }
        for (int what = 0; what <= 3; what++) {
            seen.put("rule(" + what + ")", (long) x.rule(what, 0));
        }
        return seen;
    }

    static Map<String, Long> sheets(AcreBuys x) {
        Map<String, Long> seen = new LinkedHashMap<>();
        for (int s = 0; s < 4; s++) {
            for (int i = 0; i < 40; i++) {
                seen.put("number " + i + " of sheet " + s, x.write(s, i, 0x123456789abcdefL));
            }
            seen.put("bits of sheet " + s, x.write(s, 0, 0));
        }
        return seen;
    }

    private static Map<String, Long> planned(AcreBuys x) {
        long answer = x.plan();
        Map<String, Long> seen = land(x);
        seen.put("plan()", answer);
        return seen;
    }

    private static Map<String, Long> undone(AcreBuys x) {
        long answer = x.undo();
        Map<String, Long> seen = land(x);
        seen.put("undo()", answer);
        return seen;
    }

    /** A call answers a finding, that is counted once, and nothing else changes. */
    static void refused(Supplier<AcreBuys> world, String name, ToLongFunction<AcreBuys> call, int finding) {
        AcreBuys x = world.get();
        long[] before = statuses(x);
        Check.due(name, call.applyAsLong(x), finding);
        before[0]++;
        before[-1000000000 - finding]++;
        sameStatuses(name, statuses(x), before);
        sameElsewhere(world, name, call);
    }

    /** A call has its answer, and nothing changes. */
    static void asked(Supplier<AcreBuys> world, String name, ToLongFunction<AcreBuys> call, long want) {
        AcreBuys x = world.get();
        long[] before = statuses(x);
        Check.due(name, call.applyAsLong(x), want);
        sameStatuses(name, statuses(x), before);
        sameElsewhere(world, name, call);
    }

    /** A call has its answer, and changes of the land what is told ("of(0, 2)=1"), and nothing else. */
    static void changes(Supplier<AcreBuys> world, String name, ToLongFunction<AcreBuys> call, long want,
            String... told) {
        AcreBuys x = world.get();
        long[] before = statuses(x);
        Check.due(name, call.applyAsLong(x), want);
        sameStatuses(name, statuses(x), before);
        Map<String, Long> due = land(world.get());
        for (String one : told) {
            int at = one.indexOf('=');
            Check.isTrue(name + ": " + one + " is no news", due.get(one.substring(0, at)) != null);
            due.put(one.substring(0, at), Long.valueOf(one.substring(at + 1)));
        }
        same(name, land(x), due);
        same(name, after(world, call, World::sheets), sheets(world.get()));
    }

    /** How many findings of each kind: all, BEYOND, .. SIZE. */
    private static long[] statuses(AcreBuys x) {
        long[] row = new long[8];
        for (int which = -1; which <= 6; which++) {
            row[which + 1] = x.status(which);
        }
        return row;
    }

    private static void sameStatuses(String name, long[] got, long[] want) {
        for (int which = -1; which <= 6; which++) {
            Check.due(name + ", then status(" + which + ")", got[which + 1], want[which + 1]);
        }
    }

    private static void sameElsewhere(Supplier<AcreBuys> world, String name, ToLongFunction<AcreBuys> call) {
        for (Function<AcreBuys, Map<String, Long>> probe : PROBES) {
            same(name, after(world, call, probe), probe.apply(world.get()));
        }
    }

    private static Map<String, Long> after(Supplier<AcreBuys> world, ToLongFunction<AcreBuys> call,
            Function<AcreBuys, Map<String, Long>> probe) {
        AcreBuys x = world.get();
        call.applyAsLong(x);
        return probe.apply(x);
    }

    private static void same(String name, Map<String, Long> got, Map<String, Long> want) {
        for (String label : want.keySet()) {
            Check.due(name + ", then " + label, got.get(label), want.get(label));
        }
    }
}
