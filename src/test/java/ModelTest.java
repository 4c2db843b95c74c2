import java.util.ArrayList;
import java.util.List;
import java.util.Random;
import java.util.TreeSet;

/**
 * Drives the class and a slow model of the document side by side, with runs of calls by fixed seeds.
 * The model is written another way on purpose: owners as classes, sets as sets, all orders tried one by one.
 */
public final class ModelTest {
    private static final int OBJECTS = 600;
    private static final int CALLS = 512;

    private final Random dice;
    private final AcreBuys x = new AcreBuys();
    private final Model model = new Model();
    private final String name;

    private ModelTest(int seed) {
        dice = new Random(seed);
        name = "object " + seed;
    }

    public static void main(String[] args) {
        for (int seed = 0; seed < OBJECTS; seed++) {
            new ModelTest(seed).drive();
        }
        Check.end();
    }

    private int below(int n) {
        return dice.nextInt(n);
    }

    private boolean rarely() {
        return below(25) == 0;
    }

    private int wild() {
        int[] some = {Integer.MIN_VALUE, Integer.MAX_VALUE, -1, 0, 14, 100, 10000, 1 << 14, 32, 31};
        return below(3) == 0 ? dice.nextInt() : some[below(some.length)];
    }

    private int pick(int n) {
        return rarely() ? wild() : below(n);
    }

    private int someField() {
        int there = Math.max(1, model.now.fields.size());
        return rarely() ? wild() : below(8) == 0 ? below(15) : below(there);
    }

    private int someStrip() {
        int there = Math.max(1, model.now.strips.size());
        return rarely() ? wild() : below(8) == 0 ? below(7) : below(there);
    }

    /** Mostly FIELDS that there are, at most eight of these, so that trying all orders ends. */
    private int someSet() {
        if (rarely()) {
            return wild();
        }
        int set = below(1 << Math.max(1, model.now.fields.size()));
        boolean few = below(12) != 0;
        for (int i = 0; few && Integer.bitCount(set) > 7; i++) {
            set &= ~(1 << i);
        }
        return set;
    }

    private int somePrice(int field) {
        if (rarely()) {
            return wild();
        }
        if (field < 0 || field >= model.now.fields.size()) {
            return below(100);
        }
        return model.now.fields.get(field).asksNow() + below(4) - 2;
    }

    private String someText() {
        String[] words = {"owner", "keen", "stubborn", "talker", "lord", "brother", "wary", "tells", "strip", "round",
            "zeal", "calm", "law", "power", ";", " ", "x", "#", "ownerx", "00003"};
        StringBuilder text = new StringBuilder();
        int items = 1 + below(4);
        for (int i = 0; i < items; i++) {
            text.append(i == 0 ? "" : below(2) == 0 ? ";" : " ; ");
            int shape = below(10);
            if (shape < 5) {
                text.append(words[below(6)]).append(' ').append(below(12) == 0 ? below(20000) : 1 + below(300));
                text.append(below(3) == 0 ? " wary " + below(11) : "");
                for (int k = below(4); k > 0 && below(2) == 0; k--) {
                    text.append(text.indexOf("tells", text.lastIndexOf(";") + 1) < 0 ? " tells " : " ").append(below(15));
                }
            } else if (shape < 8) {
                text.append("strip ").append(below(6)).append(' ').append(below(8));
                text.append(below(2) == 0 ? "round" + below(10500) : "");
            } else {
                text.append(words[10 + below(4)]).append(below(2) == 0 ? below(11) : below(1010));
            }
        }
        while (below(5) == 0) {
            text.insert(below(text.length() + 1), words[below(words.length)]);
        }
        return text.length() > 130 ? text.substring(0, 130) : text.toString();
    }

    private void due(String call, long got, long want) {
        Check.due(name + ": " + call, got, want);
    }

    private void drive() {
        int start = below(10);
        for (int i = 0; i < start; i++) {
            int kind = below(6);
            int worth = 1 + below(below(2) == 0 ? 20 : 9999);
            due("field", x.field(kind, worth), model.field(kind, worth));
            int tells = below(1 << 14);
            due("set", x.set(i, 3, tells), model.set(i, 3, tells));
        }
        for (int i = start * 2; i < CALLS; i++) {
            int way = below(100);
            if (way < 30) {
                callFields();
            } else if (way < 55) {
                callBuying();
            } else if (way < 75) {
                callStrips();
            } else if (way < 80) {
                i += callText();
            } else if (way < 92) {
                callSheets();
            } else {
                callImages();
            }
        }
    }

    private void callFields() {
        int f = someField();
        int v;
        switch (below(8)) {
            case 0:
                int kind = pick(6);
                v = rarely() ? wild() : 1 + below(50);
                due("field(" + kind + ", " + v + ")", x.field(kind, v), model.field(kind, v));
                break;
            case 1:
            case 2:
            case 3:
                v = pick(8);
                due("of(" + f + ", " + v + ")", x.of(f, v), model.of(f, v));
                break;
            case 4:
                int what = 1 + pick(3);
                v = rarely() ? wild() : what == 3 ? below(1 << 14) : 1 + below(what == 1 ? 9999 : 9);
                due("set(" + f + ", " + what + ", " + v + ")", x.set(f, what, v), model.set(f, what, v));
                break;
            case 5:
                v = pick(6);
                due("as(" + f + ", " + v + ")", x.as(f, v), model.as(f, v));
                break;
            case 6:
                v = rarely() ? wild() : below(1 << 14);
                due("asks(" + f + ", " + v + ")", x.asks(f, v), model.asks(f, v));
                break;
            default:
                int rule = pick(4);
                v = rarely() ? wild() : rule == 0 ? below(60) : rule == 2 ? below(1000) : below(10);
                due("rule(" + rule + ", " + v + ")", x.rule(rule, v), model.rule(rule, v));
        }
    }

    private void callBuying() {
        int f = someField();
        int v;
        switch (below(10)) {
            case 0:
            case 1:
                v = somePrice(f);
                due("offer(" + f + ", " + v + ")", x.offer(f, v), model.offer(f, v));
                break;
            case 2:
            case 3:
                v = rarely() ? wild() : model.now.month + below(6);
                due("paper(" + f + ", " + v + ")", x.paper(f, v), model.paper(f, v));
                break;
            case 4:
                v = pick(2);
                due("paperOf(" + f + ", " + v + ")", x.paperOf(f, v), model.paperOf(f, v));
                break;
            case 5:
                due("claim(" + f + ")", x.claim(f), model.claim(f));
                break;
            case 6:
                due("county(" + f + ")", x.county(f), model.county(f));
                break;
            case 7:
                due("month()", x.month(), model.month());
                break;
            case 8:
                v = below(4) == 0 ? wild() : 0;
                if (v != 0) {
                    due("seed(" + v + ")", x.seed(v), model.seed(v));
                }
                break;
            default:
                v = pick(5);
                due("stands(" + v + ")", x.stands(v), model.stands(v));
        }
    }

    private void callStrips() {
        int s = someStrip();
        int v;
        switch (below(13)) {
            case 0:
                int set = someSet();
                v = rarely() ? wild() : below(200);
                due("strip(" + set + ", " + v + ")", x.strip(set, v), model.strip(set, v));
                break;
            case 1:
                v = pick(5);
                due("stripOf(" + s + ", " + v + ")", x.stripOf(s, v), model.stripOf(s, v));
                break;
            case 2:
                due("had()", x.had(), model.had());
                break;
            case 3:
                due("least(" + s + ")", x.least(s), model.least(s));
                break;
            case 4:
            case 5:
                v = pick(10);
                due("order(" + s + ", " + v + ")", x.order(s, v), model.order(s, v));
                break;
            case 6:
                due("best()", x.best(), model.best());
                break;
            case 7:
                v = pick(2);
                due("last(" + s + ", " + v + ")", x.last(s, v), model.last(s, v));
                break;
            case 8:
                v = rarely() ? wild() : below(2) == 0 ? below(40000) : below(500);
                due("giveUp(" + v + ")", x.giveUp(v), model.giveUp(v));
                break;
            case 9:
                due("rights(" + s + ")", x.rights(s), model.rights(s));
                break;
            case 10:
                int f = someField();
                v = rarely() ? wild() : below(200000);
                due("share(" + s + ", " + v + ", " + f + ")", x.share(s, v, f), model.share(s, v, f));
                break;
            case 11:
                due("common()", x.common(), model.common());
                break;
            default:
                due("first(" + s + ")", x.first(s), model.first(s));
        }
    }

    private int callText() {
        int calls = 1;
        if (below(4) == 0) {
            due("wipe()", x.wipe(), model.wipe());
        }
        String text = someText();
        int at = 0;
        while (at < text.length()) {
            int n = Math.min(4, text.length() - at);
            int bytes = dice.nextInt();
            for (int i = 0; i < n; i++) {
                bytes = bytes << 8 | text.charAt(at + i);
            }
            due("feed", x.feed(bytes, n), model.feed(bytes, n));
            at += n;
            calls++;
        }
        if (rarely()) {
            int n = wild();
            due("feed(0, " + n + ")", x.feed(0, n), model.feed(0, n));
        }
        if (below(10) != 0) {
            due("plan() of '" + text + "'", x.plan(), model.plan());
        }
        return calls;
    }

    private void callSheets() {
        int s = pick(4);
        int v;
        switch (below(9)) {
            case 0:
                int bits = below(8) == 0 ? wild() : new int[] {8, 16, 64, 64, 64, 0}[below(6)];
                v = rarely() ? wild() : below(12);
                due("sheet(" + s + ", " + bits + ", " + v + ")", x.sheet(s, bits, v), model.sheet(s, bits, v));
                break;
            case 1:
                int i = pick(12);
                long w = rarely() ? dice.nextLong() : below(300);
                due("write(" + s + ", " + i + ", " + w + ")", x.write(s, i, w), model.write(s, i, w));
                break;
            case 2:
                int t = pick(4);
                int from = pick(5);
                int to = pick(5);
                int n = pick(5);
                due("copy(" + s + ", " + from + ", " + t + ", " + to + ", " + n + ")",
                    x.copy(s, from, t, to, n), model.copy(s, from, t, to, n));
                break;
            case 3:
                fill(s, 1);
                due("cost(" + s + ")", x.cost(s), model.cost(s));
                break;
            case 4:
                due("cost(" + s + ")", x.cost(s), model.cost(s));
                break;
            case 5:
                if (below(3) == 0) {
                    fill(s, 2);
                }
                due("offers(" + s + ")", x.offers(s), model.offers(s));
                break;
            case 6:
                fill(s, 3);
                due("read(" + s + ")", x.read(s), model.read(s));
                break;
            default:
                due("read(" + s + ")", x.read(s), model.read(s));
        }
    }

    /** A sheet gets a row that makes sense: 1 of FIELDS, 2 of OFFERS, 3 of what FIELDS ASK. */
    private void fill(int s, int how) {
        int there = model.now.fields.size();
        int n = how == 2 ? below(6) : below(there + 2);
        int bits = how == 1 ? 8 : 64;
        due("sheet", x.sheet(s, bits, n), model.sheet(s, bits, n));
        int shift = below(14);
        for (int i = 0; i < n; i++) {
            int f = (i + shift) % Math.max(1, there);
            long v = how == 1 ? f : how == 2 ? (i % 2 == 0 ? someField() : below(12000))
                : i < there ? model.now.fields.get(i).asksNow() + (rarely() ? 1 : 0) : 0;
            due("write", x.write(s, i, v), model.write(s, i, v));
        }
    }

    private void callImages() {
        int v;
        switch (below(8)) {
            case 0:
                due("image()", x.image(), model.image());
                break;
            case 1:
                due("undo()", x.undo(), model.undo());
                break;
            case 2:
                if (below(4) == 0) {
                    due("tear()", x.tear(), model.tear());
                }
                break;
            case 3:
            case 4:
            case 5:
                v = pick(7);
                due("count(" + v + ")", x.count(v), model.count(v));
                break;
            default:
                v = pick(8) - 1;
                due("status(" + v + ")", x.status(v), model.status(v));
        }
    }

    // ---- the model

    private abstract static class Owner {
        final World world;
        final int number;
        int worth;
        int wary = 0;
        int tells = 0;
        int holder = 0;
        int paperPrice = -1;
        int paperTill = -1;

        Owner(World world, int number, int worth) {
            this.world = world;
            this.number = number;
            this.worth = worth;
        }

        abstract int kind();

        Owner copyInto(World other) {
            Owner o = make(kind(), other, number, worth);
            o.wary = wary;
            o.tells = tells;
            o.holder = holder;
            o.paperPrice = paperPrice;
            o.paperTill = paperTill;
            return o;
        }

        int heard(TreeSet<Integer> set) {
            int n = 0;
            for (int f : set) {
                if (f != number && f < world.fields.size() && members(world.fields.get(f).tells).contains(number)) {
                    n++;
                }
            }
            return n;
        }

        int ware(TreeSet<Integer> set) {
            int w = wary + heard(set);
            return w > 9 ? 9 : w;
        }

        int asks(TreeSet<Integer> set) {
            return plain(ware(set));
        }

        int plain(int w) {
            return worth + worth * w / 10;
        }

        int asksNow() {
            return asks(world.ours());
        }
    }

    private static class Plain extends Owner {
        Plain(World world, int number, int worth) {
            super(world, number, worth);
        }

        int kind() {
            return 0;
        }
    }

    private static final class Keen extends Plain {
        Keen(World world, int number, int worth) {
            super(world, number, worth);
        }

        int kind() {
            return 1;
        }

        int asks(TreeSet<Integer> set) {
            int above = super.asks(set) - worth;
            return worth + above - above / 2;
        }
    }

    private static class Stubborn extends Plain {
        Stubborn(World world, int number, int worth) {
            super(world, number, worth);
        }

        int kind() {
            return 2;
        }

        int asks(TreeSet<Integer> set) {
            return ware(set) < 5 ? super.asks(set) : super.asks(set) + worth;
        }
    }

    private static final class Lord extends Stubborn {
        Lord(World world, int number, int worth) {
            super(world, number, worth);
        }

        int kind() {
            return 4;
        }

        int asks(TreeSet<Integer> set) {
            return super.asks(set) * 3 / 2;
        }
    }

    private static class Talker extends Plain {
        Talker(World world, int number, int worth) {
            super(world, number, worth);
        }

        int kind() {
            return 3;
        }

        int asks(TreeSet<Integer> set) {
            return super.asks(set) + 5 * heard(set);
        }
    }

    private static final class Brother extends Talker {
        Brother(World world, int number, int worth) {
            super(world, number, worth);
        }

        int kind() {
            return 5;
        }

        int ware(TreeSet<Integer> set) {
            int w = 2 * super.ware(set);
            return w > 9 ? 9 : w;
        }
    }

    private static Owner make(int kind, World world, int number, int worth) {
        switch (kind) {
            case 0: return new Plain(world, number, worth);
            case 1: return new Keen(world, number, worth);
            case 2: return new Stubborn(world, number, worth);
            case 3: return new Talker(world, number, worth);
            case 4: return new Lord(world, number, worth);
            default: return new Brother(world, number, worth);
        }
    }

    private static TreeSet<Integer> members(int set) {
        TreeSet<Integer> all = new TreeSet<>();
        for (int i = 0; i < 32; i++) {
            if ((set & 1 << i) != 0) {
                all.add(i);
            }
        }
        return all;
    }

    private static int bits(Iterable<Integer> all) {
        int set = 0;
        for (int i : all) {
            set |= 1 << i;
        }
        return set;
    }

    private static final class World {
        final List<Owner> fields = new ArrayList<>();
        final List<int[]> strips = new ArrayList<>();
        int month = 0;
        long spent = 0;
        int z = 1;
        int[] rules = {0, 9, 150, 0};

        World again() {
            World w = new World();
            for (Owner o : fields) {
                w.fields.add(o.copyInto(w));
            }
            for (int[] s : strips) {
                w.strips.add(s.clone());
            }
            w.month = month;
            w.spent = spent;
            w.z = z;
            w.rules = rules.clone();
            return w;
        }

        TreeSet<Integer> held(int holder) {
            TreeSet<Integer> all = new TreeSet<>();
            for (Owner o : fields) {
                if (o.holder == holder) {
                    all.add(o.number);
                }
            }
            return all;
        }

        TreeSet<Integer> ours() {
            return held(1);
        }

        List<Integer> notOurs(int strip) {
            TreeSet<Integer> all = members(strips.get(strip)[0]);
            all.removeAll(ours());
            return new ArrayList<>(all);
        }

        List<Integer> free(int strip) {
            TreeSet<Integer> all = members(strips.get(strip)[0]);
            all.retainAll(held(0));
            return new ArrayList<>(all);
        }

        boolean canBe(int strip) {
            TreeSet<Integer> all = members(strips.get(strip)[0]);
            all.retainAll(held(2));
            return all.isEmpty();
        }

        int papers() {
            int n = 0;
            for (Owner o : fields) {
                n += o.paperTill >= 0 ? 1 : 0;
            }
            return n;
        }

        void buy(Owner o, int price) {
            o.holder = 1;
            o.paperTill = -1;
            spent += price;
        }

        boolean offer(Owner o, int price) {
            if (price < o.asksNow()) {
                o.wary = o.wary == 9 ? 9 : o.wary + 1;
                return false;
            }
            buy(o, price);
            return true;
        }
    }

    /** Tries orders one by one, by numbers, and keeps the first of the least. */
    private static final class Orders {
        final World world;
        final List<Integer> all;
        int least = Integer.MAX_VALUE;
        List<Integer> best = new ArrayList<>();

        Orders(World world, int strip) {
            this.world = world;
            all = world.notOurs(strip);
            go(new ArrayList<>(), world.ours(), 0);
        }

        void go(List<Integer> row, TreeSet<Integer> had, int cost) {
            if (row.size() == all.size() && cost < least) {
                least = cost;
                best = new ArrayList<>(row);
            }
            if (cost + floor(had) >= least) {
                return;
            }
            for (int f : all) {
                if (!had.contains(f)) {
                    int price = world.fields.get(f).asks(had);
                    row.add(f);
                    had.add(f);
                    go(row, had, cost + price);
                    had.remove(f);
                    row.remove(row.size() - 1);
                }
            }
        }

        /** No owner asks less for more being bought: so what the others ask now is the least they can come to. */
        int floor(TreeSet<Integer> had) {
            int sum = 0;
            for (int f : all) {
                sum += had.contains(f) ? 0 : world.fields.get(f).asks(had);
            }
            return sum;
        }
    }

    private static final class Model {
        World now = new World();
        World kept = null;
        final StringBuilder tape = new StringBuilder();
        final long[][] sheets = new long[4][];
        final int[] widths = new int[4];
        final int[] told = new int[7];

        int no(int finding) {
            told[-1000000001 - finding]++;
            return finding;
        }

        boolean isField(int f) {
            return f >= 0 && f < now.fields.size();
        }

        boolean isStrip(int s) {
            return s >= 0 && s < now.strips.size();
        }

        int field(int kind, int worth) {
            if (kind < 0 || kind > 5 || worth < 1 || worth > 9999) {
                return no(Check.BEYOND);
            }
            if (now.fields.size() == 14) {
                return no(Check.FULL);
            }
            now.fields.add(make(kind, now, now.fields.size(), worth));
            return now.fields.size() - 1;
        }

        int of(int f, int what) {
            if (!isField(f) || what < 0 || what > 7) {
                return no(Check.BEYOND);
            }
            Owner o = now.fields.get(f);
            int heard = o.heard(now.ours());
            return new int[] {o.kind(), o.worth, o.wary, o.tells, o.holder, o.asksNow(), heard,
                Math.min(9, o.wary + heard)}[what];
        }

        int set(int f, int what, int v) {
            int[] least = {0, 1, 0, 0};
            int[] most = {0, 9999, 9, 16383};
            if (!isField(f) || what < 1 || what > 3 || v < least[what] || v > most[what]) {
                return no(Check.BEYOND);
            }
            int was = of(f, what);
            Owner o = now.fields.get(f);
            if (what == 1) {
                o.worth = v;
            } else if (what == 2) {
                o.wary = v;
            } else {
                o.tells = v;
            }
            return was;
        }

        int as(int f, int kind) {
            if (!isField(f) || kind < 0 || kind > 5) {
                return no(Check.BEYOND);
            }
            Owner o = now.fields.get(f);
            boolean[] is = {true, o instanceof Keen, o instanceof Stubborn, o instanceof Talker, o instanceof Lord,
                o instanceof Brother};
            return is[kind] ? o.asksNow() : no(Check.KIND);
        }

        int asks(int f, int set) {
            if (!isField(f) || set < 0 || set > 16383) {
                return no(Check.BEYOND);
            }
            return now.fields.get(f).asks(members(set));
        }

        int rule(int what, int v) {
            int[] most = {100, 9, 999, 9};
            if (what < 0 || what > 3 || v < 0 || v > most[what]) {
                return no(Check.BEYOND);
            }
            int was = now.rules[what];
            now.rules[what] = v;
            return was;
        }

        int offer(int f, int price) {
            if (!isField(f) || price < 0 || price > 99999) {
                return no(Check.BEYOND);
            }
            Owner o = now.fields.get(f);
            if (o.holder != 0) {
                return no(Check.STATE);
            }
            return now.offer(o, price) ? 1 : 0;
        }

        int paper(int f, int month) {
            if (!isField(f) || month < now.month || month > 99) {
                return no(Check.BEYOND);
            }
            Owner o = now.fields.get(f);
            if (o.holder != 0 || o.paperTill >= 0) {
                return no(Check.STATE);
            }
            if (now.papers() == 6) {
                return no(Check.FULL);
            }
            o.paperPrice = o.asksNow();
            o.paperTill = month;
            int costs = o.paperPrice < 10 ? 1 : o.paperPrice / 10;
            now.spent += costs;
            return costs;
        }

        int paperOf(int f, int what) {
            if (!isField(f) || what < 0 || what > 1) {
                return no(Check.BEYOND);
            }
            Owner o = now.fields.get(f);
            return o.paperTill < 0 ? no(Check.NONE) : what == 0 ? o.paperPrice : o.paperTill;
        }

        int claim(int f) {
            if (!isField(f)) {
                return no(Check.BEYOND);
            }
            Owner o = now.fields.get(f);
            if (o.paperTill < 0) {
                return no(Check.NONE);
            }
            now.buy(o, o.paperPrice);
            return o.paperPrice;
        }

        int county(int f) {
            if (!isField(f)) {
                return no(Check.BEYOND);
            }
            Owner o = now.fields.get(f);
            if (o.holder != 0) {
                return no(Check.STATE);
            }
            if (now.rules[3] < 1) {
                return no(Check.NONE);
            }
            now.rules[3]--;
            int price = o.worth * now.rules[2] / 100;
            now.buy(o, price);
            return price;
        }

        int month() {
            if (now.month == 99) {
                return no(Check.STATE);
            }
            now.month++;
            for (Owner o : now.fields) {
                if (o.paperTill < now.month) {
                    o.paperTill = -1;
                }
            }
            now.z = (int) (now.z * 1103515245L + 12345);
            Owner taken = null;
            if ((now.z >>> 8) % 100 < now.rules[0]) {
                for (Owner o : now.fields) {
                    boolean may = o.holder == 0 && o.paperTill < 0;
                    if (may && (taken == null || o.asksNow() < taken.asksNow())) {
                        taken = o;
                    }
                }
            }
            if (taken != null) {
                taken.holder = 2;
            }
            for (Owner o : now.fields) {
                o.wary -= o.wary > now.rules[1] ? 1 : 0;
            }
            return taken == null ? -1 : taken.number;
        }

        int seed(int v) {
            int was = now.z;
            now.z = v;
            return was;
        }

        long stands(int what) {
            if (what < 0 || what > 4) {
                return no(Check.BEYOND);
            }
            return new long[] {now.month, now.spent, now.held(1).size(), now.held(2).size(), now.held(0).size()}[what];
        }

        int strip(int set, int round) {
            if (set < 0 || set >= 1 << now.fields.size() || round < 0 || round > 9999) {
                return no(Check.BEYOND);
            }
            if (now.strips.size() == 6) {
                return no(Check.FULL);
            }
            now.strips.add(new int[] {set, round});
            return now.strips.size() - 1;
        }

        int stripOf(int s, int what) {
            if (!isStrip(s) || what < 0 || what > 4) {
                return no(Check.BEYOND);
            }
            return new int[] {now.strips.get(s)[0], now.strips.get(s)[1], now.notOurs(s).isEmpty() ? 1 : 0,
                now.canBe(s) ? 1 : 0, bits(now.free(s))}[what];
        }

        int had() {
            List<Integer> all = new ArrayList<>();
            for (int s = 0; s < now.strips.size(); s++) {
                if (now.notOurs(s).isEmpty()) {
                    all.add(s);
                }
            }
            return bits(all);
        }

        /** LEAST COST, or the finding that stands for it. */
        int leastOf(int s) {
            if (!isStrip(s)) {
                return Check.BEYOND;
            }
            if (!now.canBe(s)) {
                return Check.STATE;
            }
            if (now.notOurs(s).size() > 10) {
                return Check.SIZE;
            }
            return new Orders(now, s).least + now.strips.get(s)[1];
        }

        int least(int s) {
            int cost = leastOf(s);
            return cost < 0 ? no(cost) : cost;
        }

        int order(int s, int i) {
            if (!isStrip(s) || i < 0 || i > 9) {
                return no(Check.BEYOND);
            }
            int cost = leastOf(s);
            if (cost < 0) {
                return no(cost);
            }
            List<Integer> best = new Orders(now, s).best;
            return i < best.size() ? best.get(i) : no(Check.NONE);
        }

        int best() {
            int best = -1;
            for (int s = now.strips.size() - 1; s >= 0; s--) {
                int cost = leastOf(s);
                if (cost >= 0 && (best < 0 || cost <= leastOf(best))) {
                    best = s;
                }
            }
            return best < 0 ? no(Check.NONE) : best;
        }

        int last(int s, int what) {
            if (!isStrip(s) || what < 0 || what > 1) {
                return no(Check.BEYOND);
            }
            if (!now.canBe(s)) {
                return no(Check.STATE);
            }
            int most = -1;
            int which = -1;
            for (int f : now.notOurs(s)) {
                TreeSet<Integer> others = now.ours();
                others.addAll(now.notOurs(s));
                others.remove(f);
                int price = now.fields.get(f).asks(others);
                if (price > most) {
                    most = price;
                    which = f;
                }
            }
            return which < 0 ? no(Check.NONE) : what == 0 ? most : which;
        }

        int giveUp(int gain) {
            if (gain < 0 || gain > 9999999) {
                return no(Check.BEYOND);
            }
            for (int s = 0; s < now.strips.size(); s++) {
                int cost = leastOf(s);
                if (cost >= 0 && cost <= gain) {
                    return 0;
                }
            }
            return 1;
        }

        int rights(int s) {
            if (!isStrip(s)) {
                return no(Check.BEYOND);
            }
            if (!now.canBe(s)) {
                return no(Check.STATE);
            }
            int sum = now.strips.get(s)[1];
            for (int f : now.free(s)) {
                int price = now.fields.get(f).asksNow();
                sum += price + (price < 20 ? 1 : price / 10);
            }
            return sum;
        }

        int share(int s, int gain, int f) {
            if (!isStrip(s) || gain < 0 || gain > 9999999 || !isField(f)) {
                return no(Check.BEYOND);
            }
            if (!now.free(s).contains(f)) {
                return no(Check.STATE);
            }
            long all = 0;
            for (int other : now.free(s)) {
                all += now.fields.get(other).worth;
            }
            long worth = now.fields.get(f).worth;
            return gain < all ? no(Check.NONE) : (int) (worth + (gain - all) * worth / all);
        }

        int common() {
            TreeSet<Integer> shared = null;
            for (int s = 0; s < now.strips.size(); s++) {
                if (now.canBe(s)) {
                    TreeSet<Integer> all = members(now.strips.get(s)[0]);
                    if (shared == null) {
                        shared = all;
                    }
                    shared.retainAll(all);
                }
            }
            return shared == null ? no(Check.NONE) : bits(shared);
        }

        int first(int s) {
            if (!isStrip(s)) {
                return no(Check.BEYOND);
            }
            int least = Integer.MAX_VALUE;
            int which = -1;
            for (int f : now.free(s)) {
                TreeSet<Integer> had = now.ours();
                had.add(f);
                int sum = 0;
                for (int other : now.free(s)) {
                    sum += other == f ? 0 : now.fields.get(other).asks(had);
                }
                if (sum < least) {
                    least = sum;
                    which = f;
                }
            }
            return which < 0 ? no(Check.NONE) : which;
        }

        int feed(int bytes, int n) {
            if (n < 1 || n > 4) {
                return no(Check.BEYOND);
            }
            if (tape.length() + n > 120) {
                return no(Check.FULL);
            }
            for (int i = n - 1; i >= 0; i--) {
                tape.append((char) (bytes >> 8 * i & 255));
            }
            return tape.length();
        }

        int wipe() {
            int n = tape.length();
            tape.setLength(0);
            return n;
        }

        int plan() {
            World then = now.again();
            int answer = new Plan(tape.toString(), then).items();
            if (answer > 0) {
                now = then;
            }
            wipe();
            return answer;
        }

        boolean isSheet(int s) {
            return s >= 0 && s < 4;
        }

        int sheet(int s, int bits, int n) {
            if (!isSheet(s) || bits != 0 && bits != 8 && bits != 16 && bits != 64) {
                return no(Check.BEYOND);
            }
            if (n < 0) {
                return no(Check.SIZE);
            }
            if (n > 40) {
                return no(Check.BEYOND);
            }
            sheets[s] = bits == 0 ? null : new long[n];
            widths[s] = bits;
            return bits == 0 ? 0 : n;
        }

        long write(int s, int i, long v) {
            if (!isSheet(s)) {
                return no(Check.BEYOND);
            }
            if (sheets[s] == null) {
                return no(Check.MISSING);
            }
            if (i < 0 || i >= sheets[s].length) {
                return no(Check.BEYOND);
            }
            long was = sheets[s][i];
            int left = 64 - widths[s];
            sheets[s][i] = v << left >> left;
            return was;
        }

        int copy(int s, int from, int t, int to, int n) {
            if (!isSheet(s) || !isSheet(t)) {
                return no(Check.BEYOND);
            }
            if (sheets[s] == null || sheets[t] == null) {
                return no(Check.MISSING);
            }
            if (widths[s] != widths[t]) {
                return no(Check.KIND);
            }
            boolean fits = from >= 0 && to >= 0 && n >= 0 && (long) from + n <= sheets[s].length
                && (long) to + n <= sheets[t].length;
            if (!fits) {
                return no(Check.BEYOND);
            }
            long[] were = sheets[s].clone();
            for (int i = 0; i < n; i++) {
                sheets[t][to + i] = were[from + i];
            }
            return n;
        }

        long cost(int s) {
            if (!isSheet(s)) {
                return no(Check.BEYOND);
            }
            if (sheets[s] == null) {
                return no(Check.MISSING);
            }
            TreeSet<Integer> ahead = new TreeSet<>();
            long sum = 0;
            for (long v : sheets[s]) {
                if (v < 0 || v >= now.fields.size() || ahead.contains((int) v)) {
                    return no(Check.KIND);
                }
                TreeSet<Integer> had = now.ours();
                had.addAll(ahead);
                sum += now.fields.get((int) v).asks(had);
                ahead.add((int) v);
            }
            return sum;
        }

        int offers(int s) {
            if (!isSheet(s)) {
                return no(Check.BEYOND);
            }
            if (sheets[s] == null) {
                return no(Check.MISSING);
            }
            int n = 0;
            for (int i = 1; i < sheets[s].length; i += 2) {
                long f = sheets[s][i - 1];
                long price = sheets[s][i];
                if (f < 0 || f >= now.fields.size() || price < 0 || price > 99999) {
                    continue;
                }
                Owner o = now.fields.get((int) f);
                if (o.holder == 0 && now.offer(o, (int) price)) {
                    n++;
                }
            }
            return n;
        }

        int read(int s) {
            if (!isSheet(s)) {
                return no(Check.BEYOND);
            }
            if (sheets[s] == null) {
                return no(Check.MISSING);
            }
            for (int i = 0; i < sheets[s].length; i++) {
                if (i >= now.fields.size() || now.fields.get(i).asksNow() != sheets[s][i]) {
                    return i + 1;
                }
            }
            return 0;
        }

        int image() {
            kept = now.again();
            return 1;
        }

        int undo() {
            if (kept == null) {
                return no(Check.NONE);
            }
            now = kept.again();
            return now.fields.size();
        }

        int tear() {
            int was = kept == null ? 0 : 1;
            kept = null;
            return was;
        }

        int count(int what) {
            if (what < 0 || what > 6) {
                return no(Check.BEYOND);
            }
            int wary = 0;
            for (Owner o : now.fields) {
                wary += o.wary;
            }
            return new int[] {now.fields.size(), now.strips.size(), now.papers(), tape.length(), now.z, wary,
                now.rules[3]}[what];
        }

        int status(int which) {
            if (which < -1 || which > 6) {
                return no(Check.BEYOND);
            }
            int all = 0;
            for (int n : told) {
                all += n;
            }
            return which < 0 ? all : told[which];
        }
    }

    /** The grammar over a list of TOKENS that are cut out first. */
    private static final class Plan {
        private static final List<String> KINDS = List.of("owner", "keen", "stubborn", "talker", "lord", "brother");
        private static final List<String> RULES = List.of("zeal", "calm", "law", "power");
        private static final int[] MOST = {100, 9, 999, 9};

        private final List<String> tokens = new ArrayList<>();
        private final List<Integer> places = new ArrayList<>();
        private final World world;
        private int at = 0;

        Plan(String text, World world) {
            this.world = world;
            java.util.regex.Matcher m = java.util.regex.Pattern.compile("[a-z]+|[0-9]+|;|[^ ]", 32).matcher(text);
            while (m.find()) {
                tokens.add(m.group());
                places.add(m.start());
            }
            tokens.add("");
            places.add(text.length());
        }

        int items() {
            int items = 0;
            do {
                if (!item()) {
                    return -1 - places.get(at);
                }
                items++;
                if (at().isEmpty()) {
                    return items;
                }
            } while (take(";"));
            return -1 - places.get(at);
        }

        String at() {
            return tokens.get(at);
        }

        boolean take(String token) {
            boolean is = at().equals(token);
            at += is ? 1 : 0;
            return is;
        }

        /** A NUMBER within bounds; -1: another TOKEN. */
        int number(int least, int most) {
            if (!at().matches("[0-9]+")) {
                return -1;
            }
            java.math.BigInteger v = new java.math.BigInteger(at());
            boolean may = v.bitLength() < 31 && v.intValue() >= least && v.intValue() <= most;
            at += may ? 1 : 0;
            return may ? v.intValue() : -1;
        }

        int numbers(int most) {
            int set = 0;
            do {
                int v = number(0, most);
                if (v < 0) {
                    return -1;
                }
                set |= 1 << v;
            } while (at().matches("[0-9]+"));
            return set;
        }

        boolean item() {
            int kind = KINDS.indexOf(at());
            int rule = RULES.indexOf(at());
            if (kind >= 0 && world.fields.size() < 14) {
                at++;
                return field(kind);
            }
            if (at().equals("strip") && world.strips.size() < 6) {
                at++;
                return strip();
            }
            if (rule >= 0) {
                at++;
                int v = number(0, MOST[rule]);
                world.rules[rule] = v;
                return v >= 0;
            }
            return false;
        }

        boolean field(int kind) {
            int worth = number(1, 9999);
            if (worth < 0) {
                return false;
            }
            Owner o = make(kind, world, world.fields.size(), worth);
            world.fields.add(o);
            if (take("wary")) {
                o.wary = number(0, 9);
                if (o.wary < 0) {
                    return false;
                }
            }
            if (take("tells")) {
                o.tells = numbers(13);
                return o.tells >= 0;
            }
            return true;
        }

        boolean strip() {
            int set = numbers(world.fields.size() - 1);
            if (set < 0) {
                return false;
            }
            int round = take("round") ? number(0, 9999) : 0;
            world.strips.add(new int[] {set, round});
            return round >= 0;
        }
    }
}
