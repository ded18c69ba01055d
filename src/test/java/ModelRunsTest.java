import java.math.BigInteger;
import java.nio.charset.StandardCharsets;
import java.util.ArrayList;
import java.util.List;
import java.util.Random;
import java.util.regex.Matcher;
import java.util.regex.Pattern;

/** Random runs of calls, each answer held against a slow second model of the document. */
public final class ModelRunsTest {
    private static final int RUNS = 1500;
    private static final int CALLS = 512;

    public static void main(String[] args) {
        int wrong = 0;
        long calls = 0;
        for (int run = 0; run < RUNS && wrong < 20; run++) {
            Run r = new Run(run);
            for (int k = 0; k < CALLS; k++) {
                calls++;
                if (!r.oneCallAgrees()) {
                    wrong++;
                    System.out.println("run " + run + ", call " + k + ": " + r.told);
                    break;
                }
            }
        }
        System.out.println(calls + " calls in random runs, " + wrong + " runs went wrong");
        if (wrong != 0) {
            System.exit(1);
        }
    }

    /** One object beside its model, with the chance that picks calls. */
    private static final class Run {
        private static final String[] WORDS = {"sauce", "cream", "stock", "glaze", "dark", "salad", "custard", "thick", "salt",
            "off", "split", "deed", "grudge", "heat", ";", "x"};
        private final Random chance;
        private final QuarrelSauce x = new QuarrelSauce();
        private final Model m = new Model();
        private final List<int[]> feeds = new ArrayList<>();
        private final boolean isTame;
        private String told = "";

        Run(int seed) {
            chance = new Random(seed);
            isTame = chance.nextInt(3) > 0;
        }

        private int upTo(int most) {
            if (!isTame && chance.nextInt(12) == 0) {
                int[] odd = {-1, -2, most + 1, Integer.MAX_VALUE, Integer.MIN_VALUE, 1000, 0};
                return odd[chance.nextInt(odd.length)];
            }
            return chance.nextInt(most + 1);
        }

        private int dish() {
            return m.dishes.isEmpty() || chance.nextInt(40) == 0 ? upTo(8) : upTo(m.dishes.size() - 1);
        }

        private int sheet() {
            return upTo(3);
        }

        private boolean agrees(String call, long got, long want) {
            told = call + " answered " + got + ", due is " + want;
            return got == want;
        }

        boolean oneCallAgrees() {
            if (!feeds.isEmpty()) {
                int[] f = feeds.remove(0);
                if (f[1] == 0) {
                    return agrees("text()", x.text(), m.text());
                }
                return agrees("feed(" + f[0] + ", " + f[1] + ")", x.feed(f[0], f[1]), m.feed(f[0], f[1]));
            }
            int which = chance.nextInt(46);
            return which < 16 ? doing(which) : which < 32 ? asking(which) : keeping(which);
        }

        private boolean doing(int which) {
            int a;
            int b;
            int c;
            switch (which) {
                case 0: a = upTo(1); b = upTo(a == 1 ? 9 : 99);
                    return agrees("set(" + a + ", " + b + ")", x.set(a, b), m.set(a, b));
                case 1: a = upTo(5); b = upTo(11);
                    return agrees("deed(" + a + ", " + b + ")", x.deed(a, b), m.deed(a, b));
                case 2: a = upTo(5);
                    return agrees("listed(" + a + ")", x.listed(a), m.listed(a));
                case 3: a = upTo(6); b = upTo(99);
                    return agrees("dish(" + a + ", " + b + ")", x.dish(a, b), m.dish(a, b));
                case 4: case 5: case 6: a = dish(); b = upTo(10);
                    return agrees("of(" + a + ", " + b + ")", x.of(a, b), m.of(a, b));
                case 7: case 8: a = dish(); b = upTo(5); c = b == 0 ? upTo(6) : b < 3 ? upTo(99) : b < 5 ? upTo(1) : upTo(9999);
                    return agrees("change(" + a + ", " + b + ", " + c + ")", x.change(a, b, c), m.change(a, b, c));
                case 9: a = dish();
                    return agrees("serve(" + a + ")", x.serve(a), m.serve(a));
                case 10: a = upTo(11);
                    return agrees("act(" + a + ")", x.act(a), m.act(a));
                case 11: case 12: a = chance.nextInt(4) == 0 ? upTo(61) : 1;
                    return agrees("go(" + a + ")", x.go(a), m.go(a));
                case 13: case 14: a = upTo(7);
                    return agrees("now(" + a + ")", x.now(a), m.now(a));
                default: a = chance.nextInt(6) == 0 ? upTo(21) : 1;
                    return agrees("service(" + a + ")", x.service(a), m.service(a));
            }
        }

        private boolean asking(int which) {
            int a = dish();
            int b;
            int c;
            switch (which) {
                case 16: case 17: b = chance.nextInt(3) == 0 ? 10 : upTo(3); c = chance.nextBoolean() ? upTo(6) : upTo(100);
                    return agrees("ahead(" + a + ", " + b + ", " + c + ")", x.ahead(a, b, c), m.ahead(a, b, c));
                case 18: b = upTo(100);
                    return agrees("mood(" + b + ")", x.mood(b), m.mood(b));
                case 19: return agrees("splits(" + a + ")", x.splits(a), m.splits(a));
                case 20: b = chance.nextInt(4) == 0 ? upTo(999) : upTo(99);
                    return agrees("ready(" + a + ", " + b + ")", x.ready(a, b), m.ready(a, b));
                case 21: b = upTo(99);
                    return agrees("peace(" + b + ")", x.peace(b), m.peace(b));
                case 22: b = upTo(5); c = chance.nextBoolean() ? upTo(6) : upTo(60);
                    return agrees("deedFor(" + b + ", " + c + ")", x.deedFor(b, c), m.deedFor(b, c));
                case 23: c = chance.nextBoolean() ? upTo(6) : upTo(60);
                    return agrees("grudgeFor(" + a + ", " + c + ")", x.grudgeFor(a, c), m.grudgeFor(a, c));
                case 24: c = chance.nextBoolean() ? upTo(6) : upTo(60);
                    return agrees("kindFor(" + a + ", " + c + ")", x.kindFor(a, c), m.kindFor(a, c));
                case 25: return agrees("best(" + a + ")", x.best(a), m.best(a));
                case 26: c = upTo(20);
                    return agrees("takeOff(" + c + ")", x.takeOff(c), m.takeOff(c));
                case 27: case 28: b = sheet();
                    return agrees("fits(" + b + ", " + a + ")", x.fits(b, a), m.fits(b, a));
                case 29: case 30: b = sheet();
                    return agrees("kinds(" + b + ", " + a + ")", x.kinds(b, a), m.kinds(b, a));
                default: b = upTo(17); c = upTo(1);
                    return agrees("odds(" + a + ", " + b + ", " + c + ")", x.odds(a, b, c), m.odds(a, b, c));
            }
        }

        private boolean keeping(int which) {
            int a;
            int b;
            int c;
            switch (which) {
                case 32: a = chance.nextInt();
                    return agrees("seed(" + a + ")", x.seed(a), m.seed(a));
                case 33: if (chance.nextInt(3) == 0) { planText(); }
                    return agrees("wipe()", x.wipe(), m.wipe());
                case 34: a = upTo(9); b = chance.nextInt(5) == 0 ? -1 : dish();
                    return agrees("hold(" + a + ", " + b + ")", x.hold(a, b), m.hold(a, b));
                case 35: a = upTo(9); b = upTo(6);
                    return agrees("as(" + a + ", " + b + ")", x.as(a, b), m.as(a, b));
                case 36: return oneSheet();
                case 37: case 38: case 39: a = sheet(); b = m.sheets[a & 3] == null || m.sheets[a & 3].length == 0 ? upTo(40)
                        : upTo(m.sheets[a & 3].length - 1);
                    c = numberFor(b);
                    return agrees("write(" + a + ", " + b + ", " + c + ")", x.write(a, b, c), m.write(a, b, c));
                case 40: return oneCopy();
                case 41: a = sheet();
                    return agrees("load(" + a + ")", x.load(a), m.load(a));
                case 42: a = sheet();
                    return agrees("judge(" + a + ")", x.judge(a), m.judge(a));
                case 43: a = chance.nextInt(5);
                    return a == 0 ? agrees("image()", x.image(), m.image())
                        : a == 1 ? agrees("tear()", x.tear(), m.tear()) : agrees("undo()", x.undo(), m.undo());
                case 44: a = upTo(7);
                    return agrees("count(" + a + ")", x.count(a), m.count(a));
                default: a = upTo(6) - (chance.nextInt(3) == 0 ? 1 : 0);
                    return agrees("status(" + a + ")", x.status(a), m.status(a));
            }
        }

        /** Often what would fit there, so that sheets are told truly, too. */
        private int numberFor(int i) {
            int pick = chance.nextInt(6);
            if (pick < 3 && !m.dishes.isEmpty() && i >= 0 && i <= 40) {
                return m.thickBehind(0, i);
            }
            return pick == 3 ? -1 : pick == 4 ? chance.nextInt() : upTo(11);
        }

        private boolean oneSheet() {
            int[] widths = {8, 16, 32, 0, 8, 16, 32, 7};
            int a = sheet();
            int b = widths[chance.nextInt(isTame ? 7 : 8)];
            int c = chance.nextBoolean() ? upTo(3) : upTo(40);
            return agrees("sheet(" + a + ", " + b + ", " + c + ")", x.sheet(a, b, c), m.sheet(a, b, c));
        }

        private boolean oneCopy() {
            int a = sheet();
            int b = chance.nextBoolean() ? a : sheet();
            int from = upTo(4);
            int to = upTo(4);
            int n = upTo(4);
            return agrees("copy(" + a + ", " + from + ", " + b + ", " + to + ", " + n + ")",
                x.copy(a, from, b, to, n), m.copy(a, from, b, to, n));
        }

        private void planText() {
            String text = chance.nextBoolean() ? trueText() : anyText();
            byte[] bytes = text.getBytes(StandardCharsets.ISO_8859_1);
            int at = 0;
            while (at < bytes.length) {
                int n = Math.min(bytes.length - at, 1 + chance.nextInt(4));
                int number = chance.nextInt();
                for (int k = 0; k < n; k++) {
                    number = number << 8 | bytes[at + k] & 255;
                }
                feeds.add(new int[] {number, n});
                at += n;
            }
            feeds.add(new int[] {0, 0});
        }

        private String anyText() {
            StringBuilder sb = new StringBuilder();
            int n = chance.nextInt(12);
            for (int k = 0; k < n; k++) {
                sb.append(chance.nextInt(3) == 0 ? "" + chance.nextInt(120) : WORDS[chance.nextInt(WORDS.length)]);
                sb.append(chance.nextInt(8) == 0 ? "" : " ");
            }
            return sb.toString();
        }

        /** A text as it should be, but for a byte now and then. */
        private String trueText() {
            StringBuilder sb = new StringBuilder();
            int n = 1 + chance.nextInt(6);
            for (int k = 0; k < n; k++) {
                sb.append(k == 0 ? "" : ";").append(chance.nextInt(4) == 0 ? " " : "").append(item());
            }
            if (chance.nextInt(4) == 0) {
                sb.setCharAt(chance.nextInt(sb.length()), (char) chance.nextInt(256));
            }
            return sb.toString();
        }

        private String item() {
            switch (chance.nextInt(6)) {
                case 0: return "grudge " + upTo(99);
                case 1: return "heat " + upTo(9);
                case 2: return "deed " + upTo(5) + " " + upTo(11);
                default: return WORDS[chance.nextInt(7)] + (chance.nextBoolean() ? " thick " + upTo(99) : "")
                    + (chance.nextBoolean() ? " salt " + upTo(99) : "") + (chance.nextInt(4) == 0 ? " off" : "")
                    + (chance.nextInt(4) == 0 ? " split" : "");
            }
        }
    }

    // ---- the kinds, each as one above it

    private static class Sauce {
        int needs(Model m, int[] d) { return 10; }
        int thickens(Model m, int[] d) { return m.grudge / 10; }
        int salts(Model m, int[] d) { return m.deedOfStep() == 2 ? 5 : 0; }
        int burns(Model m, int[] d) { return 80; }
        int gives(Model m, int[] d) { return Math.max(0, d[1] - Math.abs(d[2] - 30)); }
    }

    private static class Cream extends Sauce {
        @Override int needs(Model m, int[] d) { return super.needs(m, d) + 20; }
        @Override int thickens(Model m, int[] d) { return super.thickens(m, d) + 1; }
        @Override int burns(Model m, int[] d) { return super.burns(m, d) - 10; }
        @Override int gives(Model m, int[] d) { return super.gives(m, d) + m.grudge / 5; }
    }

    private static class Custard extends Cream {
        @Override int needs(Model m, int[] d) { return super.needs(m, d) + m.heat; }
        @Override int thickens(Model m, int[] d) { return 2 * super.thickens(m, d); }
        @Override int salts(Model m, int[] d) { return 0; }
    }

    private static class Stock extends Sauce {
        @Override int needs(Model m, int[] d) { return 0; }
        @Override int thickens(Model m, int[] d) { return super.thickens(m, d) / 2; }
        @Override int salts(Model m, int[] d) { return super.salts(m, d) + 1; }
        @Override int burns(Model m, int[] d) { return super.burns(m, d) + 19; }
        @Override int gives(Model m, int[] d) { return super.gives(m, d) / 2; }
    }

    private static class Glaze extends Stock {
        @Override int needs(Model m, int[] d) { return super.needs(m, d) + d[1] / 4; }
        @Override int thickens(Model m, int[] d) { return super.thickens(m, d) + m.heat; }
        @Override int salts(Model m, int[] d) { return 2 * super.salts(m, d); }
        @Override int gives(Model m, int[] d) { return super.gives(m, d) + 20; }
    }

    private static class Dark extends Glaze {
        @Override int needs(Model m, int[] d) { return super.needs(m, d) + 25; }
        @Override int thickens(Model m, int[] d) { return super.thickens(m, d) + (m.deedOfStep() == 1 ? 10 : 0); }
        @Override int burns(Model m, int[] d) { return super.burns(m, d) - 9; }
        @Override int gives(Model m, int[] d) { return 2 * super.gives(m, d); }
    }

    private static class Salad extends Sauce {
        @Override int needs(Model m, int[] d) { return 0; }
        @Override int thickens(Model m, int[] d) { return 0; }
        @Override int salts(Model m, int[] d) { return super.salts(m, d) + (m.deedOfStep() == 8 ? 3 : 0); }
        @Override int burns(Model m, int[] d) { return 99; }
        @Override int gives(Model m, int[] d) { return 10; }
    }

    /** The document, word by word, by trying out whatever it asks for. */
    private static final class Model {
        private static final Sauce[] KINDS = {new Sauce(), new Cream(), new Stock(), new Glaze(), new Dark(), new Salad(),
            new Custard()};
        private static final String NAMES = "sauce cream stock glaze dark salad custard";
        private static final int[] CHANGES = {0, 8, 5, 3, -20, 12, 15, -4, 2, -9, 6, 1};

        private int grudge = 50;
        private int heat = 3;
        private int stars = 0;
        private int step = 0;
        private int z = 1;
        private int[] list = new int[6];
        private List<int[]> dishes = new ArrayList<>();
        private int[] spots = {-1, -1, -1, -1, -1, -1, -1, -1, -1, -1};
        private StringBuilder tape = new StringBuilder();
        private final int[] widths = new int[4];
        private final int[][] sheets = new int[4][];
        private final int[] findings = new int[7];
        private Model kept = null;

        private Model twin() {
            Model t = new Model();
            t.become(this);
            return t;
        }

        private void become(Model o) {
            grudge = o.grudge;
            heat = o.heat;
            stars = o.stars;
            step = o.step;
            z = o.z;
            list = o.list.clone();
            spots = o.spots.clone();
            dishes = new ArrayList<>();
            for (int[] d : o.dishes) {
                dishes.add(d.clone());
            }
        }

        private int finding(int which) {
            findings[which]++;
            return -1000001 - which;
        }

        private boolean in(int v, int a, int b) { return a <= v && v <= b; }
        private boolean there(int d) { return in(d, 0, dishes.size() - 1); }
        private int deedOfStep() { return list[step % 6]; }
        private Sauce kind(int[] d) { return KINDS[d[0]]; }
        private int gives(int[] d) { return d[3] == 1 ? 0 : kind(d).gives(this, d); }

        private void done(int deed) {
            grudge += CHANGES[deed];
            if (grudge < 0) { grudge = 0; }
            if (grudge > 99) { grudge = 99; }
        }

        private Model steps(int n) {
            for (int k = 0; k < n; k++) {
                done(deedOfStep());
                for (int[] d : dishes) {
                    if (d[4] == 1 || d[3] == 1) { continue; }
                    if (grudge < kind(d).needs(this, d)) {
                        d[3] = 1;
                        continue;
                    }
                    int thick = Math.min(99, d[1] + kind(d).thickens(this, d));
                    int salt = Math.min(99, d[2] + kind(d).salts(this, d));
                    d[1] = thick;
                    d[2] = salt;
                    if (d[1] > kind(d).burns(this, d)) { d[3] = 1; }
                }
                if (step < 99999) { step++; }
            }
            return this;
        }

        private int all() {
            int sum = 0;
            for (int[] d : dishes) { sum += gives(d); }
            return sum;
        }

        private int set(int where) {
            int set = 0;
            for (int d = 0; d < dishes.size(); d++) { set += dishes.get(d)[where] << d; }
            return set;
        }

        int thickBehind(int dish, int n) { return twin().steps(n).dishes.get(dish)[1]; }

        int set(int what, int v) {
            if (!in(what, 0, 1) || !in(v, 0, what == 0 ? 99 : 9)) { return finding(0); }
            int was = what == 0 ? grudge : heat;
            if (what == 0) { grudge = v; } else { heat = v; }
            return was;
        }

        int deed(int i, int deed) {
            if (!in(i, 0, 5) || !in(deed, 0, 11)) { return finding(0); }
            int was = list[i];
            list[i] = deed;
            return was;
        }

        int listed(int i) { return in(i, 0, 5) ? list[i] : finding(0); }

        int dish(int kind, int thick) {
            if (!in(kind, 0, 6) || !in(thick, 0, 99)) { return finding(0); }
            if (dishes.size() == 8) { return finding(1); }
            dishes.add(new int[] {kind, thick, 10, 0, 0, 0});
            return dishes.size() - 1;
        }

        int of(int dish, int what) {
            if (!there(dish) || !in(what, 0, 10)) { return finding(0); }
            int[] d = dishes.get(dish);
            return what < 6 ? d[what] : what == 6 ? kind(d).needs(this, d) : what == 7 ? kind(d).thickens(this, d)
                : what == 8 ? kind(d).salts(this, d) : what == 9 ? kind(d).burns(this, d) : gives(d);
        }

        int change(int dish, int what, int v) {
            int[] most = {6, 99, 99, 1, 1, 9999};
            if (!there(dish) || !in(what, 0, 5) || !in(v, 0, most[what])) { return finding(0); }
            int was = dishes.get(dish)[what];
            dishes.get(dish)[what] = v;
            return was;
        }

        int serve(int dish) {
            if (!there(dish)) { return finding(0); }
            int[] d = dishes.get(dish);
            if (d[4] == 1) { return finding(4); }
            int gave = gives(d);
            stars = Math.min(99999, stars + gave);
            dishes.set(dish, new int[] {d[0], 10, 10, 0, 0, Math.min(9999, d[5] + 1)});
            return gave;
        }

        int act(int deed) {
            if (!in(deed, 0, 11)) { return finding(0); }
            done(deed);
            return grudge;
        }

        int go(int n) {
            if (!in(n, 1, 60)) { return finding(0); }
            if (step + n > 99999) { return finding(4); }
            return steps(n).grudge;
        }

        int now(int what) {
            switch (what) {
                case 0: return step;
                case 1: return grudge;
                case 2: return stars;
                case 3: return set(3);
                case 4: return set(4);
                case 5: {
                    int set = 0;
                    for (int d = 0; d < dishes.size(); d++) {
                        int[] it = dishes.get(d);
                        if (it[3] + it[4] == 0 && grudge < kind(it).needs(this, it)) { set += 1 << d; }
                    }
                    return set;
                }
                case 6: return all();
                case 7: {
                    int best = -1;
                    for (int d = dishes.size() - 1; d >= 0; d--) {
                        if (best < 0 || gives(dishes.get(d)) >= gives(dishes.get(best))) { best = d; }
                    }
                    return best;
                }
                default: return finding(0);
            }
        }

        int ahead(int dish, int what, int n) {
            if (!there(dish) || !(what == 1 || what == 2 || what == 3 || what == 10) || !in(n, 0, 100)) { return finding(0); }
            return twin().steps(n).of(dish, what);
        }

        int mood(int n) { return in(n, 0, 100) ? twin().steps(n).grudge : finding(0); }

        int splits(int dish) {
            if (!there(dish)) { return finding(0); }
            Model t = twin();
            for (int n = 0; n <= 200; n++, t.steps(1)) {
                if (t.dishes.get(dish)[3] == 1) { return n; }
            }
            return finding(3);
        }

        int ready(int dish, int v) {
            if (!there(dish) || !in(v, 0, 999)) { return finding(0); }
            Model t = twin();
            for (int n = 0; n <= 200; n++, t.steps(1)) {
                if (t.of(dish, 10) >= v) { return n; }
            }
            return finding(3);
        }

        int peace(int v) {
            if (!in(v, 0, 99)) { return finding(0); }
            Model t = twin();
            for (int n = 0; n <= 200; n++, t.steps(1)) {
                if (t.grudge <= v) { return n; }
            }
            return finding(3);
        }

        int deedFor(int i, int n) {
            if (!in(i, 0, 5) || !in(n, 0, 60)) { return finding(0); }
            int best = 11;
            int most = -1;
            for (int deed = 11; deed >= 0; deed--) {
                Model t = twin();
                t.list[i] = deed;
                int all = t.steps(n).all();
                if (all >= most) {
                    most = all;
                    best = deed;
                }
            }
            return best;
        }

        int grudgeFor(int dish, int n) {
            if (!there(dish) || !in(n, 0, 60)) { return finding(0); }
            for (int g = 0; g < 100; g++) {
                Model t = twin();
                t.grudge = g;
                if (t.steps(n).dishes.get(dish)[3] == 0) { return g; }
            }
            return finding(3);
        }

        int kindFor(int dish, int n) {
            if (!there(dish) || !in(n, 0, 60)) { return finding(0); }
            int best = 6;
            int most = -1;
            for (int kind = 6; kind >= 0; kind--) {
                Model t = twin();
                t.dishes.get(dish)[0] = kind;
                int given = t.steps(n).of(dish, 10);
                if (given >= most) {
                    most = given;
                    best = kind;
                }
            }
            return best;
        }

        int best(int dish) {
            if (!there(dish)) { return finding(0); }
            int best = 60;
            for (int n = 60; n >= 0; n--) {
                if (twin().steps(n).of(dish, 10) >= twin().steps(best).of(dish, 10)) { best = n; }
            }
            return best;
        }

        int takeOff(int n) {
            if (!in(n, 0, 20)) { return finding(0); }
            int least = -1;
            for (int set = 0; set < 1 << dishes.size(); set++) {
                if (least >= 0 && Integer.bitCount(set) >= Integer.bitCount(least)) { continue; }
                Model t = twin();
                for (int d = 0; d < dishes.size(); d++) {
                    if ((set >> d & 1) == 1) { t.dishes.get(d)[4] = 1; }
                }
                if (Integer.bitCount(t.steps(n).set(3)) <= Integer.bitCount(set(3))) { least = set; }
            }
            return least < 0 ? finding(3) : least;
        }

        private boolean goesAs(int[] sheet, int dish) {
            for (int n = 0; n < sheet.length; n++) {
                if (sheet[n] != -1 && sheet[n] != thickBehind(dish, n)) { return false; }
            }
            return true;
        }

        int fits(int s, int dish) {
            if (!in(s, 0, 3)) { return finding(0); }
            if (sheets[s] == null) { return finding(5); }
            if (!there(dish)) { return finding(0); }
            int many = 0;
            for (int g = 0; g < 100; g++) {
                Model t = twin();
                t.grudge = g;
                many += t.goesAs(sheets[s], dish) ? 1 : 0;
            }
            return many;
        }

        int kinds(int s, int dish) {
            if (!in(s, 0, 3)) { return finding(0); }
            if (sheets[s] == null) { return finding(5); }
            if (!there(dish)) { return finding(0); }
            int set = 0;
            for (int kind = 0; kind < 7; kind++) {
                Model t = twin();
                t.dishes.get(dish)[0] = kind;
                set += t.goesAs(sheets[s], dish) ? 1 << kind : 0;
            }
            return set;
        }

        private int draw() {
            z = z * 1103515245 + 12345;
            return z >>> 8;
        }

        int service(int n) {
            if (!in(n, 1, 20)) { return finding(0); }
            if (step + n > 99999) { return finding(4); }
            for (int k = 0; k < n; k++) {
                int first = draw();
                int second = draw();
                list[step % 6] = first % 12;
                steps(1);
                int dish = second % 8;
                if (there(dish) && dishes.get(dish)[4] == 0) { serve(dish); }
            }
            return stars;
        }

        long odds(int dish, int n, int what) {
            if (!there(dish) || !in(n, 0, 17) || !in(what, 0, 1)) { return finding(0); }
            long good = 0;
            for (int deed = 0; deed < 12; deed++) {
                Model t = twin();
                t.done(deed);
                good += t.grudge >= of(dish, 6) ? 1 : 0;
            }
            BigInteger above = BigInteger.valueOf(good).pow(n);
            BigInteger below = BigInteger.valueOf(12).pow(n);
            BigInteger shared = above.gcd(below);
            return (what == 0 ? above : below).divide(shared).longValueExact();
        }

        int seed(int v) {
            int was = z;
            z = v;
            return was;
        }

        int feed(int bytes, int n) {
            if (!in(n, 1, 4)) { return finding(0); }
            if (tape.length() + n > 120) { return finding(1); }
            for (int k = n - 1; k >= 0; k--) { tape.append((char) (bytes >> 8 * k & 255)); }
            return tape.length();
        }

        int wipe() {
            int had = tape.length();
            tape.setLength(0);
            return had;
        }

        int text() {
            String text = tape.toString();
            tape.setLength(0);
            Model t = twin();
            List<String> tokens = new ArrayList<>();
            List<Integer> places = new ArrayList<>();
            Matcher found = Pattern.compile("[a-z]+|[0-9]+|[^ ]", Pattern.DOTALL).matcher(text);
            while (found.find()) {
                tokens.add(found.group());
                places.add(found.start());
            }
            tokens.add("");
            places.add(text.length());
            int[] at = {0};
            int items = 0;
            do {
                if (items > 0) { at[0]++; }
                if (!t.item(tokens, at)) { return -1 - places.get(at[0]); }
                items++;
            } while (tokens.get(at[0]).equals(";"));
            if (at[0] != tokens.size() - 1) { return -1 - places.get(at[0]); }
            become(t);
            return items;
        }

        private boolean item(List<String> tokens, int[] at) {
            String word = tokens.get(at[0]);
            int kind = List.of(NAMES.split(" ")).indexOf(word);
            if (kind >= 0) {
                if (dishes.size() == 8) { return false; }
                at[0]++;
                int[] d = {kind, 10, 10, 0, 0, 0};
                dishes.add(d);
                String[] numbered = {"thick", "salt"};
                for (int k = 0; k < 2; k++) {
                    if (tokens.get(at[0]).equals(numbered[k])) {
                        at[0]++;
                        if (!number(tokens.get(at[0]), 99)) { return false; }
                        d[1 + k] = Integer.parseInt(tokens.get(at[0]++));
                    }
                }
                if (tokens.get(at[0]).equals("off")) { at[0]++; d[4] = 1; }
                if (tokens.get(at[0]).equals("split")) { at[0]++; d[3] = 1; }
                return true;
            }
            if (!word.equals("deed") && !word.equals("grudge") && !word.equals("heat")) { return false; }
            at[0]++;
            int most = word.equals("deed") ? 5 : word.equals("grudge") ? 99 : 9;
            if (!number(tokens.get(at[0]), most)) { return false; }
            int v = Integer.parseInt(tokens.get(at[0]++));
            if (word.equals("grudge")) { grudge = v; }
            if (word.equals("heat")) { heat = v; }
            if (word.equals("deed")) {
                if (!number(tokens.get(at[0]), 11)) { return false; }
                list[v] = Integer.parseInt(tokens.get(at[0]++));
            }
            return true;
        }

        private boolean number(String token, int most) {
            return token.matches("[0-9]+") && new BigInteger(token).compareTo(BigInteger.valueOf(most)) <= 0;
        }

        int hold(int spot, int dish) {
            if (!in(spot, 0, 9) || dish != -1 && !there(dish)) { return finding(0); }
            spots[spot] = dish;
            return 1;
        }

        int as(int spot, int kind) {
            if (!in(spot, 0, 9) || !in(kind, 0, 6)) { return finding(0); }
            if (spots[spot] < 0) { return finding(5); }
            return KINDS[kind].getClass().isInstance(kind(dishes.get(spots[spot]))) ? spots[spot] : finding(2);
        }

        int sheet(int s, int bits, int n) {
            if (!in(s, 0, 3) || !List.of(0, 8, 16, 32).contains(bits)) { return finding(0); }
            if (n < 0) { return finding(6); }
            if (n > 40) { return finding(0); }
            widths[s] = bits;
            sheets[s] = bits == 0 ? null : new int[n];
            return bits == 0 ? 0 : n;
        }

        int write(int s, int i, int v) {
            if (!in(s, 0, 3)) { return finding(0); }
            if (sheets[s] == null) { return finding(5); }
            if (!in(i, 0, sheets[s].length - 1)) { return finding(0); }
            sheets[s][i] = v << 32 - widths[s] >> 32 - widths[s];
            return 1;
        }

        int copy(int s, int from, int t, int to, int n) {
            if (!in(s, 0, 3) || !in(t, 0, 3)) { return finding(0); }
            if (sheets[s] == null || sheets[t] == null) { return finding(5); }
            if (widths[s] != widths[t]) { return finding(2); }
            if (from < 0 || to < 0 || n < 0 || (long) from + n > sheets[s].length || (long) to + n > sheets[t].length) {
                return finding(0);
            }
            int[] were = sheets[s].clone();
            for (int k = 0; k < n; k++) { sheets[t][to + k] = were[from + k]; }
            return n;
        }

        int load(int s) {
            if (!in(s, 0, 3)) { return finding(0); }
            if (sheets[s] == null) { return finding(5); }
            for (int i = 0; i < sheets[s].length; i++) {
                if (i == 6 || !in(sheets[s][i], 0, 11)) { return i; }
                list[i] = sheets[s][i];
            }
            return sheets[s].length;
        }

        int judge(int s) {
            if (!in(s, 0, 3)) { return finding(0); }
            if (sheets[s] == null) { return finding(5); }
            for (int i = 0; i < sheets[s].length; i++) {
                if (!there(i) || dishes.get(i)[1] != sheets[s][i]) { return 1 + i; }
            }
            return 0;
        }

        int image() {
            kept = twin();
            return 1;
        }

        int undo() {
            if (kept == null) { return finding(3); }
            become(kept);
            return step;
        }

        int tear() {
            int had = kept == null ? 0 : 1;
            kept = null;
            return had;
        }

        int count(int what) {
            int held = 0;
            for (int dish : spots) { held += dish < 0 ? 0 : 1; }
            int[] counts = {step, dishes.size(), grudge, stars, Integer.bitCount(set(3)), tape.length(), z, held};
            return in(what, 0, 7) ? counts[what] : finding(0);
        }

        int status(int which) {
            if (!in(which, -1, 6)) { return finding(0); }
            int all = 0;
            for (int f : findings) { all += f; }
            return which < 0 ? all : findings[which];
        }
    }
}
