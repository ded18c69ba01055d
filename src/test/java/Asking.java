import java.nio.charset.StandardCharsets;
import java.util.ArrayList;
import java.util.List;

/** What the tests of boundaries share: kitchens to begin with, and ways of asking. */
abstract class Asking {
    static final long BEYOND = -1000001;
    static final long FULL = -1000002;
    static final long KIND = -1000003;
    static final long NONE = -1000004;
    static final long STATE = -1000005;
    static final long MISSING = -1000006;
    static final long SIZE = -1000007;

    static final int SAUCE = 0;
    static final int CREAM = 1;
    static final int STOCK = 2;
    static final int GLAZE = 3;
    static final int DARK = 4;
    static final int SALAD = 5;
    static final int CUSTARD = 6;

    static final int LEAST = Integer.MIN_VALUE;
    static final int MOST = Integer.MAX_VALUE;

    /** What has been wrong since it was emptied last. */
    static final List<String> WRONG = new ArrayList<>();

    Asking() {
    }

    interface Begin {
        void make(QuarrelSauce x);
    }

    interface Call {
        long on(QuarrelSauce x);
    }

    static void due(String call, long got, long want) {
        if (got != want) {
            WRONG.add(call + " answered " + got + ", due is " + want);
        }
    }

    /** A call must answer a finding, count it once, and change nothing else. */
    static void refused(String call, Begin begin, Call asked, long finding) {
        QuarrelSauce x = begun(begin);
        QuarrelSauce y = begun(begin);
        long[] before = statuses(x);
        due(call, asked.on(x), finding);
        long[] after = statuses(x);
        for (int which = -1; which <= 6; which++) {
            boolean counts = which == -1 || which == BEYOND - finding;
            due("status(" + which + ") behind " + call, after[which + 1], before[which + 1] + (counts ? 1 : 0));
        }
        same(call, x, y);
    }

    /** A call must answer so, and change nothing at all. */
    static void unchanged(String call, Begin begin, Call asked, long answer) {
        QuarrelSauce x = begun(begin);
        QuarrelSauce y = begun(begin);
        due(call, asked.on(x), answer);
        long[] after = statuses(x);
        long[] others = statuses(y);
        for (int which = -1; which <= 6; which++) {
            due("status(" + which + ") behind " + call, after[which + 1], others[which + 1]);
        }
        same(call, x, y);
    }

    static QuarrelSauce begun(Begin begin) {
        QuarrelSauce x = new QuarrelSauce();
        begin.make(x);
        return x;
    }

    private static long[] statuses(QuarrelSauce x) {
        long[] all = new long[8];
        for (int which = -1; which <= 6; which++) {
            all[which + 1] = x.status(which);
        }
        return all;
    }

    static void same(String call, QuarrelSauce x, QuarrelSauce y) {
        List<String> one = seen(x);
        List<String> other = seen(y);
        for (int k = 0; k < one.size(); k++) {
            if (!one.get(k).equals(other.get(k))) {
                WRONG.add(call + " changed " + other.get(k) + " to " + one.get(k));
            }
        }
    }

    /** All that can be asked of an object; it can't be used any more then. */
    private static List<String> seen(QuarrelSauce x) {
        List<String> all = new ArrayList<>();
        seeKitchen(x, all, 10);
        for (int what = 0; what < 8; what++) {
            all.add("now(" + what + ") " + x.now(what));
        }
        seeSheets(x, all);
        all.add("undo() " + x.undo());
        seeKitchen(x, all, 5);
        all.add("tear() " + x.tear());
        all.add("heat " + x.set(1, 0));
        all.add("text() " + x.text());
        all.add("count(1) behind text() " + x.count(1));
        return all;
    }

    private static void seeKitchen(QuarrelSauce x, List<String> all, int whats) {
        for (int what = 0; what < 8; what++) {
            all.add("count(" + what + ") " + x.count(what));
        }
        for (int i = 0; i < 6; i++) {
            all.add("listed(" + i + ") " + x.listed(i));
        }
        for (int spot = 0; spot < 10; spot++) {
            all.add("as(" + spot + ", 0) " + x.as(spot, 0));
        }
        for (int dish = 0; dish < 8; dish++) {
            for (int what = 0; what <= whats; what++) {
                all.add("of(" + dish + ", " + what + ") " + x.of(dish, what));
            }
        }
    }

    private static void seeSheets(QuarrelSauce x, List<String> all) {
        for (int s = 0; s < 4; s++) {
            all.add("judge(" + s + ") " + x.judge(s));
            all.add("bits of " + s + " " + x.copy(s, 0, (s + 1) % 4, 0, 0));
            for (int i = 0; i < 7; i++) {
                // A number that is a deed can be read when it stands first.
                String copied = "number " + i + " of sheet " + s + " " + x.copy(s, i, s, 0, 1);
                all.add(copied + " " + x.load(s) + " " + x.listed(0));
            }
            all.add("write(" + s + ", 39, 0) " + x.write(s, 39, 0));
        }
    }

    /** A text comes onto the tape. */
    static void fed(QuarrelSauce x, String text) {
        byte[] bytes = text.getBytes(StandardCharsets.ISO_8859_1);
        for (int k = 0; k < bytes.length; k += 4) {
            int n = Math.min(4, bytes.length - k);
            int number = 0;
            for (int j = 0; j < n; j++) {
                number = number << 8 | bytes[k + j] & 255;
            }
            x.feed(number, n);
        }
    }

    static int told(QuarrelSauce x, String text) {
        fed(x, text);
        return x.text();
    }

    static QuarrelSauce kitchen(String text) {
        QuarrelSauce x = new QuarrelSauce();
        if (told(x, text) < 1) {
            WRONG.add("the text '" + text + "' isn't taken");
        }
        return x;
    }

    static void list(QuarrelSauce x, int... deeds) {
        for (int i = 0; i < deeds.length; i++) {
            x.deed(i, deeds[i]);
        }
    }

    static void sheetOf(QuarrelSauce x, int s, int bits, int... numbers) {
        x.sheet(s, bits, numbers.length);
        for (int i = 0; i < numbers.length; i++) {
            x.write(s, i, numbers[i]);
        }
    }

    // ---- kitchens to begin with

    static void bare(QuarrelSauce x) {
    }

    /** Five dishes, and something in every place that a call could spoil. */
    static void rich(QuarrelSauce x) {
        told(x, "sauce thick 40 salt 20;cream thick 50;stock off;glaze split;dark thick 30 salt 30");
        told(x, "grudge 60;heat 4;deed 0 1;deed 1 2;deed 2 8;deed 5 7");
        x.seed(77);
        x.go(2);
        x.serve(0);
        x.hold(0, 1);
        x.hold(9, 4);
        x.image();
        x.act(5);
        x.go(1);
        x.deed(3, 3);
        sheetOf(x, 0, 8, 1, 2, 3);
        sheetOf(x, 1, 8, 11, 10);
        sheetOf(x, 2, 16, 5);
        fed(x, "heat");
    }

    /** Eight dishes. */
    static void full(QuarrelSauce x) {
        told(x, "sauce;cream;stock;glaze;dark;salad;custard;sauce thick 40");
    }
}
