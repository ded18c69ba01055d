import java.nio.charset.StandardCharsets;

/** Every promise by its number: ordinary calls, the edges, and wrong inputs. */
public final class PromisesTest {
    private static final long BEYOND = -1000001;
    private static final long FULL = -1000002;
    private static final long KIND = -1000003;
    private static final long NONE = -1000004;
    private static final long STATE = -1000005;
    private static final long MISSING = -1000006;
    private static final long SIZE = -1000007;

    private static final int SAUCE = 0;
    private static final int CREAM = 1;
    private static final int STOCK = 2;
    private static final int GLAZE = 3;
    private static final int DARK = 4;
    private static final int SALAD = 5;
    private static final int CUSTARD = 6;

    private static int wrong = 0;
    private static int asked = 0;
    private static int promise = 0;

    private static void due(String call, long got, long want) {
        asked++;
        if (got != want) {
            wrong++;
            System.out.println("promise " + promise + ": " + call + " answered " + got + ", due is " + want);
        }
    }

    private static int told(QuarrelSauce x, String text) {
        byte[] bytes = text.getBytes(StandardCharsets.ISO_8859_1);
        for (byte b : bytes) {
            x.feed(b, 1);
        }
        return x.text();
    }

    private static QuarrelSauce kitchen(String text) {
        QuarrelSauce x = new QuarrelSauce();
        if (told(x, text) < 1) {
            wrong++;
            System.out.println("promise " + promise + ": the text '" + text + "' isn't taken");
        }
        return x;
    }

    private static void list(QuarrelSauce x, int... deeds) {
        for (int i = 0; i < deeds.length; i++) {
            x.deed(i, deeds[i]);
        }
    }

    private static void sheetOf(QuarrelSauce x, int s, int bits, int... numbers) {
        x.sheet(s, bits, numbers.length);
        for (int i = 0; i < numbers.length; i++) {
            x.write(s, i, numbers[i]);
        }
    }

    public static void main(String[] args) {
        newObject();
        kitchenAndDishes();
        steps();
        whatWillBe();
        whatToDo();
        toldDishes();
        services();
        texts();
        spots();
        sheets();
        images();
        System.out.println(asked + " answers asked, " + wrong + " wrong");
        if (wrong != 0) {
            System.exit(1);
        }
    }

    private static void newObject() {
        promise = 1;
        QuarrelSauce x = new QuarrelSauce();
        int[] counts = {0, 0, 50, 0, 0, 0, 1, 0};
        for (int what = 0; what < counts.length; what++) {
            due("new count(" + what + ")", x.count(what), counts[what]);
        }
        for (int i = 0; i < 6; i++) {
            due("new listed(" + i + ")", x.listed(i), 0);
        }
        due("new set(1, 3)", x.set(1, 3), 3);
        due("new wipe()", x.wipe(), 0);
        due("new tear()", x.tear(), 0);
        due("new now(7)", x.now(7), -1);
        for (int spot = 0; spot < 10; spot++) {
            due("new as(" + spot + ", 0)", x.as(spot, 0), MISSING);
        }
        for (int s = 0; s < 4; s++) {
            due("new judge(" + s + ")", x.judge(s), MISSING);
        }
        QuarrelSauce y = new QuarrelSauce();
        for (int which = -1; which <= 6; which++) {
            due("new status(" + which + ")", y.status(which), 0);
        }
    }

    private static void kitchenAndDishes() {
        promise = 2;
        QuarrelSauce x = new QuarrelSauce();
        due("set(0, 99)", x.set(0, 99), 50);
        due("set(0, 0)", x.set(0, 0), 99);
        due("set(0, 7)", x.set(0, 7), 0);
        due("count(2)", x.count(2), 7);
        due("set(1, 9)", x.set(1, 9), 3);
        due("set(1, 0)", x.set(1, 0), 9);
        int[][] bad = {{0, -1}, {0, 100}, {1, -1}, {1, 10}, {2, 0}, {-1, 0}};
        for (int[] b : bad) {
            due("set(" + b[0] + ", " + b[1] + ")", x.set(b[0], b[1]), BEYOND);
        }
        due("set(0, 7)", x.set(0, 7), 7);
        due("set(1, 0)", x.set(1, 0), 0);

        promise = 3;
        due("deed(5, 11)", x.deed(5, 11), 0);
        due("deed(5, 0)", x.deed(5, 0), 11);
        due("deed(0, 4)", x.deed(0, 4), 0);
        due("deed(6, 0)", x.deed(6, 0), BEYOND);
        due("deed(-1, 0)", x.deed(-1, 0), BEYOND);
        due("deed(0, 12)", x.deed(0, 12), BEYOND);
        due("deed(0, -1)", x.deed(0, -1), BEYOND);

        promise = 4;
        list(x, 4, 5, 6, 7, 8, 9);
        for (int i = 0; i < 6; i++) {
            due("listed(" + i + ")", x.listed(i), 4 + i);
        }
        due("listed(6)", x.listed(6), BEYOND);
        due("listed(-1)", x.listed(-1), BEYOND);

        promise = 5;
        x = new QuarrelSauce();
        due("dish(7, 0)", x.dish(7, 0), BEYOND);
        due("dish(-1, 0)", x.dish(-1, 0), BEYOND);
        due("dish(0, -1)", x.dish(0, -1), BEYOND);
        due("dish(0, 100)", x.dish(0, 100), BEYOND);
        for (int d = 0; d < 8; d++) {
            due("dish " + d, x.dish(d % 7, d == 0 ? 0 : 99), d);
        }
        due("dish(0, 0)", x.dish(0, 0), FULL);
        due("dish(0, 100) full", x.dish(0, 100), BEYOND);
        due("dish(7, 0) full", x.dish(7, 0), BEYOND);
        due("of(0, 1)", x.of(0, 1), 0);
        due("of(7, 1)", x.of(7, 1), 99);
        int[] fresh = {1, 99, 10, 0, 0, 0};
        for (int what = 0; what < 6; what++) {
            due("of(1, " + what + ")", x.of(1, what), fresh[what]);
        }

        kindsOfDishes();
        changes();
        serving();
        acting();
    }

    private static void kindsOfDishes() {
        promise = 6;
        QuarrelSauce x = new QuarrelSauce();
        for (int kind = 0; kind < 7; kind++) {
            x.dish(kind, 42);
            x.change(kind, 2, 37);
        }
        x.set(0, 57);
        x.set(1, 4);
        int[] needs = {10, 30, 0, 10, 35, 0, 34};
        int[] thickens = {5, 6, 2, 6, 6, 0, 12};
        int[] salts = {0, 0, 1, 2, 2, 0, 0};
        int[] salted = {5, 5, 6, 12, 12, 5, 0};
        int[] burns = {80, 70, 99, 99, 90, 99, 70};
        int[] gives = {35, 46, 17, 37, 74, 10, 46};
        for (int d = 0; d < 7; d++) {
            due("needs of kind " + d, x.of(d, 6), needs[d]);
            due("burns of kind " + d, x.of(d, 9), burns[d]);
            due("gives of kind " + d, x.of(d, 10), gives[d]);
            x.deed(0, 0);
            due("thickens of kind " + d, x.of(d, 7), thickens[d]);
            due("salts of kind " + d, x.of(d, 8), salts[d]);
            x.deed(0, 1);
            due("thickens of kind " + d + ", drawer", x.of(d, 7), thickens[d] + (d == DARK ? 10 : 0));
            due("salts of kind " + d + ", drawer", x.of(d, 8), salts[d]);
            x.deed(0, 2);
            due("thickens of kind " + d + ", salted at", x.of(d, 7), thickens[d]);
            due("salts of kind " + d + ", salted at", x.of(d, 8), salted[d]);
            x.deed(0, 8);
            due("salts of kind " + d + ", sarcasm", x.of(d, 8), salts[d] + (d == SALAD ? 3 : 0));
            x.change(d, 3, 1);
            due("gives of kind " + d + ", split", x.of(d, 10), 0);
        }
        due("of(0, 11)", x.of(0, 11), BEYOND);
        due("of(0, -1)", x.of(0, -1), BEYOND);
        due("of(7, 0)", x.of(7, 0), BEYOND);
        due("of(-1, 0)", x.of(-1, 0), BEYOND);

        x = kitchen("sauce thick 12 salt 99;sauce thick 40 salt 20;glaze thick 3;glaze thick 4");
        due("gives 0 at least", x.of(0, 10), 0);
        due("gives from below", x.of(1, 10), 30);
        due("a fourth, cut", x.of(2, 6), 0);
        due("a fourth", x.of(3, 6), 1);
        x = kitchen("dark;deed 0 0;deed 1 1");
        due("thickens ahead of the drawer", x.of(0, 7), 5);
        x.go(1);
        due("thickens at the drawer's step", x.of(0, 7), 15);
    }

    private static void changes() {
        promise = 7;
        QuarrelSauce x = new QuarrelSauce();
        x.dish(SAUCE, 5);
        int[] first = {0, 5, 10, 0, 0, 0};
        int[] most = {6, 99, 99, 1, 1, 9999};
        for (int what = 0; what < 6; what++) {
            due("change(0, " + what + ", most)", x.change(0, what, most[what]), first[what]);
            due("change(0, " + what + ", most + 1)", x.change(0, what, most[what] + 1), BEYOND);
            due("change(0, " + what + ", -1)", x.change(0, what, -1), BEYOND);
            due("of(0, " + what + ")", x.of(0, what), most[what]);
            due("change(0, " + what + ", 0)", x.change(0, what, 0), most[what]);
        }
        due("change(0, 6, 0)", x.change(0, 6, 0), BEYOND);
        due("change(0, -1, 0)", x.change(0, -1, 0), BEYOND);
        due("change(1, 0, 0)", x.change(1, 0, 0), BEYOND);
        due("change(-1, 0, 0)", x.change(-1, 0, 0), BEYOND);
    }

    private static void serving() {
        promise = 8;
        QuarrelSauce x = kitchen("sauce thick 60 salt 33;glaze thick 50 split;stock off");
        due("serve(0)", x.serve(0), 57);
        due("stars", x.count(3), 57);
        int[] left = {0, 10, 10, 0, 0, 1};
        for (int what = 0; what < 6; what++) {
            due("served of(0, " + what + ")", x.of(0, what), left[what]);
        }
        due("serve(1)", x.serve(1), 0);
        due("not split any more", x.of(1, 3), 0);
        due("served, though split", x.of(1, 5), 1);
        due("serve(2)", x.serve(2), STATE);
        due("not served", x.of(2, 5), 0);
        due("serve(3)", x.serve(3), BEYOND);
        due("serve(-1)", x.serve(-1), BEYOND);
        x.change(0, 5, 9999);
        x.change(0, 1, 80);
        x.serve(0);
        due("served 9999 at most", x.of(0, 5), 9999);
        due("serve(1) again", x.serve(1), 20);
        due("stars in all", x.count(3), 57 + 60 + 20);

        // Stars are 99999 at most: eight dark ones, served on and on.
        x = new QuarrelSauce();
        for (int d = 0; d < 8; d++) {
            x.dish(DARK, 10);
        }
        x.set(0, 99);
        for (int k = 0; k < 400; k++) {
            x.service(20);
        }
        due("stars at most", x.count(3), 99999);
        due("serve(0) with all stars", x.serve(0) >= 0 ? 1 : 0, 1);
        due("stars at most, still", x.count(3), 99999);
    }

    private static void acting() {
        promise = 9;
        QuarrelSauce x = new QuarrelSauce();
        int[] by = {0, 8, 5, 3, -20, 12, 15, -4, 2, -9, 6, 1};
        for (int deed = 0; deed < 12; deed++) {
            x.set(0, 50);
            due("act(" + deed + ")", x.act(deed), 50 + by[deed]);
            x.set(0, 0);
            due("act(" + deed + ") at 0", x.act(deed), Math.max(0, by[deed]));
            x.set(0, 99);
            due("act(" + deed + ") at 99", x.act(deed), 99 + Math.min(0, by[deed]));
        }
        due("count(0)", x.count(0), 0);
        due("act(12)", x.act(12), BEYOND);
        due("act(-1)", x.act(-1), BEYOND);
    }

    private static void steps() {
        promise = 10;
        QuarrelSauce x = kitchen("sauce;cream;stock salt 98;custard;glaze thick 98;sauce off;sauce split;dark thick 85");
        list(x, 4, 1, 2, 3, 5, 6);
        due("go(0)", x.go(0), BEYOND);
        due("go(61)", x.go(61), BEYOND);
        due("go(-1)", x.go(-1), BEYOND);
        due("go(1)", x.go(1), 30);
        // By the grudge as it is then, 30: cream needs 30, custard 33.
        int[] thick = {13, 14, 11, 10, 99, 10, 10, 85};
        int[] salt = {10, 10, 99, 10, 12, 10, 10, 10};
        for (int d = 0; d < 8; d++) {
            due("thick of " + d, x.of(d, 1), thick[d]);
            due("salt of " + d, x.of(d, 2), salt[d]);
        }
        due("split", x.now(3), 1 << 3 | 1 << 6 | 1 << 7);
        due("go(2)", x.go(2), 43);
        due("thick of 0", x.of(0, 1), 13 + 3 + 4);
        due("salt of 0", x.of(0, 2), 15);
        due("salt of 4", x.of(4, 2), 12 + 2 + 12);
        due("count(0)", x.count(0), 3);
        due("go(60)", x.go(60), x.count(2));
        due("count(0)", x.count(0), 63);
        // Only a far longer life than is promised comes there.
        x = new QuarrelSauce();
        for (int k = 0; k < 1666; k++) {
            x.go(60);
        }
        due("go(40) at 99960", x.go(40), STATE);
        due("service(20) at 99960", x.service(20), 0);
        due("service(20) at 99980", x.service(20), STATE);
        due("service(19) at 99980", x.service(19), 0);
        due("count(0)", x.count(0), 99999);
        due("go(1) at 99999", x.go(1), STATE);
        x = new QuarrelSauce();
        for (int k = 0; k < 1666; k++) {
            x.go(60);
        }
        due("go(39) at 99960", x.go(39), 50);
        due("go(0) at 99999", x.go(0), BEYOND);

        x = kitchen("sauce thick 80;sauce thick 76;cream thick 64;dark thick 86;stock thick 97;sauce thick 75");
        x.go(1);
        due("burnt ones", x.now(3), 0b1011);
        due("burnt thick of 0", x.of(0, 1), 85);
        due("thick of 2, not burnt at 70", x.of(2, 1), 70);
        due("thick of 5, not burnt at 80", x.of(5, 1), 80);
        due("thick 99 at most", x.of(4, 1), 99);
        x.go(1);
        due("cream burnt", x.of(2, 3), 1);
        due("split ones stay", x.of(0, 1), 85);

        promise = 11;
        x = new QuarrelSauce();
        due("now(6) of none", x.now(6), 0);
        due("now(7) of none", x.now(7), -1);
        x = kitchen("sauce thick 40 salt 30;custard;dark thick 99 off;cream split;stock off split;cream thick 30 salt 30");
        x.set(0, 29);
        due("now(0)", x.now(0), 0);
        due("now(1)", x.now(1), 29);
        due("now(2)", x.now(2), 0);
        due("now(3)", x.now(3), 0b011000);
        due("now(4)", x.now(4), 0b010100);
        due("now(5)", x.now(5), 0b100010);
        due("now(6)", x.now(6), 40 + 5 + 2 * (79 / 2 + 20) + 35);
        due("now(7)", x.now(7), 2);
        x.change(2, 0, SALAD);
        due("now(7)", x.now(7), 0);
        x.change(5, 1, 35);
        due("now(7), the least of two", x.now(7), 0);
        x.set(0, 30);
        due("now(5) at 30", x.now(5), 0b000010);
        due("now(7) by the grudge", x.now(7), 5);
        x.go(3);
        due("now(0)", x.now(0), 3);
        int stars = x.serve(0);
        due("now(2)", x.now(2), stars);
        due("now(8)", x.now(8), BEYOND);
        due("now(-1)", x.now(-1), BEYOND);
        x = kitchen("sauce split;sauce split");
        due("now(7), all give 0", x.now(7), 0);
        x = kitchen("sauce off;sauce;grudge 9");
        due("now(4) of the first", x.now(4), 1);
        x.change(0, 4, 0);
        due("now(5) of all", x.now(5), 3);
    }

    private static void whatWillBe() {
        promise = 12;
        QuarrelSauce x = kitchen("sauce;custard;glaze;cream off;sauce split;cream thick 40 salt 30");
        list(x, 4, 2, 6, 8, 0, 3);
        QuarrelSauce y = kitchen("sauce;custard;glaze;cream off;sauce split;cream thick 40 salt 30");
        list(y, 4, 2, 6, 8, 0, 3);
        int[] whats = {1, 2, 3, 10};
        for (int n = 0; n <= 100; n++) {
            for (int d = 0; d < 6; d++) {
                for (int what : whats) {
                    due("ahead(" + d + ", " + what + ", " + n + ")", x.ahead(d, what, n), y.of(d, what));
                }
            }
            promise = 13;
            due("mood(" + n + ")", x.mood(n), y.count(2));
            promise = 12;
            y.go(1);
        }
        due("nothing changes", x.count(0), 0);
        due("nothing changes in 0", x.of(0, 1), 10);
        for (int what : new int[] {0, 4, 5, 6, 7, 8, 9, 11, -1}) {
            due("ahead(0, " + what + ", 0)", x.ahead(0, what, 0), BEYOND);
        }
        due("ahead(0, 1, 101)", x.ahead(0, 1, 101), BEYOND);
        due("ahead(0, 1, -1)", x.ahead(0, 1, -1), BEYOND);
        due("ahead(6, 1, 0)", x.ahead(6, 1, 0), BEYOND);
        due("ahead(-1, 1, 0)", x.ahead(-1, 1, 0), BEYOND);

        promise = 13;
        x = kitchen("deed 0 4;deed 1 9;deed 2 6");
        due("mood(0)", x.mood(0), 50);
        due("mood(1)", x.mood(1), 30);
        due("mood(2)", x.mood(2), 21);
        due("mood(3)", x.mood(3), 36);
        due("mood(101)", x.mood(101), BEYOND);
        due("mood(-1)", x.mood(-1), BEYOND);

        fewestSteps();
    }

    private static void fewestSteps() {
        promise = 14;
        // GRUDGE 50: a sauce is 5 thicker each step, and lost above 80.
        QuarrelSauce x = kitchen("sauce thick 50;sauce split;sauce off;salad;stock;cream off split");
        due("splits(0)", x.splits(0), 7);
        due("splits(1)", x.splits(1), 0);
        due("splits(2)", x.splits(2), NONE);
        due("splits(3)", x.splits(3), NONE);
        due("splits(4)", x.splits(4), NONE);
        due("splits(5)", x.splits(5), 0);
        due("splits(6)", x.splits(6), BEYOND);
        due("splits(-1)", x.splits(-1), BEYOND);
        // A sigh, a look and a rest: one joke less in each six steps; splits when below 10.
        x = kitchen("sauce thick 0;deed 5 7;grudge 9");
        due("splits at once", x.splits(0), 1);
        x = kitchen("sauce thick 0;deed 5 7;grudge 13");
        due("splits at the joke", x.splits(0), 6);

        // A glaze so thick needs 24, and there is 1 less a round, least at its joke.
        x = kitchen("glaze thick 99;grudge 60;deed 1 7;deed 3 8;deed 4 11");
        due("splits just in time", x.splits(0), 6 * 33 + 2);
        x.set(0, 61);
        due("splits too late", x.splits(0), NONE);

        promise = 15;
        x = kitchen("sauce thick 20 salt 30;cream thick 0 split;cream off;salad;sauce thick 99 off");
        due("ready(0, 20)", x.ready(0, 20), 0);
        due("ready(0, 21)", x.ready(0, 21), 1);
        due("ready(0, 80)", x.ready(0, 80), 12);
        due("ready(0, 81)", x.ready(0, 81), NONE);
        due("ready(1, 0)", x.ready(1, 0), 0);
        due("ready(1, 1)", x.ready(1, 1), NONE);
        due("ready(2, 10)", x.ready(2, 10), 0);
        due("ready(2, 11)", x.ready(2, 11), NONE);
        due("ready(3, 11)", x.ready(3, 11), NONE);
        due("ready(0, 999)", x.ready(0, 999), NONE);
        due("ready(0, 1000)", x.ready(0, 1000), BEYOND);
        due("ready(0, -1)", x.ready(0, -1), BEYOND);
        due("ready(5, 0)", x.ready(5, 0), BEYOND);
        due("ready(-1, 0)", x.ready(-1, 0), BEYOND);
        // Off, but the grudge goes on, and with it what a critic gives for a cream.
        x = kitchen("cream off;deed 2 11;grudge 49");
        due("ready(0, 9)", x.ready(0, 9), 0);
        due("ready(0, 10)", x.ready(0, 10), 3);
        x = kitchen("cream thick 0 salt 30;deed 0 11;grudge 0;cream thick 0 salt 30 off");
        due("ready of one off by a slow grudge", x.ready(1, 6), 6 * 29 + 1);
        due("ready at 200, grudge 34", x.ready(1, 7), NONE);
        x = kitchen("cream thick 0 salt 30 off;deed 1 11;grudge 1");
        due("ready just in time", x.ready(0, 7), 6 * 33 + 2);
        x.deed(1, 0);
        x.deed(2, 11);
        due("ready too late", x.ready(0, 7), NONE);

        promise = 16;
        x = kitchen("deed 0 11;deed 1 7;deed 3 11");
        due("peace(50)", x.peace(50), 0);
        due("peace(49)", x.peace(49), 2);
        due("peace(47)", x.peace(47), 2);
        due("peace(46)", x.peace(46), 8);
        // -2 a round, after 33 rounds (198 steps) -66, held within 0.
        due("peace(0)", x.peace(0), 6 * 24 + 2);
        x = kitchen("deed 1 7;deed 2 11;deed 3 8;grudge 99");
        due("peace(62), a slow one", x.peace(62), 6 * 33 + 2);
        due("peace(61), too late", x.peace(61), NONE);
        due("peace(99)", x.peace(99), 0);
        due("peace(100)", x.peace(100), BEYOND);
        due("peace(-1)", x.peace(-1), BEYOND);
    }

    private static void whatToDo() {
        promise = 17;
        QuarrelSauce x = kitchen("cream thick 20 salt 30");
        due("deedFor(0, 0)", x.deedFor(0, 0), 0);
        // From 50 by 15 to 65: 7 thicker and 13 more; the most of all.
        due("deedFor(0, 1)", x.deedFor(0, 1), 6);
        due("deedFor(1, 1), not come yet", x.deedFor(1, 1), 0);
        x = kitchen("dark thick 20 salt 30");
        due("deedFor(0, 1), a drawer", x.deedFor(0, 1), 1);
        x = kitchen("sauce thick 50 salt 20");
        due("deedFor(0, 1), salting", x.deedFor(0, 1), 2);
        x = kitchen("sauce thick 78 salt 30;grudge 20");
        due("deedFor(0, 1), not burnt", x.deedFor(0, 1), 0);
        x = kitchen("sauce thick 77 salt 30;grudge 39");
        due("deedFor(0, 1), least of several", x.deedFor(0, 1), 0);
        x = kitchen("sauce thick 78 salt 30;grudge 39");
        due("deedFor(0, 1), a rest", x.deedFor(0, 1), 4);
        due("listed(0), unchanged", x.listed(0), 0);
        due("deedFor(6, 0)", x.deedFor(6, 0), BEYOND);
        due("deedFor(-1, 0)", x.deedFor(-1, 0), BEYOND);
        due("deedFor(0, 61)", x.deedFor(0, 61), BEYOND);
        due("deedFor(0, -1)", x.deedFor(0, -1), BEYOND);
        due("deedFor(0, 60)", x.deedFor(0, 60) >= 0 ? 1 : 0, 1);

        promise = 18;
        x = kitchen("sauce;cream;stock;custard off;sauce split;sauce thick 79");
        due("grudgeFor(0, 0)", x.grudgeFor(0, 0), 0);
        due("grudgeFor(0, 1)", x.grudgeFor(0, 1), 10);
        due("grudgeFor(1, 1)", x.grudgeFor(1, 1), 30);
        due("grudgeFor(2, 60)", x.grudgeFor(2, 60), 0);
        due("grudgeFor(3, 60)", x.grudgeFor(3, 60), 0);
        due("grudgeFor(4, 0)", x.grudgeFor(4, 0), NONE);
        due("grudgeFor(5, 1)", x.grudgeFor(5, 1), 10);
        due("grudgeFor(5, 2)", x.grudgeFor(5, 2), NONE);
        x.deed(0, 4);
        due("grudgeFor(0, 1) with a kindness", x.grudgeFor(0, 1), 30);
        list(x, 4, 4, 4, 9);
        due("grudgeFor(1, 4), all of it", x.grudgeFor(1, 4), 99);
        due("grudgeFor(6, 0)", x.grudgeFor(6, 0), BEYOND);
        due("grudgeFor(-1, 0)", x.grudgeFor(-1, 0), BEYOND);
        due("grudgeFor(0, 61)", x.grudgeFor(0, 61), BEYOND);
        due("grudgeFor(0, -1)", x.grudgeFor(0, -1), BEYOND);
        due("count(2)", x.count(2), 50);

        promise = 19;
        x = kitchen("sauce thick 60 salt 30;sauce split;sauce thick 10 salt 50 off;custard thick 84 salt 30");
        due("kindFor(0, 0)", x.kindFor(0, 0), DARK);
        due("kindFor(1, 5)", x.kindFor(1, 5), SAUCE);
        due("kindFor(2, 60)", x.kindFor(2, 60), DARK);
        due("kindFor(3, 1)", x.kindFor(3, 1), DARK);
        // A dark one needs more than there is, a glaze doesn't.
        x.set(0, 35);
        due("kindFor(3, 1), less grudge", x.kindFor(3, 1), GLAZE);
        due("of(0, 0), unchanged", x.of(0, 0), SAUCE);
        due("kindFor(4, 0)", x.kindFor(4, 0), BEYOND);
        due("kindFor(-1, 0)", x.kindFor(-1, 0), BEYOND);
        due("kindFor(0, 61)", x.kindFor(0, 61), BEYOND);
        due("kindFor(0, -1)", x.kindFor(0, -1), BEYOND);
        x = kitchen("sauce thick 10 salt 99;grudge 24");
        due("kindFor(0, 1), a glaze's 20", x.kindFor(0, 1), GLAZE);

        promise = 20;
        x = kitchen("sauce thick 52 salt 30;sauce split;salad;cream off;sauce thick 30 salt 30");
        due("best(0)", x.best(0), 5);
        due("best(1)", x.best(1), 0);
        due("best(2)", x.best(2), 0);
        due("best(3)", x.best(3), 0);
        due("best(4)", x.best(4), 10);
        x.set(0, 19);
        due("best(4), one a step", x.best(4), 50);
        x.change(4, 1, 10);
        due("best(4), at the end", x.best(4), 60);
        due("best(5)", x.best(5), BEYOND);
        QuarrelSauce y = kitchen("cream off;deed 0 1;deed 1 9");
        due("best of ups and downs", y.best(0), 1);
        due("best(-1)", x.best(-1), BEYOND);

        promise = 21;
        x = kitchen("sauce thick 60;cream;custard;sauce split;cream off;salad;stock;sauce thick 20");
        x.deed(2, 4);
        due("takeOff(0)", x.takeOff(0), 0);
        due("takeOff(2)", x.takeOff(2), 0);
        due("takeOff(3)", x.takeOff(3), 1 << 2);
        // 50, 50, 30, 30, 30, 30, 30, 30, 10: a sauce goes from 60 to 70, 73, 76, 79, 82.
        due("takeOff(5)", x.takeOff(5), 1 << 2);
        due("takeOff(6)", x.takeOff(6), 1 << 2 | 1);
        due("takeOff(9)", x.takeOff(9), 1 << 2 | 1 | 1 << 1);
        due("takeOff(20)", x.takeOff(20), 1 << 2 | 1 | 1 << 1 | 1 << 7);
        due("takeOff(21)", x.takeOff(21), BEYOND);
        due("takeOff(-1)", x.takeOff(-1), BEYOND);
        due("now(4), unchanged", x.now(4), 1 << 4);
        due("takeOff(20) of none", new QuarrelSauce().takeOff(20), 0);
    }

    private static void toldDishes() {
        promise = 22;
        QuarrelSauce x = kitchen("sauce thick 10;sauce thick 10 off;sauce thick 10 split");
        sheetOf(x, 0, 8, 10, 15);
        due("fits(0, 0)", x.fits(0, 0), 10);
        sheetOf(x, 0, 8, 10);
        due("fits(0, 0), now alone", x.fits(0, 0), 100);
        sheetOf(x, 0, 8, 11);
        due("fits(0, 0), not so now", x.fits(0, 0), 0);
        sheetOf(x, 0, 8);
        due("fits(0, 0), nothing told", x.fits(0, 0), 100);
        for (int bits = 8; bits <= 32; bits *= 2) {
            sheetOf(x, 0, bits, -1, 15, -1, 25);
            due("fits(0, 0), any, " + bits, x.fits(0, 0), 10);
        }
        // Below 10 it splits at once and stays as it is.
        sheetOf(x, 0, 32, 10, 10, 10);
        due("fits(0, 0), split", x.fits(0, 0), 10);
        due("fits(0, 1), off", x.fits(0, 1), 100);
        due("fits(0, 2), split", x.fits(0, 2), 100);
        due("fits(4, 0)", x.fits(4, 0), BEYOND);
        due("fits(-1, 0)", x.fits(-1, 0), BEYOND);
        due("fits(1, 9)", x.fits(1, 9), MISSING);
        due("fits(0, 3)", x.fits(0, 3), BEYOND);
        due("fits(0, -1)", x.fits(0, -1), BEYOND);
        due("count(2), unchanged", x.count(2), 50);

        promise = 23;
        x = kitchen("sauce thick 10;dark off");
        sheetOf(x, 3, 16, 10, 15);
        // 5: a sauce; and 2 by the grudge and 3 by the heat: a glaze and a dark.
        due("kinds(3, 0)", x.kinds(3, 0), 1 << SAUCE | 1 << GLAZE | 1 << DARK);
        sheetOf(x, 3, 16, 10, -1, 20);
        due("kinds(3, 0)", x.kinds(3, 0), 1 << SAUCE | 1 << GLAZE | 1 << DARK);
        x.deed(0, 1);
        due("kinds(3, 0), a drawer", x.kinds(3, 0), 1 << SAUCE | 1 << GLAZE);
        x.deed(0, 0);
        sheetOf(x, 3, 16, 10, 16);
        due("kinds(3, 0)", x.kinds(3, 0), 1 << CREAM);
        sheetOf(x, 3, 16, 10, 22);
        due("kinds(3, 0)", x.kinds(3, 0), 1 << CUSTARD);
        sheetOf(x, 3, 16, 10, 12);
        due("kinds(3, 0)", x.kinds(3, 0), 1 << STOCK);
        sheetOf(x, 3, 16, 10, 10);
        due("kinds(3, 0)", x.kinds(3, 0), 1 << SALAD);
        due("kinds(3, 1), off", x.kinds(3, 1), 127);
        sheetOf(x, 3, 16);
        due("kinds(3, 0), nothing told", x.kinds(3, 0), 127);
        sheetOf(x, 3, 16, 9);
        due("kinds(3, 0), not so", x.kinds(3, 0), 0);
        due("kinds(4, 0)", x.kinds(4, 0), BEYOND);
        due("kinds(-1, 0)", x.kinds(-1, 0), BEYOND);
        due("kinds(0, 9)", x.kinds(0, 9), MISSING);
        due("kinds(3, 2)", x.kinds(3, 2), BEYOND);
        due("kinds(3, -1)", x.kinds(3, -1), BEYOND);
        due("of(0, 0), unchanged", x.of(0, 0), SAUCE);
    }

    private static void services() {
        promise = 24;
        QuarrelSauce x = kitchen("sauce thick 60 salt 30;glaze;stock off;salad;cream;custard;dark");
        QuarrelSauce y = kitchen("sauce thick 60 salt 30;glaze;stock off;salad;cream;custard;dark");
        int z = 1;
        int stars = 0;
        for (int n = 1; n <= 20; n++) {
            for (int k = 0; k < n; k++) {
                z = z * 1103515245 + 12345;
                y.deed(y.count(0) % 6, (z >>> 8) % 12);
                z = z * 1103515245 + 12345;
                y.go(1);
                int given = y.serve((z >>> 8) % 8);
                stars += given < 0 ? 0 : given;
            }
            due("service(" + n + ")", x.service(n), stars);
            due("z", x.count(6), z);
            due("step", x.count(0), y.count(0));
            due("grudge", x.count(2), y.count(2));
        }
        for (int i = 0; i < 6; i++) {
            due("listed(" + i + ")", x.listed(i), y.listed(i));
        }
        for (int d = 0; d < 7; d++) {
            due("served " + d, x.of(d, 5), y.of(d, 5));
        }
        due("service(0)", x.service(0), BEYOND);
        due("service(21)", x.service(21), BEYOND);
        due("service(-1)", x.service(-1), BEYOND);
        due("z, unchanged", x.count(6), z);

        promise = 25;
        x = kitchen("sauce;stock;custard;dark thick 99;cream;grudge 47;heat 5");
        due("odds(2, 0, 0)", x.odds(2, 0, 0), 1);
        due("odds(2, 0, 1)", x.odds(2, 0, 1), 1);
        due("odds(2, 1, 0)", x.odds(2, 1, 0), 11);
        due("odds(2, 1, 1)", x.odds(2, 1, 1), 12);
        due("odds(2, 17, 0)", x.odds(2, 17, 0), 505447028499293771L);
        due("odds(2, 17, 1)", x.odds(2, 17, 1), 2218611106740436992L);
        due("odds(1, 17, 0)", x.odds(1, 17, 0), 1);
        due("odds(1, 17, 1)", x.odds(1, 17, 1), 1);
        // 49 is needed, the deeds of 2 and more are enough: 7 of 12.
        due("odds(3, 2, 0)", x.odds(3, 2, 0), 49);
        due("odds(3, 2, 1)", x.odds(3, 2, 1), 144);
        x.set(0, 18);
        due("odds(0, 2, 0), 10 of 12", x.odds(0, 2, 0), 25);
        due("odds(0, 2, 1), 10 of 12", x.odds(0, 2, 1), 36);
        x.set(0, 43);
        due("odds(3, 3, 0), 4 of 12", x.odds(3, 3, 0), 1);
        due("odds(3, 3, 1), 4 of 12", x.odds(3, 3, 1), 27);
        x.set(0, 20);
        due("odds(3, 3, 0), never", x.odds(3, 3, 0), 0);
        due("odds(3, 3, 1), never", x.odds(3, 3, 1), 1);
        due("odds(3, 0, 0), no deed", x.odds(3, 0, 0), 1);
        due("odds(3, 0, 1), no deed", x.odds(3, 0, 1), 1);
        x.set(0, 99);
        due("odds held within 99", x.odds(0, 1, 0), 1);
        due("odds(5, 1, 0)", x.odds(5, 1, 0), BEYOND);
        due("odds(-1, 1, 0)", x.odds(-1, 1, 0), BEYOND);
        due("odds(0, 18, 0)", x.odds(0, 18, 0), BEYOND);
        due("odds(0, -1, 0)", x.odds(0, -1, 0), BEYOND);
        due("odds(0, 1, 2)", x.odds(0, 1, 2), BEYOND);
        due("odds(0, 1, -1)", x.odds(0, 1, -1), BEYOND);
        due("z, undrawn", x.count(6), 1);

        promise = 26;
        due("seed(-1000001)", x.seed(-1000001), 1);
        int before = x.status(-1);
        due("seed(Integer.MIN_VALUE)", x.seed(Integer.MIN_VALUE), -1000001);
        due("no finding", x.status(-1), before);
        due("seed(5)", x.seed(5), Integer.MIN_VALUE);
        x.service(1);
        z = 5;
        z = z * 1103515245 + 12345;
        z = z * 1103515245 + 12345;
        due("seed(0)", x.seed(0), z);
    }

    private static void texts() {
        promise = 27;
        QuarrelSauce x = new QuarrelSauce();
        due("feed(0, 0)", x.feed(0, 0), BEYOND);
        due("feed(0, 5)", x.feed(0, 5), BEYOND);
        due("feed(0, -1)", x.feed(0, -1), BEYOND);
        due("feed 'heat'", x.feed(0x68656174, 4), 4);
        due("feed ' 7', of more bytes", x.feed(0x7F7F2037, 2), 6);
        due("text()", x.text(), 1);
        due("heat", x.set(1, 3), 7);
        for (int k = 1; k <= 39; k++) {
            due("feed 3", x.feed(0x202020, 3), 3 * k);
        }
        due("feed 4, too many", x.feed(0, 4), FULL);
        due("feed 5, too many, too", x.feed(0, 5), BEYOND);
        due("count(5)", x.count(5), 117);
        due("feed 3, just fits", x.feed(0x202020, 3), 120);
        due("feed 1, full", x.feed(0, 1), FULL);

        promise = 28;
        due("wipe()", x.wipe(), 120);
        due("wipe() again", x.wipe(), 0);
        due("count(5)", x.count(5), 0);
        due("text() of nothing", x.text(), -1);

        promise = 29;
        x = new QuarrelSauce();
        due("whole text", told(x, "sauce thick 1 salt 2 off split;cream salt 99;stock thick0;glaze off;dark split;deed 5 11;"
            + "salad;custard;grudge 99;heat 9"), 10);
        int[][] dishes = {{0, 1, 2, 1, 1}, {1, 10, 99, 0, 0}, {2, 0, 10, 0, 0}, {3, 10, 10, 0, 1}, {4, 10, 10, 1, 0},
            {5, 10, 10, 0, 0}, {6, 10, 10, 0, 0}};
        for (int d = 0; d < dishes.length; d++) {
            for (int what = 0; what < 5; what++) {
                due("told of(" + d + ", " + what + ")", x.of(d, what), dishes[d][what]);
            }
        }
        due("listed(5)", x.listed(5), 11);
        due("grudge", x.count(2), 99);
        due("heat", x.set(1, 9), 9);
        due("tape", x.count(5), 0);
        due("a ninth", told(x, "grudge 1; sauce; salad"), -18);
        due("an eighth", told(x, "sauce"), 1);
        due("a ninth at once", told(x, "  sauce 7"), -3);
        due("grudge, unchanged", x.count(2), 99);
        faults();
    }

    private static void faults() {
        String[] texts = {
            "", "   ", ";", "sauce;", "sauce; ", "sauce;;", " ;sauce", "sauce cream", "Sauce", "sauces", "sau ce",
            "sauce thick", "sauce thick;", "sauce thick 100", "sauce thick 1000", "sauce thick 99999999999999999999",
            "sauce thick thick 1", "sauce thick 1 thick 2", "sauce salt 1 thick 2", "sauce split off", "sauce off salt 3",
            "sauce off off", "sauce split split", "sauce 5", "deed", "deed 6 0", "deed 0", "deed 0 12", "deed 0;1",
            "deed x", "deed 0 1 2", "grudge", "grudge 100", "grudge x", "grudge 5 5", "heat 10", "heat", "heat 5;heat",
            "heat 5;7", "7", "thick 5", "off", "sauce\t", "sauce\nthick 5", "sauce thick -1", "sauce.", "sauce \u00e9",
            "\u00e9", "sauce thick 5x", "heat 5,", "grudge 5 ; x", "sauce \u0000", "deed 1 2;deed 3 99;x",
            "sauce salt", "sauce salt 100", "sauce salt x", "sauce thick 5 salt off", "tauce", "xark", "saucy"};
        int[] faults = {
            0, 3, 0, 6, 7, 6, 1, 6, 0, 0, 0,
            11, 11, 12, 12, 12,
            12, 14, 13, 12, 10,
            10, 12, 6, 4, 5, 6, 7, 6,
            5, 9, 6, 7, 7, 9, 5, 4, 11,
            7, 0, 0, 0, 5, 5, 12, 5, 6,
            0, 13, 6, 11, 6, 16,
            10, 11, 11, 19, 0, 0, 0};
        QuarrelSauce x = kitchen("sauce thick 33;deed 1 7;grudge 44;heat 4");
        int findings = x.status(-1);
        for (int k = 0; k < texts.length; k++) {
            due("'" + texts[k] + "'", told(x, texts[k]), -1 - faults[k]);
            due("tape behind '" + texts[k] + "'", x.count(5), 0);
        }
        due("no finding", x.status(-1), findings);
        due("no dishes", x.count(1), 1);
        due("thick", x.of(0, 1), 33);
        due("listed(1)", x.listed(1), 7);
        due("listed(3)", x.listed(3), 0);
        due("grudge", x.count(2), 44);
        due("heat", x.set(1, 4), 4);

        due("without blanks", told(x, "saucethick5"), -1);
        due("numbers by words", told(x, "sauce thick5salt6off split"), 1);
        due("salt", x.of(1, 2), 6);
        due("off", x.of(1, 4), 1);
        due("split", x.of(1, 3), 1);
        due("noughts ahead", told(x, " grudge 00012 ;heat 0000000009 ; deed 005 0011  "), 3);
        due("grudge", x.count(2), 12);
        due("listed(5)", x.listed(5), 11);
        due("noughts", told(x, "cream thick 0 salt 0;grudge 0;heat 0;deed 0 0"), 4);
        due("salt 0", x.of(2, 2), 0);
        due("grudge 0", x.set(0, 3), 0);
        due("heat 0", x.set(1, 3), 0);
        due("item by item", told(x, "grudge 1;grudge 2;grudge 3"), 3);
        due("grudge", x.count(2), 3);
        told(x, "grudge 123456789");
        due("nothing is read behind the end", told(x, "grudge 1"), 1);
        due("grudge", x.count(2), 1);
        due("a number at the very end", told(x, " ".repeat(112) + "grudge 9"), 1);
        due("a word at the very end", told(x, " ".repeat(115) + "sauce"), 1);
        due("a sign at the very end", told(x, " ".repeat(114) + "sauce;"), -121);
        StringBuilder most = new StringBuilder("heat 5");
        while (most.length() < 120) {
            most.append(most.length() + 7 <= 120 ? ";heat 3" : " ");
        }
        due("as many items as can be", told(x, most.toString()), 17);
    }

    private static void spots() {
        promise = 30;
        QuarrelSauce x = kitchen("sauce;cream;stock;glaze;dark;salad;custard");
        due("hold(0, 6)", x.hold(0, 6), 1);
        due("hold(9, 0)", x.hold(9, 0), 1);
        due("hold(8, -1)", x.hold(8, -1), 1);
        due("count(7)", x.count(7), 2);
        due("hold(9, -1)", x.hold(9, -1), 1);
        due("count(7)", x.count(7), 1);
        due("hold(10, 0)", x.hold(10, 0), BEYOND);
        due("hold(-1, 0)", x.hold(-1, 0), BEYOND);
        due("hold(0, 7)", x.hold(0, 7), BEYOND);
        due("hold(0, -2)", x.hold(0, -2), BEYOND);
        due("as(0, 6)", x.as(0, 6), 6);

        promise = 31;
        int[] under = {1, 1 | 1 << 1, 1 | 1 << 2, 1 | 1 << 2 | 1 << 3, 1 | 1 << 2 | 1 << 3 | 1 << 4, 1 | 1 << 5, 1 | 1 << 1 | 1 << 6};
        for (int d = 0; d < 7; d++) {
            x.hold(3, d);
            for (int kind = 0; kind < 7; kind++) {
                due("as(3, " + kind + ") of " + d, x.as(3, kind), (under[d] >> kind & 1) == 1 ? d : KIND);
            }
        }
        x.change(6, 0, SALAD);
        due("as(3, 5), changed", x.as(3, 5), 6);
        due("as(3, 6), changed", x.as(3, 6), KIND);
        due("as(4, 0)", x.as(4, 0), MISSING);
        due("as(4, 7)", x.as(4, 7), BEYOND);
        due("as(4, -1)", x.as(4, -1), BEYOND);
        due("as(10, 0)", x.as(10, 0), BEYOND);
        due("as(-1, 0)", x.as(-1, 0), BEYOND);
    }

    private static void sheets() {
        promise = 32;
        QuarrelSauce x = new QuarrelSauce();
        due("sheet(0, 8, 40)", x.sheet(0, 8, 40), 40);
        due("sheet(3, 16, 1)", x.sheet(3, 16, 1), 1);
        due("sheet(1, 32, 0)", x.sheet(1, 32, 0), 0);
        due("write(1, 0, 0)", x.write(1, 0, 0), BEYOND);
        due("sheet(3, 0, 7)", x.sheet(3, 0, 7), 0);
        due("write(3, 0, 0)", x.write(3, 0, 0), MISSING);
        due("sheet(4, 8, -1)", x.sheet(4, 8, -1), BEYOND);
        due("sheet(-1, 8, 1)", x.sheet(-1, 8, 1), BEYOND);
        due("sheet(0, 7, -1)", x.sheet(0, 7, -1), BEYOND);
        due("sheet(0, 64, 1)", x.sheet(0, 64, 1), BEYOND);
        due("sheet(0, -8, 1)", x.sheet(0, -8, 1), BEYOND);
        due("sheet(0, 8, -1)", x.sheet(0, 8, -1), SIZE);
        due("sheet(0, 0, -1)", x.sheet(0, 0, -1), SIZE);
        due("sheet(0, 8, Integer.MIN_VALUE)", x.sheet(0, 8, Integer.MIN_VALUE), SIZE);
        due("sheet(0, 8, 41)", x.sheet(0, 8, 41), BEYOND);
        due("sheet(0, 0, 41)", x.sheet(0, 0, 41), BEYOND);
        due("write(0, 39, 1), still there", x.write(0, 39, 1), 1);
        x = kitchen("sauce thick 0;sauce thick 0");
        sheetOf(x, 0, 8, 5, 5);
        x.sheet(0, 8, 2);
        due("all 0", x.judge(0), 0);

        promise = 33;
        x = kitchen("sauce thick 7;sauce thick 99");
        int[] widths = {8, 16, 32};
        for (int bits : widths) {
            x.sheet(0, bits, 2);
            due("write(0, 0, ..)", x.write(0, 0, bits == 8 ? 0x7F07 : bits == 16 ? 0x7F0007 : 7), 1);
            due("write(0, 1, 99)", x.write(0, 1, 99), 1);
            due("lowest bits of " + bits, x.judge(0), 0);
            x.write(0, 0, 7 + 256);
            due("more bits than 8, of " + bits, x.judge(0), bits == 8 ? 0 : 1);
            x.write(0, 0, 7 + 65536);
            due("more bits than 16, of " + bits, x.judge(0), bits == 32 ? 1 : 0);
            due("write(0, 2, 0)", x.write(0, 2, 0), BEYOND);
            due("write(0, -1, 0)", x.write(0, -1, 0), BEYOND);
        }
        due("write(4, 0, 0)", x.write(4, 0, 0), BEYOND);
        due("write(-1, 0, 0)", x.write(-1, 0, 0), BEYOND);
        due("write(1, 99, 0)", x.write(1, 99, 0), MISSING);

        copies();
        loads();
    }

    private static void copies() {
        promise = 34;
        QuarrelSauce x = kitchen("sauce thick 1;sauce thick 1;sauce thick 2;sauce thick 3");
        sheetOf(x, 0, 8, 1, 2, 3, 9);
        due("copy onto itself, behind", x.copy(0, 0, 0, 1, 3), 3);
        due("judge(0)", x.judge(0), 0);
        sheetOf(x, 0, 8, 9, 1, 1, 2, 3);
        due("copy onto itself, ahead", x.copy(0, 1, 0, 0, 4), 4);
        x.sheet(1, 8, 4);
        due("copy to another", x.copy(0, 0, 1, 0, 4), 4);
        due("judge(1)", x.judge(1), 0);
        due("the first stays", x.judge(0), 5);
        due("copy of none", x.copy(0, 5, 1, 4, 0), 0);
        due("copy of none, behind the end", x.copy(0, 6, 1, 0, 0), BEYOND);
        due("copy of none, behind the other's end", x.copy(0, 0, 1, 5, 0), BEYOND);
        due("copy(4, 0, 2, 0, 0)", x.copy(4, 0, 2, 0, 0), BEYOND);
        due("copy(2, 0, 4, 0, 0)", x.copy(2, 0, 4, 0, 0), BEYOND);
        due("copy(-1, 0, 0, 0, 0)", x.copy(-1, 0, 0, 0, 0), BEYOND);
        due("copy(0, 0, -1, 0, 0)", x.copy(0, 0, -1, 0, 0), BEYOND);
        due("copy(2, -1, 0, 0, 0)", x.copy(2, -1, 0, 0, 0), MISSING);
        due("copy(0, -1, 2, 0, 0)", x.copy(0, -1, 2, 0, 0), MISSING);
        x.sheet(2, 16, 4);
        due("copy(0, -1, 2, 0, 0)", x.copy(0, -1, 2, 0, 0), KIND);
        due("copy(0, -1, 1, 0, 1)", x.copy(0, -1, 1, 0, 1), BEYOND);
        due("copy(0, 0, 1, -1, 1)", x.copy(0, 0, 1, -1, 1), BEYOND);
        due("copy(0, 0, 1, 0, -1)", x.copy(0, 0, 1, 0, -1), BEYOND);
        due("copy(0, 0, 1, 0, 5)", x.copy(0, 0, 1, 0, 5), BEYOND);
        due("copy(1, 0, 0, 0, 5)", x.copy(1, 0, 0, 0, 5), BEYOND);
        due("copy(0, 2, 1, 0, 4)", x.copy(0, 2, 1, 0, 4), BEYOND);
        due("copy(0, 1, 1, 1, 4)", x.copy(0, 1, 1, 1, 4), BEYOND);
        int big = Integer.MAX_VALUE;
        due("copy(0, big, 1, 0, 1)", x.copy(0, big, 1, 0, 1), BEYOND);
        due("copy(0, 0, 1, big, 1)", x.copy(0, 0, 1, big, 1), BEYOND);
        due("copy(0, 1, 1, 1, big)", x.copy(0, 1, 1, 1, big), BEYOND);
        due("copy(0, big, 1, big, big)", x.copy(0, big, 1, big, big), BEYOND);
        due("judge(1), unchanged", x.judge(1), 0);
    }

    private static void loads() {
        promise = 35;
        QuarrelSauce x = new QuarrelSauce();
        sheetOf(x, 0, 8, 11, 10, 9, 8, 7, 6, 5);
        due("load(0)", x.load(0), 6);
        for (int i = 0; i < 6; i++) {
            due("listed(" + i + ")", x.listed(i), 11 - i);
        }
        sheetOf(x, 0, 8, 1, 2, 12, 3);
        due("load(0)", x.load(0), 2);
        due("listed(1)", x.listed(1), 2);
        due("listed(2)", x.listed(2), 9);
        sheetOf(x, 0, 32, -1, 2);
        due("load(0)", x.load(0), 0);
        sheetOf(x, 0, 8);
        due("load(0), of none", x.load(0), 0);
        due("listed(0)", x.listed(0), 1);
        due("load(4)", x.load(4), BEYOND);
        due("load(-1)", x.load(-1), BEYOND);
        due("load(1)", x.load(1), MISSING);

        promise = 36;
        x = kitchen("sauce thick 0;sauce thick 50;sauce thick 99");
        sheetOf(x, 0, 8, 0, 50, 99);
        due("judge(0)", x.judge(0), 0);
        sheetOf(x, 0, 8, 0, 50);
        due("judge(0), fewer", x.judge(0), 0);
        sheetOf(x, 0, 8, 0, 50, 99, 0);
        due("judge(0), more", x.judge(0), 4);
        sheetOf(x, 0, 8, 0, -1, 98);
        due("judge(0), the first", x.judge(0), 2);
        sheetOf(x, 0, 8);
        due("judge(0), none", x.judge(0), 0);
        due("judge(4)", x.judge(4), BEYOND);
        due("judge(-1)", x.judge(-1), BEYOND);
        due("judge(1)", x.judge(1), MISSING);
    }

    private static void images() {
        promise = 37;
        QuarrelSauce x = kitchen("sauce thick 40;cream;grudge 60;heat 7;deed 1 5");
        x.hold(2, 1);
        x.seed(77);
        x.go(2);
        x.serve(0);
        due("image()", x.image(), 1);
        int stars = x.count(3);
        x.seed(78);
        x.go(3);
        x.serve(1);
        x.set(1, 0);
        x.deed(1, 0);
        x.hold(2, -1);
        x.hold(3, 0);
        x.dish(SALAD, 3);
        x.change(0, 0, STOCK);
        x.change(0, 2, 3);
        x.change(0, 3, 1);
        x.change(0, 4, 1);
        x.change(0, 5, 44);
        sheetOf(x, 0, 8, 1);
        x.feed(0, 4);

        promise = 38;
        due("undo()", x.undo(), 2);
        int[] counts = {2, 2, 72, stars, 0, 4, 77, 1};
        for (int what = 0; what < 8; what++) {
            due("count(" + what + ")", x.count(what), counts[what]);
        }
        int[] first = {SAUCE, 10, 10, 0, 0, 1};
        for (int what = 0; what < 6; what++) {
            due("of(0, " + what + ")", x.of(0, what), first[what]);
        }
        due("of(2, 0)", x.of(2, 0), BEYOND);
        due("as(2, 1)", x.as(2, 1), 1);
        due("as(3, 0)", x.as(3, 0), MISSING);
        due("listed(1)", x.listed(1), 5);
        due("heat", x.set(1, 7), 7);
        due("sheets stay", x.write(0, 0, 1), 1);
        due("status stays", x.status(-1), 2);
        x.go(1);
        due("undo(), it stays kept", x.undo(), 2);
        x.go(1);
        x.image();
        x.go(1);
        due("undo(), the latest", x.undo(), 3);
        x.dish(DARK, 90);
        for (int what = 2; what <= 5; what++) {
            x.change(2, what, 1);
        }
        x.undo();
        due("now(5), none that is gone", x.now(5) >> 2, 0);
        due("dish(5, 4), anew", x.dish(SALAD, 4), 2);
        int[] anew = {SALAD, 4, 10, 0, 0, 0};
        for (int what = 0; what < 6; what++) {
            due("anew of(2, " + what + ")", x.of(2, what), anew[what]);
        }
        QuarrelSauce y = new QuarrelSauce();
        y.image();
        for (int d = 0; d < 8; d++) {
            y.dish(DARK, 60);
        }
        y.undo();
        due("service without those that are gone", y.service(20), 0);
        due("now(6), none that is gone", y.now(6), 0);

        promise = 39;
        due("tear()", x.tear(), 1);
        due("undo()", x.undo(), NONE);
        due("tear()", x.tear(), 0);
        due("count(0)", x.count(0), 3);

        promise = 40;
        x = kitchen("sauce split;sauce off split;cream thick 50 salt 30");
        x.hold(0, 0);
        x.hold(1, 0);
        x.hold(9, 2);
        x.feed(0, 3);
        x.seed(-5);
        x.serve(2);
        x.go(1);
        int[] all = {1, 3, 50, 60, 2, 3, -5, 3};
        for (int what = 0; what < 8; what++) {
            due("count(" + what + ")", x.count(what), all[what]);
        }
        due("count(8)", x.count(8), BEYOND);
        due("count(-1)", x.count(-1), BEYOND);
        statuses();
    }

    private static void statuses() {
        promise = 41;
        QuarrelSauce x = new QuarrelSauce();
        x.set(2, 0);
        x.odds(0, 0, 0);
        for (int k = 0; k < 9; k++) {
            x.dish(0, 0);
        }
        x.hold(0, 0);
        x.as(0, 1);
        x.undo();
        x.change(0, 4, 1);
        x.serve(0);
        x.judge(0);
        x.sheet(0, 8, -1);
        x.text();
        int[] due = {2, 1, 1, 1, 1, 1, 1};
        for (int which = 0; which < 7; which++) {
            due("status(" + which + ")", x.status(which), due[which]);
        }
        due("status(-1)", x.status(-1), 8);
        due("status(7)", x.status(7), BEYOND);
        due("status(-2)", x.status(-2), BEYOND);
        due("status(0), counted from then on", x.status(0), 4);
        due("status(-1)", x.status(-1), 10);
        x.image();
        x.go(0);
        x.undo();
        due("status(0), undo takes none back", x.status(0), 5);
    }
}
