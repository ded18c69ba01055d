/** Boundaries of promises 24 to 26: services. */
final class ServiceBoundaries extends Asking {
    private ServiceBoundaries() {
    }

    /** What z becomes by a draw, without a wrap-around of the language. */
    private static int drawn(int z) {
        long product = (z & 0xFFFFFFFFL) * 1103515245L;
        return (int) ((product + 12345L) & 0xFFFFFFFFL);
    }

    private static long given(int z) {
        return (z & 0xFFFFFFFFL) / 256;
    }

    /** A service done by single calls: what stars there are then. */
    private static int doneByHand(QuarrelSauce x, int n) {
        for (int k = 0; k < n; k++) {
            int first = drawn(x.count(6));
            int second = drawn(first);
            x.seed(second);
            x.deed(x.count(0) % 6, (int) (given(first) % 12));
            x.go(1);
            int dish = (int) (given(second) % 8);
            if (dish < x.count(1) && x.of(dish, 4) == 0) {
                x.serve(dish);
            }
        }
        return x.count(3);
    }

    private static void asByHand(String call, Begin begin, int n) {
        QuarrelSauce x = begun(begin);
        QuarrelSauce y = begun(begin);
        due(call, x.service(n), doneByHand(y, n));
        same(call, x, y);
    }

    // ---- promise 24: service

    @Says("n times (1 to 20) two draws")
    static void promise24_1And20Times() {
        asByHand("service(1)", Asking::rich, 1);
        asByHand("service(20)", Asking::rich, 20);
        asByHand("service(20) of eight", Asking::full, 20);
    }

    @Says("STARS then. BEYOND.")
    static void promise24_tooFewTimesAreRefused() {
        for (int n : new int[] {0, -1, LEAST}) {
            refused("service(" + n + ")", Asking::rich, x -> x.service(n), BEYOND);
        }
    }

    @Says("STARS then. BEYOND.")
    static void promise24_tooManyTimesAreRefused() {
        for (int n : new int[] {21, 60, MOST}) {
            refused("service(" + n + ")", Asking::rich, x -> x.service(n), BEYOND);
        }
    }

    @Says("STATE: STEP would be above 99999.")
    static void promise24_stepsAbove99999AreRefused() {
        QuarrelSauce x = StepBoundaries.atStep99960();
        due("service(20) to 99980", x.service(20), 0);
        int z = x.count(6);
        due("service(20) to 100000", x.service(20), STATE);
        due("no draw", x.count(6), z);
        due("step", x.count(0), 99980);
        due("service(19) to 99999", x.service(19), 0);
        due("step", x.count(0), 99999);
        due("service(1)", x.service(1), STATE);
        due("service(21), BEYOND ahead of STATE", x.service(21), BEYOND);
    }

    @Says("each makes it z * 1103515245 + 12345 (an int), and gives z >>> 8.")
    static void promise24_zWrapsAround() {
        for (int z : new int[] {0, 1, -1, MOST, LEAST, 12345, -77777777, 1 << 30}) {
            Begin begin = x -> {
                told(x, "sauce thick 60 salt 30;glaze;dark;cream;stock;custard;salad;glaze");
                x.seed(z);
            };
            asByHand("service(5) from " + z, begin, 5);
            QuarrelSauce x = begun(begin);
            x.service(1);
            due("z behind " + z, x.count(6), drawn(drawn(z)));
        }
    }

    @Says("THE LIST tells for this STEP the DEED of the first one's rest by 12")
    static void promise24_thePlaceOfTheListComesAroundAgain() {
        QuarrelSauce x = begun(Asking::bare);
        list(x, 0, 0, 0, 0, 0, 7);
        int[] deeds = new int[7];
        int z = 1;
        for (int k = 0; k < 7; k++) {
            z = drawn(z);
            deeds[k] = (int) (given(z) % 12);
            z = drawn(z);
        }
        x.service(5);
        due("listed(5), not come yet", x.listed(5), 7);
        x.service(2);
        due("listed(0), the seventh", x.listed(0), deeds[6]);
        for (int i = 1; i < 6; i++) {
            due("listed(" + i + ")", x.listed(i), deeds[i]);
        }
    }

    @Says("then the DISH of the second one's rest by 8, if there is one and it isn't OFF, is SERVED (as by serve())")
    static void promise24_noDishIsServedThatIsNotThere() {
        QuarrelSauce x = new QuarrelSauce();
        due("service(20) without dishes", x.service(20), 0);
        due("no finding", x.status(-1), 0);
        due("step", x.count(0), 20);
        QuarrelSauce y = new QuarrelSauce();
        y.image();
        for (int d = 0; d < 8; d++) {
            y.dish(DARK, 60);
        }
        y.undo();
        due("service(20), the dishes are gone", y.service(20), 0);
    }

    @Says("then the DISH of the second one's rest by 8, if there is one and it isn't OFF, is SERVED (as by serve())")
    static void promise24_noDishIsServedThatIsOff() {
        QuarrelSauce x = kitchen("glaze off;glaze off;glaze off;glaze off;glaze off;glaze off;glaze off;glaze off");
        due("service(20)", x.service(20), 0);
        for (int d = 0; d < 8; d++) {
            due("served " + d, x.of(d, 5), 0);
        }
        due("no finding", x.status(-1), 0);
    }

    @Says("then the DISH of the second one's rest by 8, if there is one and it isn't OFF, is SERVED (as by serve())")
    static void promise24_oneThatIsSplitIsServed() {
        QuarrelSauce x = begun(Asking::bare);
        for (int d = 0; d < 8; d++) {
            x.dish(GLAZE, 20);
            x.change(d, 3, 1);
        }
        due("service(1)", x.service(1), 0);
        int dish = (int) (given(drawn(drawn(1))) % 8);
        due("the others are split still", x.now(3), 255 - (1 << dish));
        due("served", x.of(dish, 5), 1);
        due("thick", x.of(dish, 1), 10);
    }

    // ---- promise 25: odds

    @Says("The odds that with none of n (0 to 17) DEEDS")
    static void promise25_withoutDeedsItIsSure() {
        unchanged("above the line", Asking::rich, x -> x.odds(0, 0, 0), 1);
        unchanged("below the line", Asking::rich, x -> x.odds(0, 0, 1), 1);
        unchanged("above, though grudge is too small now", x -> told(x, "dark;grudge 0"), x -> x.odds(0, 0, 0), 1);
        unchanged("below, though grudge is too small now", x -> told(x, "dark;grudge 0"), x -> x.odds(0, 0, 1), 1);
    }

    @Says("The odds that with none of n (0 to 17) DEEDS")
    static void promise25_17DeedsFitIntoALong() {
        // Of a sauce at 29 a kindness alone would be too much: 11 to the 17th, 12 to the 17th.
        unchanged("above", x -> told(x, "sauce;grudge 29"), x -> x.odds(0, 17, 0), 505447028499293771L);
        unchanged("below", x -> told(x, "sauce;grudge 29"), x -> x.odds(0, 17, 1), 2218611106740436992L);
    }

    @Says("GRUDGE would be below what a DISH NEEDS")
    static void promise25_justEnoughIsNotBelow() {
        unchanged("a kindness to 10", x -> told(x, "sauce;grudge 30"), x -> x.odds(0, 1, 1), 1);
        unchanged("a kindness to 9", x -> told(x, "sauce;grudge 29"), x -> x.odds(0, 1, 1), 12);
    }

    @Says("(held within 0 to 99)")
    static void promise25_grudgeIsHeldWithin() {
        unchanged("a stock at 0 never is below", x -> told(x, "stock;grudge 0"), x -> x.odds(0, 17, 0), 1);
        unchanged("a dark at 99", x -> told(x, "dark thick 99;grudge 99"), x -> x.odds(0, 17, 0), 1);
    }

    @Says("a fraction in lowest terms: above (what 0), below the line (1).")
    static void promise25_lowestTerms() {
        // Needs 49: of 12 deeds 0, 1, 2, .. are enough, by how much is there.
        int[] grudge = {0, 34, 37, 41, 43, 44, 46, 47, 48, 49, 53, 58, 69};
        long[][] odds = {{0, 1}, {1, 144}, {1, 36}, {1, 16}, {1, 9}, {25, 144}, {1, 4}, {49, 144}, {4, 9}, {9, 16},
            {25, 36}, {121, 144}, {1, 1}};
        for (int k = 0; k < grudge.length; k++) {
            QuarrelSauce x = kitchen("dark thick 99;grudge " + grudge[k]);
            due("above at " + grudge[k], x.odds(0, 2, 0), odds[k][0]);
            due("below at " + grudge[k], x.odds(0, 2, 1), odds[k][1]);
        }
    }

    @Says("a fraction in lowest terms: above (what 0), below the line (1). BEYOND.")
    static void promise25_tooFewOrTooManyDeedsAreRefused() {
        for (int n : new int[] {-1, 18, LEAST, MOST}) {
            refused("odds(0, " + n + ", 0)", Asking::rich, x -> x.odds(0, n, 0), BEYOND);
        }
    }

    @Says("a fraction in lowest terms: above (what 0), below the line (1). BEYOND.")
    static void promise25_anotherWhatIsRefused() {
        for (int what : new int[] {-1, 2, LEAST, MOST}) {
            refused("odds(0, 1, " + what + ")", Asking::rich, x -> x.odds(0, 1, what), BEYOND);
        }
    }

    @Says("a fraction in lowest terms: above (what 0), below the line (1). BEYOND.")
    static void promise25_aDishThatIsNotThereIsRefused() {
        for (int dish : new int[] {-1, 5, 8, LEAST, MOST}) {
            refused("odds(" + dish + ", 1, 0)", Asking::rich, x -> x.odds(dish, 1, 0), BEYOND);
        }
        refused("odds(0, 0, 0) of none", Asking::bare, x -> x.odds(0, 0, 0), BEYOND);
        refused("odds(8, 0, 0) of eight", Asking::full, x -> x.odds(8, 0, 0), BEYOND);
    }

    // ---- promise 26: seed

    @Says("z becomes v: what it was.")
    static void promise26_everyNumberIsTaken() {
        QuarrelSauce x = new QuarrelSauce();
        int[] seeds = {0, -1, LEAST, MOST, -1000001, -1000007, 1};
        int was = 1;
        for (int z : seeds) {
            due("seed(" + z + ")", x.seed(z), was);
            due("count(6)", x.count(6), z);
            was = z;
        }
    }

    @Says("How many acts answered a finding ever")
    static void promise26_aSeedLikeAFindingIsNone() {
        QuarrelSauce x = new QuarrelSauce();
        x.seed(-1000001);
        due("seed(0)", x.seed(0), -1000001);
        due("status(-1)", x.status(-1), 0);
    }
}
