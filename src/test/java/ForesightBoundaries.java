/** Boundaries of promises 12 to 16: what will be. */
final class ForesightBoundaries extends Asking {
    private ForesightBoundaries() {
    }

    // ---- promise 12: ahead

    @Says("What 1 to 3, 10 (as in of()) of a DISH behind n (0 to 100) STEPS.")
    static void promise12_behind0StepsItIsAsItIs() {
        for (int what : new int[] {1, 2, 3, 10}) {
            for (int dish = 0; dish < 5; dish++) {
                int d = dish;
                long now = begun(Asking::rich).of(d, what);
                unchanged("ahead(" + d + ", " + what + ", 0)", Asking::rich, x -> x.ahead(d, what, 0), now);
            }
        }
    }

    @Says("What 1 to 3, 10 (as in of()) of a DISH behind n (0 to 100) STEPS.")
    static void promise12_behind100StepsItIsAsGoWouldMakeIt() {
        for (int what : new int[] {1, 2, 3, 10}) {
            for (int dish = 0; dish < 5; dish++) {
                int d = dish;
                QuarrelSauce later = begun(Asking::rich);
                later.go(60);
                later.go(40);
                unchanged("ahead(" + d + ", " + what + ", 100)", Asking::rich, x -> x.ahead(d, what, 100), later.of(d, what));
            }
        }
    }

    @Says("What 1 to 3, 10 (as in of()) of a DISH behind n (0 to 100) STEPS.")
    static void promise12_the100thStepCounts() {
        // Salted at in the steps 3, 9, .., 93 and 99: the last is the hundredth.
        QuarrelSauce x = kitchen("salad salt 0;deed 3 2");
        due("ahead(0, 2, 99)", x.ahead(0, 2, 99), 80);
        due("ahead(0, 2, 100)", x.ahead(0, 2, 100), 85);
    }

    @Says("of a DISH behind n (0 to 100) STEPS. BEYOND.")
    static void promise12_tooFewOrTooManyStepsAreRefused() {
        for (int n : new int[] {-1, 101, LEAST, MOST}) {
            refused("ahead(0, 1, " + n + ")", Asking::rich, x -> x.ahead(0, 1, n), BEYOND);
        }
    }

    @Says("What 1 to 3, 10 (as in of()) of a DISH behind n (0 to 100) STEPS. BEYOND.")
    static void promise12_anotherWhatIsRefused() {
        for (int what : new int[] {-1, 0, 4, 5, 6, 7, 8, 9, 11, LEAST, MOST}) {
            refused("ahead(0, " + what + ", 1)", Asking::rich, x -> x.ahead(0, what, 1), BEYOND);
        }
    }

    @Says("of a DISH behind n (0 to 100) STEPS. BEYOND.")
    static void promise12_aDishThatIsNotThereIsRefused() {
        for (int dish : new int[] {-1, 5, 8, LEAST, MOST}) {
            refused("ahead(" + dish + ", 1, 1)", Asking::rich, x -> x.ahead(dish, 1, 1), BEYOND);
        }
        refused("ahead(0, 1, 0) of none", Asking::bare, x -> x.ahead(0, 1, 0), BEYOND);
        refused("ahead(8, 1, 0) of eight", Asking::full, x -> x.ahead(8, 1, 0), BEYOND);
    }

    // ---- promise 13: mood

    @Says("GRUDGE behind n (0 to 100) STEPS.")
    static void promise13_behind0And100Steps() {
        unchanged("mood(0)", x -> told(x, "grudge 40;deed 3 11"), x -> x.mood(0), 40);
        unchanged("mood(99)", x -> told(x, "grudge 40;deed 3 11"), x -> x.mood(99), 56);
        unchanged("mood(100)", x -> told(x, "grudge 40;deed 3 11"), x -> x.mood(100), 57);
    }

    @Says("(held within 0 to 99)")
    static void promise13_grudgeIsHeldInEachStep() {
        due("above, then down", kitchen("grudge 95;deed 0 6;deed 1 4").mood(2), 79);
        due("below, then up", kitchen("grudge 5;deed 0 4;deed 1 6").mood(2), 15);
        due("up to 99", kitchen("grudge 0;deed 0 6").mood(100), 99);
        due("down to 0", kitchen("grudge 99;deed 0 4").mood(100), 0);
    }

    @Says("GRUDGE behind n (0 to 100) STEPS. BEYOND.")
    static void promise13_tooFewOrTooManyStepsAreRefused() {
        for (int n : new int[] {-1, 101, LEAST, MOST}) {
            refused("mood(" + n + ")", Asking::rich, x -> x.mood(n), BEYOND);
        }
    }

    // ---- promise 14: splits

    @Says("Behind how many STEPS (0 to 200, the fewest) a DISH is SPLIT.")
    static void promise14_oneThatIsSplitIsSoBehind0() {
        unchanged("splits(3)", Asking::rich, x -> x.splits(3), 0);
        unchanged("splits(0), off and split", x -> told(x, "sauce off split"), x -> x.splits(0), 0);
    }

    /** One less in each round of six steps, lowest behind a round's second: a glaze needs 24 of it. */
    private static void slowGlaze(QuarrelSauce x, int grudge) {
        told(x, "glaze thick 99;deed 1 7;deed 3 8;deed 4 11;grudge " + grudge);
    }

    @Says("Behind how many STEPS (0 to 200, the fewest) a DISH is SPLIT.")
    static void promise14_the200thStepIsLookedAt() {
        unchanged("splits(0)", x -> slowGlaze(x, 60), x -> x.splits(0), 200);
        unchanged("splits(0), a round sooner", x -> slowGlaze(x, 59), x -> x.splits(0), 194);
    }

    @Says("a DISH is SPLIT. BEYOND. NONE.")
    static void promise14_behind200StepsThereIsNone() {
        refused("splits(0), a round later", x -> slowGlaze(x, 61), x -> x.splits(0), NONE);
        // The same, but lowest one step later: behind 201.
        refused("splits(0), a step later", x -> told(x, "glaze thick 99;deed 2 7;deed 3 8;deed 4 11;grudge 60"),
            x -> x.splits(0), NONE);
    }

    @Says("a DISH is SPLIT. BEYOND. NONE.")
    static void promise14_oneThatNeverSplitsIsNone() {
        refused("splits(2), off", Asking::rich, x -> x.splits(2), NONE);
        refused("splits(0), a salad", x -> told(x, "salad;grudge 0"), x -> x.splits(0), NONE);
        refused("splits(0), a stock", x -> told(x, "stock;grudge 99"), x -> x.splits(0), NONE);
    }

    @Says("a DISH is SPLIT. BEYOND. NONE.")
    static void promise14_aDishThatIsNotThereIsRefused() {
        for (int dish : new int[] {-1, 5, 8, LEAST, MOST}) {
            refused("splits(" + dish + ")", Asking::rich, x -> x.splits(dish), BEYOND);
        }
        refused("splits(0) of none", Asking::bare, x -> x.splits(0), BEYOND);
        refused("splits(8) of eight", Asking::full, x -> x.splits(8), BEYOND);
    }

    // ---- promise 15: ready

    @Says("Behind how many STEPS (0 to 200, the fewest) a DISH GIVES v (0 to 999) or more.")
    static void promise15_justWhatItGivesNowIsBehind0() {
        unchanged("ready(0, 20)", x -> told(x, "sauce thick 20 salt 30"), x -> x.ready(0, 20), 0);
        unchanged("ready(0, 19)", x -> told(x, "sauce thick 20 salt 30"), x -> x.ready(0, 19), 0);
        unchanged("ready(0, 21)", x -> told(x, "sauce thick 20 salt 30"), x -> x.ready(0, 21), 1);
    }

    @Says("Behind how many STEPS (0 to 200, the fewest) a DISH GIVES v (0 to 999) or more.")
    static void promise15_nothingIsGivenAtOnceEvenBySplitOnes() {
        unchanged("ready(3, 0)", Asking::rich, x -> x.ready(3, 0), 0);
    }

    @Says("Behind how many STEPS (0 to 200, the fewest) a DISH GIVES v (0 to 999) or more.")
    static void promise15_theMostBeforeItBurns() {
        unchanged("ready(0, 80)", x -> told(x, "sauce thick 20 salt 30"), x -> x.ready(0, 80), 12);
        refused("ready(0, 81)", x -> told(x, "sauce thick 20 salt 30"), x -> x.ready(0, 81), NONE);
    }

    @Says("Behind how many STEPS (0 to 200, the fewest) a DISH GIVES v (0 to 999) or more.")
    static void promise15_the200thStepIsLookedAt() {
        // One more of grudge in each round's second step: 35, and so 7, behind 34 of these.
        unchanged("ready(0, 7)", x -> told(x, "cream thick 0 salt 30 off;deed 1 11;grudge 1"), x -> x.ready(0, 7), 200);
    }

    @Says("a DISH GIVES v (0 to 999) or more. BEYOND. NONE.")
    static void promise15_behind200StepsThereIsNone() {
        refused("ready(0, 7)", x -> told(x, "cream thick 0 salt 30 off;deed 2 11;grudge 1"), x -> x.ready(0, 7), NONE);
    }

    @Says("a DISH GIVES v (0 to 999) or more. BEYOND. NONE.")
    static void promise15_999IsAskedAndNoneGivesIt() {
        refused("ready(4, 999)", Asking::rich, x -> x.ready(4, 999), NONE);
        refused("ready(3, 1), split", Asking::rich, x -> x.ready(3, 1), NONE);
    }

    @Says("a DISH GIVES v (0 to 999) or more. BEYOND.")
    static void promise15_vTooSmallOrTooLargeIsRefused() {
        for (int v : new int[] {-1, 1000, LEAST, MOST}) {
            refused("ready(0, " + v + ")", Asking::rich, x -> x.ready(0, v), BEYOND);
        }
    }

    @Says("a DISH GIVES v (0 to 999) or more. BEYOND.")
    static void promise15_aDishThatIsNotThereIsRefused() {
        for (int dish : new int[] {-1, 5, 8, LEAST, MOST}) {
            refused("ready(" + dish + ", 0)", Asking::rich, x -> x.ready(dish, 0), BEYOND);
        }
        refused("ready(0, 0) of none", Asking::bare, x -> x.ready(0, 0), BEYOND);
        refused("ready(8, 0) of eight", Asking::full, x -> x.ready(8, 0), BEYOND);
    }

    // ---- promise 16: peace

    @Says("Behind how many STEPS (0 to 200, the fewest) GRUDGE is v (0 to 99) or less.")
    static void promise16_justTheGrudgeNowIsBehind0() {
        unchanged("peace(50)", x -> told(x, "deed 0 9"), x -> x.peace(50), 0);
        unchanged("peace(51)", x -> told(x, "deed 0 9"), x -> x.peace(51), 0);
        unchanged("peace(49)", x -> told(x, "deed 0 9"), x -> x.peace(49), 1);
    }

    @Says("Behind how many STEPS (0 to 200, the fewest) GRUDGE is v (0 to 99) or less.")
    static void promise16_0And99AreAsked() {
        unchanged("peace(99)", x -> told(x, "grudge 99"), x -> x.peace(99), 0);
        unchanged("peace(0)", x -> told(x, "grudge 0"), x -> x.peace(0), 0);
        unchanged("peace(0), held within 0", x -> told(x, "grudge 19;deed 3 4"), x -> x.peace(0), 4);
    }

    @Says("Behind how many STEPS (0 to 200, the fewest) GRUDGE is v (0 to 99) or less.")
    static void promise16_the200thStepIsLookedAt() {
        // 99 less one for each round, and 4 behind the second step of each.
        unchanged("peace(62)", x -> told(x, "deed 1 7;deed 2 11;deed 3 8;grudge 99"), x -> x.peace(62), 200);
    }

    @Says("Behind how many STEPS (0 to 200, the fewest) GRUDGE is v (0 to 99) or less.")
    static void promise16_fromTheGrudgeAndTheStepAsTheyAreNow() {
        QuarrelSauce x = kitchen("grudge 60;deed 0 6;deed 5 4");
        // 5 less in each round: 40 behind four.
        due("peace(40)", x.peace(40), 24);
        x.go(3);
        x.set(0, 60);
        due("peace(40), later", x.peace(40), 3);
        x.act(4);
        due("peace(55), a kindness later", x.peace(55), 0);
    }

    @Says("GRUDGE is v (0 to 99) or less. BEYOND. NONE.")
    static void promise16_behind200StepsThereIsNone() {
        refused("peace(61)", x -> told(x, "deed 1 7;deed 2 11;deed 3 8;grudge 99"), x -> x.peace(61), NONE);
        refused("peace(62), a step later", x -> told(x, "deed 2 7;deed 3 11;deed 4 8;grudge 99"), x -> x.peace(62), NONE);
        refused("peace(49), never", Asking::bare, x -> x.peace(49), NONE);
        refused("peace(0), never", Asking::bare, x -> x.peace(0), NONE);
    }

    @Says("GRUDGE is v (0 to 99) or less. BEYOND.")
    static void promise16_vTooSmallOrTooLargeIsRefused() {
        for (int v : new int[] {-1, 100, LEAST, MOST}) {
            refused("peace(" + v + ")", Asking::rich, x -> x.peace(v), BEYOND);
        }
    }
}
