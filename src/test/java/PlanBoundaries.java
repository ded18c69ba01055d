import java.util.Arrays;

/** Boundaries of promises 17 to 23: what to do, and told dishes. */
final class PlanBoundaries extends Asking {
    private PlanBoundaries() {
    }

    private static void steps(QuarrelSauce x, int n) {
        if (n > 0) {
            x.go(n);
        }
    }

    // ---- promise 17: deedFor

    @Says("The DEED that place i of THE LIST must tell, so that what a critic would give for all together is most "
        + "behind n (0 to 60) STEPS.")
    static void promise17_behind0StepsEveryDeedDoes() {
        for (int i = 0; i < 6; i++) {
            int place = i;
            unchanged("deedFor(" + i + ", 0)", Asking::rich, x -> x.deedFor(place, 0), 0);
        }
    }

    /** The least deed that is best, found by doing. */
    private static int bestDeed(Begin begin, int i, int n) {
        int best = 0;
        int most = -1;
        for (int deed = 0; deed < 12; deed++) {
            QuarrelSauce x = begun(begin);
            x.deed(i, deed);
            steps(x, n);
            if (x.now(6) > most) {
                most = x.now(6);
                best = deed;
            }
        }
        return best;
    }

    @Says("The DEED that place i of THE LIST must tell, so that what a critic would give for all together is most "
        + "behind n (0 to 60) STEPS.")
    static void promise17_fewAndManyStepsInEveryPlace() {
        Begin slow = x -> told(x, "glaze salt 0;stock thick 0 salt 0;salad;cream thick 40 off;deed 2 4;deed 4 2;grudge 90");
        for (int i = 0; i < 6; i++) {
            for (int n : new int[] {1, 5, 6, 7, 59, 60}) {
                int place = i;
                unchanged("deedFor(" + i + ", " + n + ")", slow, x -> x.deedFor(place, n), bestDeed(slow, i, n));
            }
        }
    }

    @Says("The DEED that place i of THE LIST must tell, so that what a critic would give for all together is most "
        + "behind n (0 to 60) STEPS.")
    static void promise17_the60thStepCounts() {
        // Off, a cream gives by the grudge alone; place 5 comes in the sixth step.
        Begin cream = x -> told(x, "cream off;grudge 9;deed 0 7");
        unchanged("deedFor(5, 5), not come yet", cream, x -> x.deedFor(5, 5), 0);
        unchanged("deedFor(5, 6), a birthday", cream, x -> x.deedFor(5, 6), 6);
        // Found by doing: a birthday is best until place 5 comes for the tenth time.
        Begin stock = x -> told(x, "stock thick 3 salt 37;grudge 35;deed 0 9");
        due("the best behind 59", bestDeed(stock, 5, 59), 6);
        due("the best behind 60", bestDeed(stock, 5, 60), 5);
        unchanged("deedFor(5, 59)", stock, x -> x.deedFor(5, 59), 6);
        unchanged("deedFor(5, 60)", stock, x -> x.deedFor(5, 60), 5);
    }

    @Says("of several that would do the least number counts, where nothing else is told.")
    static void promise17_withoutDishesTheLeastDeed() {
        unchanged("deedFor(0, 60)", Asking::bare, x -> x.deedFor(0, 60), 0);
        unchanged("deedFor(5, 1)", x -> told(x, "salad;salad off;sauce split"), x -> x.deedFor(5, 1), 0);
    }

    @Says("is most behind n (0 to 60) STEPS. BEYOND.")
    static void promise17_placesTooSmallOrTooLargeAreRefused() {
        for (int i : new int[] {-1, 6, LEAST, MOST}) {
            refused("deedFor(" + i + ", 1)", Asking::rich, x -> x.deedFor(i, 1), BEYOND);
        }
    }

    @Says("is most behind n (0 to 60) STEPS. BEYOND.")
    static void promise17_tooFewOrTooManyStepsAreRefused() {
        for (int n : new int[] {-1, 61, LEAST, MOST}) {
            refused("deedFor(0, " + n + ")", Asking::rich, x -> x.deedFor(0, n), BEYOND);
        }
    }

    // ---- promise 18: grudgeFor

    @Says("The least GRUDGE now with which a DISH isn't SPLIT behind n (0 to 60) STEPS.")
    static void promise18_behind0StepsAGrudgeOf0Does() {
        unchanged("grudgeFor(0, 0)", Asking::rich, x -> x.grudgeFor(0, 0), 0);
        unchanged("grudgeFor(2, 60), off", Asking::rich, x -> x.grudgeFor(2, 60), 0);
    }

    @Says("The least GRUDGE now with which a DISH isn't SPLIT behind n (0 to 60) STEPS.")
    static void promise18_justWhatItNeeds() {
        unchanged("a sauce", x -> told(x, "sauce"), x -> x.grudgeFor(0, 1), 10);
        unchanged("a cream", x -> told(x, "cream"), x -> x.grudgeFor(0, 1), 30);
        unchanged("a stock", x -> told(x, "stock"), x -> x.grudgeFor(0, 1), 0);
        unchanged("a sauce, birthday forgotten", x -> told(x, "sauce;deed 0 6"), x -> x.grudgeFor(0, 1), 0);
    }

    @Says("The least GRUDGE now with which a DISH isn't SPLIT behind n (0 to 60) STEPS.")
    static void promise18_aGrudgeOf99IsTried() {
        // 69 less behind four steps, and a cream needs 30.
        unchanged("grudgeFor(0, 4)", x -> told(x, "cream thick 0;deed 0 4;deed 1 4;deed 2 4;deed 3 9"),
            x -> x.grudgeFor(0, 4), 99);
    }

    @Says("a DISH isn't SPLIT behind n (0 to 60) STEPS. BEYOND. NONE.")
    static void promise18_aGrudgeAbove99IsNone() {
        // 73 less: 103 would do.
        refused("grudgeFor(0, 5)", x -> told(x, "cream thick 0;deed 0 4;deed 1 4;deed 2 4;deed 3 9;deed 4 7"),
            x -> x.grudgeFor(0, 5), NONE);
    }

    @Says("a DISH isn't SPLIT behind n (0 to 60) STEPS. BEYOND. NONE.")
    static void promise18_oneThatIsSplitIsNone() {
        refused("grudgeFor(3, 0)", Asking::rich, x -> x.grudgeFor(3, 0), NONE);
        refused("grudgeFor(3, 60)", Asking::rich, x -> x.grudgeFor(3, 60), NONE);
    }

    @Says("The least GRUDGE now with which a DISH isn't SPLIT behind n (0 to 60) STEPS.")
    static void promise18_the60thStepCounts() {
        // One thicker in each step by a grudge of 10 to 19; it is lost above 80.
        unchanged("from 20", x -> told(x, "sauce thick 20"), x -> x.grudgeFor(0, 60), 10);
        refused("from 21", x -> told(x, "sauce thick 21"), x -> x.grudgeFor(0, 60), NONE);
        unchanged("from 21, a step less", x -> told(x, "sauce thick 21"), x -> x.grudgeFor(0, 59), 10);
    }

    @Says("a DISH isn't SPLIT behind n (0 to 60) STEPS. BEYOND.")
    static void promise18_tooFewOrTooManyStepsAreRefused() {
        for (int n : new int[] {-1, 61, LEAST, MOST}) {
            refused("grudgeFor(0, " + n + ")", Asking::rich, x -> x.grudgeFor(0, n), BEYOND);
            refused("grudgeFor(3, " + n + "), ahead of NONE", Asking::rich, x -> x.grudgeFor(3, n), BEYOND);
        }
    }

    @Says("a DISH isn't SPLIT behind n (0 to 60) STEPS. BEYOND.")
    static void promise18_aDishThatIsNotThereIsRefused() {
        for (int dish : new int[] {-1, 5, 8, LEAST, MOST}) {
            refused("grudgeFor(" + dish + ", 1)", Asking::rich, x -> x.grudgeFor(dish, 1), BEYOND);
        }
        refused("grudgeFor(0, 0) of none", Asking::bare, x -> x.grudgeFor(0, 0), BEYOND);
        refused("grudgeFor(8, 0) of eight", Asking::full, x -> x.grudgeFor(8, 0), BEYOND);
    }

    // ---- promise 19: kindFor

    /** The least kind that is best, found by doing. */
    private static int bestKind(Begin begin, int dish, int n) {
        int best = 0;
        int most = -1;
        for (int kind = 0; kind < 7; kind++) {
            QuarrelSauce x = begun(begin);
            x.change(dish, 0, kind);
            steps(x, n);
            if (x.of(dish, 10) > most) {
                most = x.of(dish, 10);
                best = kind;
            }
        }
        return best;
    }

    @Says("The KIND of which a DISH must be, so that it GIVES most behind n (0 to 60) STEPS.")
    static void promise19_fewAndManySteps() {
        Begin odd = x -> told(x, "sauce thick 80 salt 30;dark salt 0;salad thick 99 salt 99;deed 1 7;deed 2 9;grudge 59");
        for (int dish = 0; dish < 3; dish++) {
            for (int n : new int[] {0, 1, 2, 3, 4, 59, 60}) {
                int d = dish;
                unchanged("kindFor(" + d + ", " + n + ")", odd, x -> x.kindFor(d, n), bestKind(odd, d, n));
            }
        }
    }

    @Says("The KIND of which a DISH must be, so that it GIVES most behind n (0 to 60) STEPS.")
    static void promise19_the60thStepCounts() {
        // A sauce is 1 thicker a step, 80 behind 59, and lost in the 60th; by so small a grudge
        // all but a glaze (20, too salt by then), a stock and a salad are lost at once.
        Begin begin = x -> told(x, "sauce thick 21 salt 30;grudge 19;heat 0");
        unchanged("kindFor(0, 59)", begin, x -> x.kindFor(0, 59), SAUCE);
        unchanged("kindFor(0, 60)", begin, x -> x.kindFor(0, 60), GLAZE);
    }

    @Says("of several that would do the least number counts, where nothing else is told.")
    static void promise19_ofSeveralTheLeastKind() {
        unchanged("split, as whatever", Asking::rich, x -> x.kindFor(3, 5), SAUCE);
        // Both are 28 thick then: a cream gives 27 and 6, a glaze 13 and 20.
        unchanged("a cream or a glaze", x -> told(x, "sauce thick 24 salt 29;grudge 30"), x -> x.kindFor(0, 1), CREAM);
    }

    @Says("so that it GIVES most behind n (0 to 60) STEPS. BEYOND.")
    static void promise19_tooFewOrTooManyStepsAreRefused() {
        for (int n : new int[] {-1, 61, LEAST, MOST}) {
            refused("kindFor(0, " + n + ")", Asking::rich, x -> x.kindFor(0, n), BEYOND);
        }
    }

    @Says("so that it GIVES most behind n (0 to 60) STEPS. BEYOND.")
    static void promise19_aDishThatIsNotThereIsRefused() {
        for (int dish : new int[] {-1, 5, 8, LEAST, MOST}) {
            refused("kindFor(" + dish + ", 1)", Asking::rich, x -> x.kindFor(dish, 1), BEYOND);
        }
        refused("kindFor(0, 0) of none", Asking::bare, x -> x.kindFor(0, 0), BEYOND);
        refused("kindFor(8, 0) of eight", Asking::full, x -> x.kindFor(8, 0), BEYOND);
    }

    // ---- promise 20: best

    @Says("Behind how many STEPS (0 to 60) a DISH GIVES most")
    static void promise20_behind0() {
        unchanged("one that burns at once", x -> told(x, "sauce thick 80 salt 30"), x -> x.best(0), 0);
        unchanged("one that splits at once", x -> told(x, "sauce thick 40 salt 30;grudge 9"), x -> x.best(0), 0);
    }

    @Says("Behind how many STEPS (0 to 60) a DISH GIVES most")
    static void promise20_behind60AndNoMore() {
        // One thicker a step: 60 behind 60, and 61 behind one more.
        unchanged("best(0)", x -> told(x, "sauce thick 0 salt 30;grudge 19"), x -> x.best(0), 60);
        unchanged("best(0), lost in the 60th", x -> told(x, "sauce thick 21 salt 30;grudge 19"), x -> x.best(0), 59);
    }

    @Says("of several the fewest.")
    static void promise20_ofSeveralTheFewest() {
        unchanged("a salad", x -> told(x, "salad"), x -> x.best(0), 0);
        unchanged("one off", x -> told(x, "sauce thick 50 off"), x -> x.best(0), 0);
        unchanged("one split", Asking::rich, x -> x.best(3), 0);
        unchanged("up and down again", x -> told(x, "cream off;deed 2 6;deed 4 4;deed 5 2"), x -> x.best(0), 3);
    }

    @Says("a DISH GIVES most; of several the fewest. BEYOND.")
    static void promise20_aDishThatIsNotThereIsRefused() {
        for (int dish : new int[] {-1, 5, 8, LEAST, MOST}) {
            refused("best(" + dish + ")", Asking::rich, x -> x.best(dish), BEYOND);
        }
        refused("best(0) of none", Asking::bare, x -> x.best(0), BEYOND);
        refused("best(8) of eight", Asking::full, x -> x.best(8), BEYOND);
    }

    // ---- promise 21: takeOff

    @Says("no more are SPLIT behind n (0 to 20) STEPS than are now")
    static void promise21_behind0StepsNoneMustGo() {
        unchanged("takeOff(0)", x -> told(x, "sauce;cream;grudge 0"), x -> x.takeOff(0), 0);
    }

    @Says("no more are SPLIT behind n (0 to 20) STEPS than are now")
    static void promise21_the20thStepCounts() {
        // One thicker a step; lost above 80.
        Begin begin = x -> told(x, "sauce thick 60;sauce thick 61;sauce thick 62;grudge 19");
        unchanged("takeOff(18)", begin, x -> x.takeOff(18), 0);
        unchanged("takeOff(19)", begin, x -> x.takeOff(19), 4);
        unchanged("takeOff(20)", begin, x -> x.takeOff(20), 6);
    }

    @Says("The set of fewest DISHES such that, if these are OFF, too, from now on")
    static void promise21_noneAndAllMustGo() {
        unchanged("without dishes", Asking::bare, x -> x.takeOff(20), 0);
        unchanged("none in danger", x -> told(x, "salad;stock"), x -> x.takeOff(20), 0);
        unchanged("all eight", x -> told(x, "sauce;sauce;sauce;sauce;sauce;sauce;sauce;sauce;grudge 0"), x -> x.takeOff(1), 255);
    }

    @Says("The set of fewest DISHES such that, if these are OFF, too, from now on")
    static void promise21_thoseOffOrSplitNeedNotGo() {
        unchanged("takeOff(1)", x -> told(x, "sauce off;sauce split;sauce off split;sauce;grudge 0"), x -> x.takeOff(1), 8);
        unchanged("takeOff(1), none else", x -> told(x, "sauce off;sauce split;grudge 0"), x -> x.takeOff(1), 0);
    }

    @Says("no more are SPLIT behind n (0 to 20) STEPS than are now")
    static void promise21_fromAllAsItIsNow() {
        QuarrelSauce x = kitchen("sauce;cream;grudge 50");
        due("takeOff(1)", x.takeOff(1), 0);
        x.set(0, 29);
        due("takeOff(1), less grudge", x.takeOff(1), 2);
        x.change(1, 4, 1);
        x.act(4);
        due("takeOff(1), the cream is off", x.takeOff(1), 1);
        x.go(1);
        due("takeOff(1), the sauce is split", x.takeOff(1), 0);
    }

    @Says("behind n (0 to 20) STEPS than are now; of several the least. BEYOND.")
    static void promise21_tooFewOrTooManyStepsAreRefused() {
        for (int n : new int[] {-1, 21, LEAST, MOST}) {
            refused("takeOff(" + n + ")", Asking::rich, x -> x.takeOff(n), BEYOND);
        }
    }

    // ---- promises 22 and 23: fits, kinds

    private static Begin sauceAnd(int bits, int... numbers) {
        return x -> {
            told(x, "sauce;salad thick 7;sauce off;sauce split");
            sheetOf(x, 2, bits, numbers);
        };
    }

    private static int[] forty(int number, int last) {
        int[] numbers = new int[40];
        Arrays.fill(numbers, number);
        numbers[39] = last;
        return numbers;
    }

    @Says("How many GRUDGES (0 to 99) there could be now")
    static void promise22_noneAndAHundred() {
        unchanged("not so thick now", sauceAnd(8, 11), x -> x.fits(2, 0), 0);
        unchanged("so thick now", sauceAnd(8, 10), x -> x.fits(2, 0), 100);
        unchanged("so thick whatever comes", sauceAnd(8, 7, 7, 7), x -> x.fits(2, 1), 100);
        unchanged("off", sauceAnd(8, 10, 10, 10), x -> x.fits(2, 2), 100);
        unchanged("split", sauceAnd(8, 10, 10, 10), x -> x.fits(2, 3), 100);
    }

    @Says("How many GRUDGES (0 to 99) there could be now")
    static void promise22_theGrudgesAtBothEnds() {
        unchanged("0 to 9", sauceAnd(8, 10, 10), x -> x.fits(2, 0), 10);
        unchanged("90 to 99", sauceAnd(8, 10, 19), x -> x.fits(2, 0), 10);
        unchanged("100 and more", sauceAnd(8, 10, 20), x -> x.fits(2, 0), 0);
    }

    @Says("so that how THICK a DISH is now and behind each STEP further on is as a sheet tells (-1: any).")
    static void promise22_anEmptySheetTellsNothing() {
        unchanged("fits of 0 numbers", sauceAnd(8), x -> x.fits(2, 0), 100);
    }

    @Says("so that how THICK a DISH is now and behind each STEP further on is as a sheet tells (-1: any).")
    static void promise22_aFullSheetTellsOf39Steps() {
        unchanged("forty so", sauceAnd(8, forty(7, 7)), x -> x.fits(2, 1), 100);
        unchanged("the fortieth not so", sauceAnd(8, forty(7, 8)), x -> x.fits(2, 1), 0);
        // 39 steps of 1: 49 behind them.
        unchanged("the fortieth alone", sauceAnd(8, forty(-1, 49)), x -> x.fits(2, 0), 10);
        unchanged("any forty times", sauceAnd(8, forty(-1, -1)), x -> x.fits(2, 0), 100);
    }

    @Says("is as a sheet tells (-1: any).")
    static void promise22_anyInEveryWidth() {
        for (int bits : new int[] {8, 16, 32}) {
            unchanged("any now, " + bits, sauceAnd(bits, -1, 15), x -> x.fits(2, 0), 10);
            unchanged("any alone, " + bits, sauceAnd(bits, -1), x -> x.fits(2, 0), 100);
            unchanged("-2 is none, " + bits, sauceAnd(bits, -2), x -> x.fits(2, 0), 0);
        }
    }

    @Says("BEYOND: no such sheet. MISSING. BEYOND: no such DISH.")
    static void promise22_noSuchSheetIsRefused() {
        for (int s : new int[] {-1, 4, LEAST, MOST}) {
            refused("fits(" + s + ", 0)", Asking::rich, x -> x.fits(s, 0), BEYOND);
        }
    }

    @Says("BEYOND: no such sheet. MISSING. BEYOND: no such DISH.")
    static void promise22_aMissingSheetIsRefused() {
        refused("fits(3, 0)", Asking::rich, x -> x.fits(3, 0), MISSING);
        refused("fits(3, 9), ahead of the dish", Asking::rich, x -> x.fits(3, 9), MISSING);
        refused("fits(0, 0) of none", Asking::bare, x -> x.fits(0, 0), MISSING);
    }

    @Says("BEYOND: no such sheet. MISSING. BEYOND: no such DISH.")
    static void promise22_aDishThatIsNotThereIsRefused() {
        for (int dish : new int[] {-1, 5, 8, LEAST, MOST}) {
            refused("fits(0, " + dish + ")", Asking::rich, x -> x.fits(0, dish), BEYOND);
        }
        refused("fits(0, 0) of an empty sheet", x -> x.sheet(0, 8, 0), x -> x.fits(0, 0), BEYOND);
    }

    @Says("KINDS that it could be of, as a set, likewise.")
    static void promise23_noneAndAllSeven() {
        unchanged("not so thick now", sauceAnd(8, 11), x -> x.kinds(2, 0), 0);
        unchanged("so thick now", sauceAnd(8, 10), x -> x.kinds(2, 0), 127);
        unchanged("off", sauceAnd(8, 10, 10), x -> x.kinds(2, 2), 127);
        unchanged("split", sauceAnd(8, 10, 10), x -> x.kinds(2, 3), 127);
    }

    @Says("KINDS that it could be of, as a set, likewise.")
    static void promise23_theFirstAndTheLastKind() {
        unchanged("5 more: a sauce, a glaze, a dark", sauceAnd(8, 10, 15), x -> x.kinds(2, 0), 0b0011001);
        unchanged("12 more: a custard", sauceAnd(8, 10, 22), x -> x.kinds(2, 0), 0b1000000);
    }

    @Says("KINDS that it could be of, as a set, likewise.")
    static void promise23_anEmptySheetTellsNothing() {
        unchanged("kinds of 0 numbers", sauceAnd(16), x -> x.kinds(2, 0), 127);
    }

    @Says("KINDS that it could be of, as a set, likewise.")
    static void promise23_aFullSheetTellsOf39Steps() {
        // A salad stays 10; a stock is 2 thicker a step, 88 behind 39.
        unchanged("the fortieth 10", sauceAnd(8, forty(-1, 10)), x -> x.kinds(2, 0), 1 << SALAD);
        unchanged("the fortieth 88", sauceAnd(8, forty(-1, 88)), x -> x.kinds(2, 0), 1 << STOCK);
        unchanged("any forty times", sauceAnd(32, forty(-1, -1)), x -> x.kinds(2, 0), 127);
    }

    @Says("is as a sheet tells (-1: any).")
    static void promise23_anyInEveryWidth() {
        for (int bits : new int[] {8, 16, 32}) {
            unchanged("any now, " + bits, sauceAnd(bits, -1, 16), x -> x.kinds(2, 0), 1 << CREAM);
            unchanged("-2 is none, " + bits, sauceAnd(bits, -2), x -> x.kinds(2, 0), 0);
        }
    }

    @Says("BEYOND: no such sheet. MISSING. BEYOND: no such DISH.")
    static void promise23_noSuchSheetIsRefused() {
        for (int s : new int[] {-1, 4, LEAST, MOST}) {
            refused("kinds(" + s + ", 0)", Asking::rich, x -> x.kinds(s, 0), BEYOND);
        }
    }

    @Says("BEYOND: no such sheet. MISSING. BEYOND: no such DISH.")
    static void promise23_aMissingSheetIsRefused() {
        refused("kinds(3, 0)", Asking::rich, x -> x.kinds(3, 0), MISSING);
        refused("kinds(3, 9), ahead of the dish", Asking::rich, x -> x.kinds(3, 9), MISSING);
        refused("kinds(0, 0) of none", Asking::bare, x -> x.kinds(0, 0), MISSING);
    }

    @Says("BEYOND: no such sheet. MISSING. BEYOND: no such DISH.")
    static void promise23_aDishThatIsNotThereIsRefused() {
        for (int dish : new int[] {-1, 5, 8, LEAST, MOST}) {
            refused("kinds(0, " + dish + ")", Asking::rich, x -> x.kinds(0, dish), BEYOND);
        }
        refused("kinds(0, 0) of an empty sheet", x -> x.sheet(0, 8, 0), x -> x.kinds(0, 0), BEYOND);
    }
}
