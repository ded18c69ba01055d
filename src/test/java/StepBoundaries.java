/** Boundaries of promises 10 and 11: steps, and what is now. */
final class StepBoundaries extends Asking {
    private StepBoundaries() {
    }

    // ---- promise 10: go

    @Says("n STEPS (1 to 60): GRUDGE then.")
    static void promise10_1And60StepsGoBy() {
        QuarrelSauce x = kitchen("deed 0 11;grudge 20");
        due("go(1)", x.go(1), 21);
        due("step", x.count(0), 1);
        due("go(60)", x.go(60), 31);
        due("count(0)", x.count(0), 61);
        due("now(0)", x.now(0), 61);
    }

    @Says("n STEPS (1 to 60): GRUDGE then. BEYOND.")
    static void promise10_tooFewStepsAreRefused() {
        for (int n : new int[] {0, -1, LEAST}) {
            refused("go(" + n + ")", Asking::rich, x -> x.go(n), BEYOND);
        }
    }

    @Says("n STEPS (1 to 60): GRUDGE then. BEYOND.")
    static void promise10_tooManyStepsAreRefused() {
        for (int n : new int[] {61, 99999, MOST}) {
            refused("go(" + n + ")", Asking::rich, x -> x.go(n), BEYOND);
        }
    }

    /** Nobody comes there within 512 calls, which is all that is promised; the class holds to it all the same. */
    static QuarrelSauce atStep99960() {
        QuarrelSauce x = new QuarrelSauce();
        for (int k = 0; k < 1666; k++) {
            x.go(60);
        }
        return x;
    }

    @Says("STATE: STEP would be above 99999.")
    static void promise10_stepsTo99999GoBy() {
        QuarrelSauce x = atStep99960();
        due("go(39)", x.go(39), 50);
        due("step", x.count(0), 99999);
    }

    @Says("STATE: STEP would be above 99999.")
    static void promise10_stepsAbove99999AreRefused() {
        QuarrelSauce x = atStep99960();
        due("go(40)", x.go(40), STATE);
        due("step", x.count(0), 99960);
        x.go(39);
        due("go(1)", x.go(1), STATE);
        due("go(0), BEYOND ahead of STATE", x.go(0), BEYOND);
        due("go(61), BEYOND ahead of STATE", x.go(61), BEYOND);
        due("step", x.count(0), 99999);
        due("status(4)", x.status(4), 2);
    }

    @Says("STEP is one more (99999 at most).")
    static void promise10_stepIs99999AtMostInWhatWillBe() {
        QuarrelSauce x = atStep99960();
        x.go(38);
        // 99998 is place 2 of the list, 99999 place 3: there the steps stay.
        x.deed(2, 11);
        x.deed(3, 8);
        due("mood(1)", x.mood(1), 51);
        due("mood(2)", x.mood(2), 53);
        due("mood(9)", x.mood(9), 67);
    }

    @Says("GRUDGE changes by the DEED of THE LIST for STEP modulo 6.")
    static void promise10_theListComesAroundAgain() {
        QuarrelSauce x = kitchen("grudge 10");
        list(x, 11, 8, 3, 2, 10, 1);
        int[] grudge = {11, 13, 16, 21, 27, 35, 36, 38};
        for (int step = 0; step < 8; step++) {
            due("go(1) at step " + step, x.go(1), grudge[step]);
        }
    }

    @Says("(held within 0 to 99)")
    static void promise10_grudgeIsHeldInEachStep() {
        QuarrelSauce x = kitchen("grudge 95");
        list(x, 6, 4);
        due("above, then down", x.go(2), 79);
        QuarrelSauce y = kitchen("grudge 5");
        list(y, 4, 6);
        due("below, then up", y.go(2), 15);
    }

    @Says("if GRUDGE is below what one NEEDS, it is SPLIT")
    static void promise10_aGrudgeThatIsJustEnoughSplitsNone() {
        QuarrelSauce x = kitchen("sauce;grudge 10");
        x.go(1);
        due("a sauce at 10", x.of(0, 3), 0);
        QuarrelSauce y = kitchen("cream;grudge 30");
        y.go(1);
        due("a cream at 30", y.of(0, 3), 0);
        QuarrelSauce z = kitchen("custard;grudge 33");
        z.go(1);
        due("a custard at 33", z.of(0, 3), 0);
        QuarrelSauce d = kitchen("dark thick 43;grudge 35");
        d.go(1);
        due("a dark at 35", d.of(0, 3), 0);
        QuarrelSauce o = kitchen("stock;salad;glaze thick 3;grudge 0");
        o.go(1);
        due("none that needs nothing", o.now(3), 0);
    }

    @Says("if GRUDGE is below what one NEEDS, it is SPLIT")
    static void promise10_aGrudgeOneTooSmallSplits() {
        String[] texts = {"sauce thick 20;grudge 9", "cream thick 20;grudge 29", "custard thick 20;grudge 32",
            "dark thick 20;grudge 29", "glaze thick 20;grudge 4"};
        for (String text : texts) {
            QuarrelSauce x = kitchen(text + ";deed 0 0");
            x.go(1);
            due("split of " + text, x.of(0, 3), 1);
            due("thick, as it was, of " + text, x.of(0, 1), 20);
            due("salt, as it was, of " + text, x.of(0, 2), 10);
        }
    }

    @Says("Behind that DISHES by numbers that are neither OFF nor SPLIT (all by GRUDGE as it is then)")
    static void promise10_theGrudgeBehindTheDeedCounts() {
        QuarrelSauce x = kitchen("sauce;grudge 10;deed 0 7");
        x.go(1);
        due("split by the joke", x.of(0, 3), 1);
        QuarrelSauce y = kitchen("sauce;grudge 9;deed 0 11");
        y.go(1);
        due("saved by the look", y.of(0, 3), 0);
        due("one thicker by it", y.of(0, 1), 11);
    }

    @Says("Behind that DISHES by numbers that are neither OFF nor SPLIT (all by GRUDGE as it is then)")
    static void promise10_thoseOffOrSplitStayAsTheyAre() {
        QuarrelSauce x = kitchen("sauce thick 80 salt 50 off;sauce thick 30 split;custard off;deed 0 2;grudge 50");
        x.go(1);
        int[][] dishes = {{80, 50, 0, 1}, {30, 10, 1, 0}, {10, 10, 0, 1}};
        for (int d = 0; d < 3; d++) {
            for (int what = 1; what <= 4; what++) {
                due("of(" + d + ", " + what + ")", x.of(d, what), dishes[d][what - 1]);
            }
        }
        x.set(0, 0);
        x.go(2);
        due("none off is split", x.now(3), 2);
    }

    @Says("else THICK is what it THICKENS more, SALT what it SALTS more (99 at most, both; by what they were ahead of that)")
    static void promise10_thickIs99AtMost() {
        QuarrelSauce x = kitchen("stock thick 97;stock thick 98;stock thick 99;glaze thick 99;salad thick 99");
        x.go(1);
        for (int d = 0; d < 5; d++) {
            due("thick of " + d, x.of(d, 1), 99);
        }
        due("none is lost", x.now(3), 0);
    }

    @Says("else THICK is what it THICKENS more, SALT what it SALTS more (99 at most, both; by what they were ahead of that)")
    static void promise10_saltIs99AtMost() {
        QuarrelSauce x = kitchen("sauce salt 94;sauce salt 95;stock salt 93;glaze salt 99;salad salt 97;deed 0 2");
        x.go(1);
        for (int d = 0; d < 5; d++) {
            due("salt of " + d, x.of(d, 2), 99);
        }
        QuarrelSauce y = kitchen("salad salt 96;salad salt 97;deed 0 8");
        y.go(1);
        due("sarcasm at 96", y.of(0, 2), 99);
        due("sarcasm at 97", y.of(1, 2), 99);
    }

    @Says("else THICK is what it THICKENS more, SALT what it SALTS more (99 at most, both; by what they were ahead of that)")
    static void promise10_needsAreByTheThickAheadOfTheStep() {
        // 39 thick it needs 9, 42 thick it needs 10.
        QuarrelSauce x = kitchen("glaze thick 39;grudge 9");
        x.go(1);
        due("thick", x.of(0, 1), 42);
        due("not split yet", x.of(0, 3), 0);
        x.go(1);
        due("thick, as it was", x.of(0, 1), 42);
        due("split", x.of(0, 3), 1);
    }

    private static void burning(int kind, int thick, int behind, int split) {
        QuarrelSauce x = new QuarrelSauce();
        x.dish(kind, thick);
        x.deed(0, 2);
        x.set(0, 45);
        x.go(1);
        due("thick of kind " + kind + " from " + thick, x.of(0, 1), behind);
        due("split of kind " + kind + " from " + thick, x.of(0, 3), split);
    }

    @Says("if THICK is above what it BURNS then, it is SPLIT, too.")
    static void promise10_aThickJustAsGreatAsItBurnsIsNotLost() {
        burning(SAUCE, 75, 80, 0);
        burning(CREAM, 64, 70, 0);
        burning(CUSTARD, 58, 70, 0);
        burning(STOCK, 97, 99, 0);
        burning(GLAZE, 94, 99, 0);
        burning(DARK, 85, 90, 0);
        burning(SALAD, 99, 99, 0);
    }

    @Says("if THICK is above what it BURNS then, it is SPLIT, too.")
    static void promise10_aThickOneAboveWhatItBurnsIsLost() {
        burning(SAUCE, 76, 81, 1);
        burning(CREAM, 65, 71, 1);
        burning(CUSTARD, 59, 71, 1);
        burning(DARK, 86, 91, 1);
        burning(SAUCE, 99, 99, 1);
    }

    @Says("if THICK is above what it BURNS then, it is SPLIT, too.")
    static void promise10_oneThatBurnsIsSaltedFirst() {
        QuarrelSauce x = kitchen("sauce thick 80 salt 20;deed 0 2");
        x.go(1);
        due("split", x.of(0, 3), 1);
        due("salt", x.of(0, 2), 25);
    }

    // ---- promise 11: now

    @Says("7 the one for which it would give most (-1: there is none). BEYOND.")
    static void promise11_anotherWhatIsRefused() {
        for (int what : new int[] {-1, 8, LEAST, MOST}) {
            refused("now(" + what + ")", Asking::rich, x -> x.now(what), BEYOND);
        }
    }

    @Says("7 the one for which it would give most (-1: there is none).")
    static void promise11_withoutDishesAllIsEmpty() {
        int[] empty = {0, 50, 0, 0, 0, 0, 0, -1};
        for (int what = 0; what < 8; what++) {
            int w = what;
            unchanged("now(" + what + ")", Asking::bare, x -> x.now(w), empty[what]);
        }
    }

    @Says("3 which are SPLIT, as a set, 4 which are OFF, as a set")
    static void promise11_setsOfTheFirstAndOfTheEighth() {
        QuarrelSauce x = begun(Asking::full);
        x.change(0, 3, 1);
        x.change(7, 4, 1);
        due("now(3)", x.now(3), 1);
        due("now(4)", x.now(4), 128);
        x.change(7, 3, 1);
        x.change(0, 4, 1);
        due("now(3)", x.now(3), 129);
        due("now(4)", x.now(4), 129);
        for (int d = 0; d < 8; d++) {
            x.change(d, 3, 1);
            x.change(d, 4, 1);
        }
        due("now(3), all", x.now(3), 255);
        due("now(4), all", x.now(4), 255);
    }

    @Says("5 which would split if a STEP of DEED 0 came now (neither OFF nor SPLIT, GRUDGE below what it NEEDS), as a set")
    static void promise11_aGrudgeJustEnoughEndangersNone() {
        QuarrelSauce x = kitchen("sauce;cream;custard;glaze thick 40;stock;salad;dark thick 20;grudge 10");
        due("at 10", x.now(5), 0b1000110);
        x.set(0, 9);
        due("at 9", x.now(5), 0b1001111);
        x.set(0, 30);
        due("at 30", x.now(5), 0b0000100);
        x.set(0, 33);
        due("at 33", x.now(5), 0);
        x.set(0, 0);
        due("at 0", x.now(5), 0b1001111);
    }

    @Says("5 which would split if a STEP of DEED 0 came now (neither OFF nor SPLIT, GRUDGE below what it NEEDS), as a set")
    static void promise11_thoseOffOrSplitAreNotInDanger() {
        QuarrelSauce x = kitchen("sauce off;sauce split;sauce off split;sauce;grudge 0");
        due("now(5)", x.now(5), 8);
        QuarrelSauce y = begun(Asking::full);
        y.set(0, 9);
        due("now(5), with the eighth", y.now(5), 0b11010011);
    }

    @Says("5 which would split if a STEP of DEED 0 came now")
    static void promise11_theListIsNotLookedAtForDanger() {
        due("a kindness is listed", kitchen("sauce;grudge 10;deed 0 4").now(5), 0);
        due("a birthday is listed", kitchen("sauce;grudge 9;deed 0 6").now(5), 1);
        due("it would burn, not split by grudge", kitchen("sauce thick 80").now(5), 0);
    }

    @Says("6 what a critic would give for all together")
    static void promise11_allTogetherAtTheirMost() {
        QuarrelSauce x = new QuarrelSauce();
        for (int d = 0; d < 8; d++) {
            x.dish(DARK, 99);
            x.change(d, 2, 30);
        }
        due("now(6)", x.now(6), 8 * 138);
        for (int d = 0; d < 8; d++) {
            x.change(d, 3, 1);
        }
        due("now(6), all split", x.now(6), 0);
    }

    @Says("of several that would do the least number counts, where nothing else is told.")
    static void promise11_ofSeveralTheLeastNumber() {
        due("three alike", kitchen("salad;glaze;glaze;glaze").now(7), 1);
        due("all give nothing", kitchen("sauce split;sauce split").now(7), 0);
        QuarrelSauce x = begun(Asking::full);
        x.change(4, 3, 1);
        x.change(3, 3, 1);
        due("the eighth", x.now(7), 7);
    }
}
