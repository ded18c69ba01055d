/** Boundaries of promises 30 to 36: spots and sheets. */
final class SheetBoundaries extends Asking {
    private SheetBoundaries() {
    }

    private static final int[] WIDTHS = {8, 16, 32};

    // ---- promise 30: hold

    @Says("SPOTS 0 to 9 hold a DISH or nothing (at first).")
    static void promise30_spots0And9Hold() {
        QuarrelSauce x = begun(Asking::full);
        due("hold(0, 7)", x.hold(0, 7), 1);
        due("hold(9, 0)", x.hold(9, 0), 1);
        due("as(0, 0)", x.as(0, 0), 7);
        due("as(9, 0)", x.as(9, 0), 0);
        due("count(7)", x.count(7), 2);
    }

    @Says("A SPOT holds a DISH, or nothing (-1): 1.")
    static void promise30_aSpotHoldsNothingByMinus1() {
        QuarrelSauce x = begun(Asking::rich);
        due("hold(9, -1)", x.hold(9, -1), 1);
        due("as(9, 0)", x.as(9, 0), MISSING);
        due("hold(9, -1) again", x.hold(9, -1), 1);
        due("count(7)", x.count(7), 1);
        due("hold(0, -1) without dishes", new QuarrelSauce().hold(0, -1), 1);
    }

    @Says("A SPOT holds a DISH, or nothing (-1): 1.")
    static void promise30_everySpotMayHoldTheSame() {
        QuarrelSauce x = kitchen("dark");
        for (int spot = 0; spot < 10; spot++) {
            due("hold(" + spot + ", 0)", x.hold(spot, 0), 1);
            due("count(7)", x.count(7), spot + 1);
        }
    }

    @Says("A SPOT holds a DISH, or nothing (-1): 1. BEYOND.")
    static void promise30_spotsTooSmallOrTooLargeAreRefused() {
        for (int spot : new int[] {-1, 10, LEAST, MOST}) {
            refused("hold(" + spot + ", 0)", Asking::rich, x -> x.hold(spot, 0), BEYOND);
            refused("hold(" + spot + ", -1)", Asking::rich, x -> x.hold(spot, -1), BEYOND);
        }
    }

    @Says("A SPOT holds a DISH, or nothing (-1): 1. BEYOND.")
    static void promise30_aDishThatIsNotThereIsRefused() {
        for (int dish : new int[] {-2, 5, 8, LEAST, MOST}) {
            refused("hold(0, " + dish + ")", Asking::rich, x -> x.hold(0, dish), BEYOND);
        }
        refused("hold(0, 0) of none", Asking::bare, x -> x.hold(0, 0), BEYOND);
        refused("hold(0, 8) of eight", Asking::full, x -> x.hold(0, 8), BEYOND);
    }

    // ---- promise 31: as

    private static void eachInItsSpot(QuarrelSauce x) {
        for (int kind = 0; kind < 7; kind++) {
            x.dish(kind, 10);
            x.hold(kind, kind);
        }
    }

    @Says("KIND: it isn't of that kind, nor of one under it.")
    static void promise31_everyKindAsEveryKind() {
        String[] as = {"1000000", "1100000", "1010000", "1011000", "1011100", "1000010", "1100001"};
        for (int dish = 0; dish < 7; dish++) {
            for (int kind = 0; kind < 7; kind++) {
                int d = dish;
                int k = kind;
                if (as[dish].charAt(kind) == '1') {
                    unchanged("as(" + d + ", " + k + ")", SheetBoundaries::eachInItsSpot, x -> x.as(d, k), d);
                } else {
                    refused("as(" + d + ", " + k + ")", SheetBoundaries::eachInItsSpot, x -> x.as(d, k), KIND);
                }
            }
        }
    }

    @Says("What a SPOT holds as one of a kind (0 to 6): the number of the DISH. BEYOND.")
    static void promise31_spotsTooSmallOrTooLargeAreRefused() {
        for (int spot : new int[] {-1, 10, LEAST, MOST}) {
            refused("as(" + spot + ", 0)", Asking::rich, x -> x.as(spot, 0), BEYOND);
        }
    }

    @Says("What a SPOT holds as one of a kind (0 to 6): the number of the DISH. BEYOND.")
    static void promise31_kindsTooSmallOrTooLargeAreRefused() {
        for (int kind : new int[] {-1, 7, LEAST, MOST}) {
            refused("as(0, " + kind + ")", Asking::rich, x -> x.as(0, kind), BEYOND);
            refused("as(1, " + kind + "), ahead of MISSING", Asking::rich, x -> x.as(1, kind), BEYOND);
        }
    }

    @Says("MISSING: it holds nothing.")
    static void promise31_aSpotThatHoldsNothingIsRefused() {
        for (int kind = 0; kind < 7; kind++) {
            int k = kind;
            refused("as(1, " + kind + ")", Asking::rich, x -> x.as(1, k), MISSING);
        }
    }

    // ---- promise 32: sheet

    @Says("A sheet has n numbers, all 0, of 8, 16 or 32 bits")
    static void promise32_0And40NumbersInEveryWidth() {
        for (int bits : WIDTHS) {
            for (int s = 0; s < 4; s++) {
                QuarrelSauce x = new QuarrelSauce();
                due("sheet(" + s + ", " + bits + ", 40)", x.sheet(s, bits, 40), 40);
                due("write(" + s + ", 39, 1)", x.write(s, 39, 1), 1);
                due("write(" + s + ", 40, 1)", x.write(s, 40, 1), BEYOND);
                due("sheet(" + s + ", " + bits + ", 0)", x.sheet(s, bits, 0), 0);
                due("write(" + s + ", 0, 1)", x.write(s, 0, 1), BEYOND);
                due("judge(" + s + "), not missing", x.judge(s), 0);
            }
        }
    }

    @Says("A sheet has n numbers, all 0, of 8, 16 or 32 bits")
    static void promise32_allAre0Again() {
        QuarrelSauce x = kitchen("sauce thick 0;sauce thick 0;sauce thick 0");
        sheetOf(x, 1, 8, 5, 6, 7);
        x.sheet(1, 8, 3);
        due("judge(1), as long", x.judge(1), 0);
        sheetOf(x, 1, 8, 5, 6, 7);
        x.sheet(1, 16, 1);
        x.sheet(1, 8, 3);
        due("judge(1), shorter meanwhile", x.judge(1), 0);
        sheetOf(x, 1, 32, 5, 6, 7);
        x.sheet(1, 0, 3);
        x.sheet(1, 32, 3);
        due("judge(1), missing meanwhile", x.judge(1), 0);
    }

    @Says("bits 0: it is MISSING: n (0 if it is MISSING).")
    static void promise32_withoutBitsItIsMissing() {
        for (int n : new int[] {0, 1, 40}) {
            QuarrelSauce x = begun(Asking::rich);
            due("sheet(0, 0, " + n + ")", x.sheet(0, 0, n), 0);
            due("judge(0)", x.judge(0), MISSING);
            due("sheet(0, 0, " + n + ") again", x.sheet(0, 0, n), 0);
            due("judge(1), untouched", x.judge(1), 1);
        }
    }

    @Says("BEYOND: no such sheet, other bits.")
    static void promise32_noSuchSheetIsRefused() {
        for (int s : new int[] {-1, 4, LEAST, MOST}) {
            refused("sheet(" + s + ", 8, 1)", Asking::rich, x -> x.sheet(s, 8, 1), BEYOND);
            refused("sheet(" + s + ", 0, 1)", Asking::rich, x -> x.sheet(s, 0, 1), BEYOND);
        }
    }

    @Says("BEYOND: no such sheet, other bits.")
    static void promise32_otherBitsAreRefused() {
        for (int bits : new int[] {-1, 1, 7, 9, 15, 17, 24, 31, 33, 64, -8, LEAST, MOST}) {
            refused("sheet(0, " + bits + ", 1)", Asking::rich, x -> x.sheet(0, bits, 1), BEYOND);
        }
    }

    @Says("SIZE: n is below 0 (also with bits 0).")
    static void promise32_aSizeBelow0IsRefused() {
        for (int bits : new int[] {0, 8, 16, 32}) {
            refused("sheet(0, " + bits + ", -1)", Asking::rich, x -> x.sheet(0, bits, -1), SIZE);
            refused("sheet(0, " + bits + ", LEAST)", Asking::rich, x -> x.sheet(0, bits, LEAST), SIZE);
            refused("sheet(3, " + bits + ", -1), missing", Asking::rich, x -> x.sheet(3, bits, -1), SIZE);
        }
    }

    @Says("BEYOND: n is above 40.")
    static void promise32_aSizeAbove40IsRefused() {
        for (int bits : new int[] {0, 8, 16, 32}) {
            refused("sheet(0, " + bits + ", 41)", Asking::rich, x -> x.sheet(0, bits, 41), BEYOND);
            refused("sheet(0, " + bits + ", MOST)", Asking::rich, x -> x.sheet(0, bits, MOST), BEYOND);
        }
    }

    @Says("Each act tells its findings in the order in which they are asked (that of its words)")
    static void promise32_beyondComesAheadOfSize() {
        refused("sheet(4, 8, -1)", Asking::rich, x -> x.sheet(4, 8, -1), BEYOND);
        refused("sheet(-1, 0, -1)", Asking::rich, x -> x.sheet(-1, 0, -1), BEYOND);
        refused("sheet(0, 7, -1)", Asking::rich, x -> x.sheet(0, 7, -1), BEYOND);
    }

    // ---- promise 33: write

    @Says("Number i of a sheet becomes v (its lowest bits): 1.")
    static void promise33_theFirstAndTheLastNumber() {
        QuarrelSauce x = kitchen("sauce thick 5;sauce thick 0;sauce thick 6");
        x.sheet(3, 8, 3);
        due("write(3, 0, 5)", x.write(3, 0, 5), 1);
        due("write(3, 2, 6)", x.write(3, 2, 6), 1);
        due("judge(3)", x.judge(3), 0);
    }

    @Says("Number i of a sheet becomes v (its lowest bits): 1.")
    static void promise33_8BitsWrapAround() {
        writes(8, 256 + 7, 1);
        writes(8, 7 - 256, 1);
        writes(8, 0x12345607, 1);
        writes(8, LEAST + 7, 1);
        writes(8, 7 + 128, 0);
    }

    @Says("Number i of a sheet becomes v (its lowest bits): 1.")
    static void promise33_16BitsWrapAround() {
        writes(16, 65536 + 7, 1);
        writes(16, 7 - 65536, 1);
        writes(16, LEAST + 7, 1);
        writes(16, 256 + 7, 0);
        writes(16, 7 + 32768, 0);
    }

    @Says("Number i of a sheet becomes v (its lowest bits): 1.")
    static void promise33_32BitsHoldEveryNumber() {
        writes(32, 7, 1);
        writes(32, 65536 + 7, 0);
        writes(32, 256 + 7, 0);
        writes(32, LEAST + 7, 0);
        writes(32, 7 - 65536, 0);
    }

    /** Whether v is 7 in so many bits. */
    private static void writes(int bits, int v, int isSeven) {
        QuarrelSauce x = kitchen("sauce thick 7");
        x.sheet(0, bits, 1);
        due("write(0, 0, " + v + ") of " + bits, x.write(0, 0, v), 1);
        due("judge(0) of " + v + " in " + bits, x.judge(0), 1 - isSeven);
        due("load(0) of " + v + " in " + bits, x.load(0), isSeven);
        due("listed(0)", x.listed(0), 7 * isSeven);
    }

    @Says("Number i of a sheet becomes v (its lowest bits): 1.")
    static void promise33_allBitsSetAreMinus1InEveryWidth() {
        int[] ones = {255, 65535, -1};
        for (int k = 0; k < 3; k++) {
            QuarrelSauce x = kitchen("sauce");
            sheetOf(x, 0, WIDTHS[k], ones[k]);
            due("any thick by " + ones[k] + " in " + WIDTHS[k], x.fits(0, 0), 100);
        }
        QuarrelSauce y = kitchen("sauce");
        sheetOf(y, 0, 16, 255);
        due("255 in 16 isn't any", y.fits(0, 0), 0);
        sheetOf(y, 0, 32, 65535);
        due("65535 in 32 isn't any", y.fits(0, 0), 0);
    }

    @Says("BEYOND: no such sheet. MISSING. BEYOND: no such number.")
    static void promise33_noSuchSheetIsRefused() {
        for (int s : new int[] {-1, 4, LEAST, MOST}) {
            refused("write(" + s + ", 0, 1)", Asking::rich, x -> x.write(s, 0, 1), BEYOND);
        }
    }

    @Says("BEYOND: no such sheet. MISSING. BEYOND: no such number.")
    static void promise33_aMissingSheetIsRefused() {
        refused("write(3, 0, 1)", Asking::rich, x -> x.write(3, 0, 1), MISSING);
        refused("write(3, -1, 1), ahead of the number", Asking::rich, x -> x.write(3, -1, 1), MISSING);
        refused("write(3, 40, 1), ahead of the number", Asking::rich, x -> x.write(3, 40, 1), MISSING);
    }

    @Says("BEYOND: no such sheet. MISSING. BEYOND: no such number.")
    static void promise33_noSuchNumberIsRefused() {
        for (int i : new int[] {-1, 3, 40, LEAST, MOST}) {
            refused("write(0, " + i + ", 1)", Asking::rich, x -> x.write(0, i, 1), BEYOND);
        }
        refused("write(0, 0, 1) of an empty sheet", x -> x.sheet(0, 8, 0), x -> x.write(0, 0, 1), BEYOND);
        refused("write(0, 40, 1) of a full sheet", x -> x.sheet(0, 8, 40), x -> x.write(0, 40, 1), BEYOND);
    }

    // ---- promise 34: copy

    /** Numbers of a sheet that are deeds, six at most, must be so. */
    private static void numbersAre(String call, QuarrelSauce x, int s, int... numbers) {
        due("numbers of sheet " + s + " behind " + call, x.load(s), numbers.length);
        for (int i = 0; i < numbers.length; i++) {
            due("number " + i + " behind " + call, x.listed(i), numbers[i]);
        }
    }

    @Says("n numbers of a sheet from one on come to another one from one on (as they all were): n.")
    static void promise34_0Numbers() {
        unchanged("copy(0, 0, 1, 0, 0)", Asking::rich, x -> x.copy(0, 0, 1, 0, 0), 0);
        unchanged("copy(0, 3, 1, 2, 0), at the ends", Asking::rich, x -> x.copy(0, 3, 1, 2, 0), 0);
        unchanged("copy(0, 0, 0, 0, 0) of an empty sheet", x -> x.sheet(0, 8, 0), x -> x.copy(0, 0, 0, 0, 0), 0);
    }

    @Says("n numbers of a sheet from one on come to another one from one on (as they all were): n.")
    static void promise34_allNumbersAndTheLast() {
        QuarrelSauce x = begun(Asking::rich);
        due("copy(0, 1, 1, 0, 2)", x.copy(0, 1, 1, 0, 2), 2);
        numbersAre("copy(0, 1, 1, 0, 2)", x, 1, 2, 3);
        numbersAre("copy(0, 1, 1, 0, 2)", x, 0, 1, 2, 3);
        due("copy(1, 0, 0, 1, 2)", x.copy(1, 0, 0, 1, 2), 2);
        due("copy(0, 2, 0, 0, 1)", x.copy(0, 2, 0, 0, 1), 1);
        numbersAre("copy(0, 2, 0, 0, 1)", x, 0, 3, 2, 3);
        due("copy(0, 0, 0, 0, 3)", x.copy(0, 0, 0, 0, 3), 3);
        numbersAre("copy(0, 0, 0, 0, 3)", x, 0, 3, 2, 3);
    }

    @Says("n numbers of a sheet from one on come to another one from one on (as they all were): n.")
    static void promise34_fortyNumbers() {
        QuarrelSauce x = kitchen("salad thick 7");
        for (int s = 0; s < 2; s++) {
            x.sheet(s, 16, 40);
        }
        for (int i = 0; i < 40; i++) {
            x.write(0, i, 7);
        }
        due("copy(0, 0, 1, 0, 40)", x.copy(0, 0, 1, 0, 40), 40);
        due("fits(1, 0)", x.fits(1, 0), 100);
        x.write(0, 39, 8);
        due("copy(0, 39, 1, 39, 1)", x.copy(0, 39, 1, 39, 1), 1);
        due("fits(1, 0), the last isn't so", x.fits(1, 0), 0);
    }

    @Says("n numbers of a sheet from one on come to another one from one on (as they all were): n.")
    static void promise34_aSheetOntoItself() {
        for (int bits : WIDTHS) {
            QuarrelSauce x = new QuarrelSauce();
            sheetOf(x, 2, bits, 1, 2, 3, 4, 5, 6);
            due("onward", x.copy(2, 0, 2, 1, 5), 5);
            numbersAre("onward", x, 2, 1, 1, 2, 3, 4, 5);
            sheetOf(x, 2, bits, 1, 2, 3, 4, 5, 6);
            due("back", x.copy(2, 1, 2, 0, 5), 5);
            numbersAre("back", x, 2, 2, 3, 4, 5, 6, 6);
        }
    }

    @Says("BEYOND: no such sheet (either).")
    static void promise34_noSuchSheetIsRefused() {
        for (int s : new int[] {-1, 4, LEAST, MOST}) {
            refused("copy(" + s + ", 0, 0, 0, 1)", Asking::rich, x -> x.copy(s, 0, 0, 0, 1), BEYOND);
            refused("copy(0, 0, " + s + ", 0, 1)", Asking::rich, x -> x.copy(0, 0, s, 0, 1), BEYOND);
            refused("copy(" + s + ", 0, 3, 0, 1), ahead of MISSING", Asking::rich, x -> x.copy(s, 0, 3, 0, 1), BEYOND);
            refused("copy(3, 0, " + s + ", 0, 1), ahead of MISSING", Asking::rich, x -> x.copy(3, 0, s, 0, 1), BEYOND);
        }
    }

    @Says("MISSING: one is.")
    static void promise34_aMissingSheetIsRefused() {
        refused("copy(3, 0, 0, 0, 1)", Asking::rich, x -> x.copy(3, 0, 0, 0, 1), MISSING);
        refused("copy(0, 0, 3, 0, 1)", Asking::rich, x -> x.copy(0, 0, 3, 0, 1), MISSING);
        refused("copy(3, 0, 3, 0, 0)", Asking::rich, x -> x.copy(3, 0, 3, 0, 0), MISSING);
        refused("copy(0, -1, 3, 0, 9), ahead of the rest", Asking::rich, x -> x.copy(0, -1, 3, 0, 9), MISSING);
    }

    @Says("KIND: they are not of as many bits.")
    static void promise34_otherBitsAreRefused() {
        refused("copy(0, 0, 2, 0, 1)", Asking::rich, x -> x.copy(0, 0, 2, 0, 1), KIND);
        refused("copy(2, 0, 0, 0, 1)", Asking::rich, x -> x.copy(2, 0, 0, 0, 1), KIND);
        refused("copy(0, 0, 2, 0, 0), of none", Asking::rich, x -> x.copy(0, 0, 2, 0, 0), KIND);
        refused("copy(0, -1, 2, -1, -1), ahead of the rest", Asking::rich, x -> x.copy(0, -1, 2, -1, -1), KIND);
        refused("32 to 16", x -> {
            x.sheet(0, 32, 4);
            x.sheet(1, 16, 4);
        }, x -> x.copy(0, 0, 1, 0, 1), KIND);
    }

    @Says("BEYOND: one has not so many, or from, to or n is below 0.")
    static void promise34_moreThanOneHasIsRefused() {
        refused("copy(0, 0, 1, 0, 3), too many for 1", Asking::rich, x -> x.copy(0, 0, 1, 0, 3), BEYOND);
        refused("copy(1, 0, 0, 0, 3), too many of 1", Asking::rich, x -> x.copy(1, 0, 0, 0, 3), BEYOND);
        refused("copy(0, 2, 1, 0, 2)", Asking::rich, x -> x.copy(0, 2, 1, 0, 2), BEYOND);
        refused("copy(0, 0, 1, 1, 2)", Asking::rich, x -> x.copy(0, 0, 1, 1, 2), BEYOND);
        refused("copy(0, 3, 1, 0, 1)", Asking::rich, x -> x.copy(0, 3, 1, 0, 1), BEYOND);
        refused("copy(0, 0, 1, 2, 1)", Asking::rich, x -> x.copy(0, 0, 1, 2, 1), BEYOND);
        refused("copy(0, 0, 0, 0, 41) of forty", x -> x.sheet(0, 8, 40), x -> x.copy(0, 0, 0, 0, 41), BEYOND);
    }

    @Says("BEYOND: one has not so many, or from, to or n is below 0.")
    static void promise34_belowNoughtIsRefused() {
        for (int v : new int[] {-1, -40, LEAST}) {
            refused("copy(0, " + v + ", 1, 0, 1)", Asking::rich, x -> x.copy(0, v, 1, 0, 1), BEYOND);
            refused("copy(0, 0, 1, " + v + ", 1)", Asking::rich, x -> x.copy(0, 0, 1, v, 1), BEYOND);
            refused("copy(0, 0, 1, 0, " + v + ")", Asking::rich, x -> x.copy(0, 0, 1, 0, v), BEYOND);
            refused("copy(0, 1, 1, 1, " + v + ")", Asking::rich, x -> x.copy(0, 1, 1, 1, v), BEYOND);
        }
    }

    @Says("BEYOND: one has not so many, or from, to or n is below 0.")
    static void promise34_sumsThatWrapAroundAreRefused() {
        refused("copy(0, MOST, 1, 0, 1)", Asking::rich, x -> x.copy(0, MOST, 1, 0, 1), BEYOND);
        refused("copy(0, 0, 1, MOST, 1)", Asking::rich, x -> x.copy(0, 0, 1, MOST, 1), BEYOND);
        refused("copy(0, 1, 1, 1, MOST)", Asking::rich, x -> x.copy(0, 1, 1, 1, MOST), BEYOND);
        refused("copy(0, MOST, 1, MOST, MOST)", Asking::rich, x -> x.copy(0, MOST, 1, MOST, MOST), BEYOND);
        refused("copy(0, MOST, 1, MOST, 2)", Asking::rich, x -> x.copy(0, MOST, 1, MOST, 2), BEYOND);
    }

    // ---- promise 35: load

    @Says("It ends at the first that isn't 0 to 11, or for which there is no place.")
    static void promise35_thereIsNoPlaceForASeventh() {
        QuarrelSauce x = new QuarrelSauce();
        sheetOf(x, 0, 8, 0, 11, 1, 10, 2, 9, 3);
        due("load(0)", x.load(0), 6);
        int[] deeds = {0, 11, 1, 10, 2, 9};
        for (int i = 0; i < 6; i++) {
            due("listed(" + i + ")", x.listed(i), deeds[i]);
        }
        x.sheet(1, 8, 40);
        due("load(1), of forty", x.load(1), 6);
        sheetOf(x, 2, 8, 1, 1, 1, 1, 1, 1, 12);
        due("load(2), a seventh that is no deed", x.load(2), 6);
    }

    @Says("It ends at the first that isn't 0 to 11, or for which there is no place.")
    static void promise35_itEndsAtTheFirstThatIsNoDeed() {
        for (int bits : WIDTHS) {
            for (int other : new int[] {12, -1, 99, -128}) {
                QuarrelSauce x = new QuarrelSauce();
                list(x, 5, 5, 5, 5, 5, 5);
                sheetOf(x, 3, bits, 0, 11, other, 7);
                due("load(3) to " + other, x.load(3), 2);
                int[] deeds = {0, 11, 5, 5, 5, 5};
                for (int i = 0; i < 6; i++) {
                    due("listed(" + i + ")", x.listed(i), deeds[i]);
                }
                x.write(3, 0, other);
                due("load(3), none", x.load(3), 0);
                due("listed(0)", x.listed(0), 0);
            }
        }
    }

    @Says("Numbers of a sheet, from its begin on, become DEEDS of THE LIST, places 0, 1, ..: how many came.")
    static void promise35_anEmptyAndAShortSheet() {
        QuarrelSauce x = new QuarrelSauce();
        list(x, 5, 6, 7, 8, 9, 10);
        x.sheet(0, 8, 0);
        due("load(0) of none", x.load(0), 0);
        due("listed(0)", x.listed(0), 5);
        sheetOf(x, 0, 8, 1);
        due("load(0) of one", x.load(0), 1);
        due("listed(0)", x.listed(0), 1);
        due("listed(1)", x.listed(1), 6);
    }

    @Says("BEYOND: no such sheet. MISSING.")
    static void promise35_noSuchSheetIsRefused() {
        for (int s : new int[] {-1, 4, LEAST, MOST}) {
            refused("load(" + s + ")", Asking::rich, x -> x.load(s), BEYOND);
        }
    }

    @Says("BEYOND: no such sheet. MISSING.")
    static void promise35_aMissingSheetIsRefused() {
        refused("load(3)", Asking::rich, x -> x.load(3), MISSING);
        refused("load(0), gone", x -> {
            sheetOf(x, 0, 8, 1, 2, 3);
            x.sheet(0, 0, 0);
        }, x -> x.load(0), MISSING);
    }

    // ---- promise 36: judge

    @Says("numbers of a sheet are how THICK DISHES 0, 1, .. are: 0 if so; else 1 and the place of the first that isn't so.")
    static void promise36_theFirstAndTheLastPlace() {
        QuarrelSauce x = begun(Asking::full);
        sheetOf(x, 0, 8, 10, 10, 10, 10, 10, 10, 10, 40);
        due("all so", x.judge(0), 0);
        x.write(0, 7, 41);
        due("the last isn't so", x.judge(0), 8);
        x.write(0, 0, 9);
        due("nor the first", x.judge(0), 1);
    }

    @Says("numbers of a sheet are how THICK DISHES 0, 1, .. are: 0 if so; else 1 and the place of the first that isn't so.")
    static void promise36_anEmptySheet() {
        unchanged("of five", x -> {
            rich(x);
            x.sheet(0, 8, 0);
        }, x -> x.judge(0), 0);
        unchanged("of none", x -> x.sheet(0, 8, 0), x -> x.judge(0), 0);
    }

    @Says("numbers of a sheet are how THICK DISHES 0, 1, .. are: 0 if so; else 1 and the place of the first that isn't so.")
    static void promise36_moreNumbersThanDishes() {
        QuarrelSauce x = kitchen("sauce thick 0");
        x.sheet(0, 8, 2);
        due("a number without a dish", x.judge(0), 2);
        x.sheet(0, 8, 40);
        due("many", x.judge(0), 2);
        QuarrelSauce y = begun(Asking::full);
        sheetOf(y, 0, 8, 10, 10, 10, 10, 10, 10, 10, 40, 0);
        due("a ninth", y.judge(0), 9);
        QuarrelSauce z = new QuarrelSauce();
        z.sheet(0, 8, 1);
        due("without dishes", z.judge(0), 1);
    }

    @Says("numbers of a sheet are how THICK DISHES 0, 1, .. are: 0 if so; else 1 and the place of the first that isn't so.")
    static void promise36_thick0And99() {
        QuarrelSauce x = kitchen("sauce thick 0;sauce thick 99 off;sauce thick 99 split");
        for (int bits : WIDTHS) {
            sheetOf(x, 0, bits, 0, 99, 99);
            due("so, in " + bits, x.judge(0), 0);
            sheetOf(x, 0, bits, 0, 100, 99);
            due("100, in " + bits, x.judge(0), 2);
            sheetOf(x, 0, bits, -1, 99, 99);
            due("-1 isn't any here, in " + bits, x.judge(0), 1);
        }
    }

    @Says("BEYOND: no such sheet. MISSING.")
    static void promise36_noSuchSheetIsRefused() {
        for (int s : new int[] {-1, 4, LEAST, MOST}) {
            refused("judge(" + s + ")", Asking::rich, x -> x.judge(s), BEYOND);
        }
    }

    @Says("BEYOND: no such sheet. MISSING.")
    static void promise36_aMissingSheetIsRefused() {
        refused("judge(3)", Asking::rich, x -> x.judge(3), MISSING);
        refused("judge(0) of none", Asking::bare, x -> x.judge(0), MISSING);
    }
}
