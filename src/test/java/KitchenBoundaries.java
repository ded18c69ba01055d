/** Boundaries of promises 1 to 9: the kitchen and its dishes. */
final class KitchenBoundaries extends Asking {
    private KitchenBoundaries() {
    }

    // ---- promise 1: a new object

    @Says("GRUDGE (0 to 99; 50 at first).")
    static void promise01_grudgeIs50AtFirst() {
        due("count(2)", new QuarrelSauce().count(2), 50);
        due("now(1)", new QuarrelSauce().now(1), 50);
        due("set(0, 0)", new QuarrelSauce().set(0, 0), 50);
    }

    @Says("HEAT (0 to 9; 3 at first).")
    static void promise01_heatIs3AtFirst() {
        due("set(1, 0)", new QuarrelSauce().set(1, 0), 3);
    }

    @Says("STARS (0 to 99999; 0 at first).")
    static void promise01_starsAre0AtFirst() {
        due("count(3)", new QuarrelSauce().count(3), 0);
        due("now(2)", new QuarrelSauce().now(2), 0);
    }

    @Says("THE LIST: six DEEDS, one for STEP modulo 6 (0 at first).")
    static void promise01_theListTells0AtFirst() {
        QuarrelSauce x = new QuarrelSauce();
        for (int i = 0; i < 6; i++) {
            due("listed(" + i + ")", x.listed(i), 0);
        }
        due("now(0)", x.now(0), 0);
        due("count(0)", x.count(0), 0);
    }

    @Says("z is told (1 at first)")
    static void promise01_zIs1AtFirst() {
        due("count(6)", new QuarrelSauce().count(6), 1);
        due("seed(0)", new QuarrelSauce().seed(0), 1);
    }

    @Says("no DISHES")
    static void promise01_thereAreNoDishes() {
        QuarrelSauce x = new QuarrelSauce();
        due("count(1)", x.count(1), 0);
        due("count(4)", x.count(4), 0);
        due("now(7)", x.now(7), -1);
        due("of(0, 0)", x.of(0, 0), BEYOND);
        due("dish(0, 0)", x.dish(0, 0), 0);
    }

    @Says("THE TAPE is empty")
    static void promise01_theTapeIsEmpty() {
        due("count(5)", new QuarrelSauce().count(5), 0);
        due("wipe()", new QuarrelSauce().wipe(), 0);
        due("text()", new QuarrelSauce().text(), -1);
    }

    @Says("no image is kept")
    static void promise01_noImageIsKept() {
        due("tear()", new QuarrelSauce().tear(), 0);
        due("undo()", new QuarrelSauce().undo(), NONE);
    }

    @Says("SPOTS 0 to 9 hold a DISH or nothing (at first).")
    static void promise01_spotsHoldNothingAtFirst() {
        QuarrelSauce x = new QuarrelSauce();
        due("count(7)", x.count(7), 0);
        x.dish(SAUCE, 10);
        for (int spot = 0; spot < 10; spot++) {
            due("as(" + spot + ", 0)", x.as(spot, 0), MISSING);
        }
    }

    @Says("SHEETS 0 to 3: rows of at most 40 numbers of 8, 16 or 32 bits, or MISSING (at first).")
    static void promise01_sheetsAreMissingAtFirst() {
        QuarrelSauce x = new QuarrelSauce();
        for (int s = 0; s < 4; s++) {
            due("judge(" + s + ")", x.judge(s), MISSING);
            due("write(" + s + ", 0, 0)", x.write(s, 0, 0), MISSING);
        }
    }

    @Says("How many acts answered a finding ever")
    static void promise01_noFindingIsCountedAtFirst() {
        QuarrelSauce x = new QuarrelSauce();
        for (int which = -1; which <= 6; which++) {
            due("status(" + which + ")", x.status(which), 0);
        }
    }

    @Says("All as at first")
    static void promise01_anotherObjectTouchesNothing() {
        QuarrelSauce older = new QuarrelSauce();
        begun(Asking::rich);
        QuarrelSauce newer = new QuarrelSauce();
        int[] counts = {0, 0, 50, 0, 0, 0, 1, 0};
        for (int what = 0; what < 8; what++) {
            due("older count(" + what + ")", older.count(what), counts[what]);
            due("newer count(" + what + ")", newer.count(what), counts[what]);
        }
        due("older undo()", older.undo(), NONE);
        due("newer status(-1)", newer.status(-1), 0);
        due("newer judge(0)", newer.judge(0), MISSING);
        due("newer listed(0)", newer.listed(0), 0);
    }

    // ---- promise 2: set

    @Says("GRUDGE (0 to 99; 50 at first).")
    static void promise02_grudge0And99AreTaken() {
        QuarrelSauce x = new QuarrelSauce();
        due("set(0, 0)", x.set(0, 0), 50);
        due("set(0, 99)", x.set(0, 99), 0);
        due("set(0, 98)", x.set(0, 98), 99);
        due("count(2)", x.count(2), 98);
        due("heat, untouched", x.set(1, 3), 3);
    }

    @Says("GRUDGE (0 to 99; 50 at first).")
    static void promise02_grudgeTooSmallIsRefused() {
        refused("set(0, -1)", Asking::rich, x -> x.set(0, -1), BEYOND);
        refused("set(0, LEAST)", Asking::rich, x -> x.set(0, LEAST), BEYOND);
    }

    @Says("GRUDGE (0 to 99; 50 at first).")
    static void promise02_grudgeTooLargeIsRefused() {
        refused("set(0, 100)", Asking::rich, x -> x.set(0, 100), BEYOND);
        refused("set(0, MOST)", Asking::rich, x -> x.set(0, MOST), BEYOND);
    }

    @Says("HEAT (0 to 9; 3 at first).")
    static void promise02_heat0And9AreTaken() {
        QuarrelSauce x = new QuarrelSauce();
        due("set(1, 0)", x.set(1, 0), 3);
        due("set(1, 9)", x.set(1, 9), 0);
        due("set(1, 8)", x.set(1, 8), 9);
        due("grudge, untouched", x.count(2), 50);
    }

    @Says("HEAT (0 to 9; 3 at first).")
    static void promise02_heatTooSmallIsRefused() {
        refused("set(1, -1)", Asking::rich, x -> x.set(1, -1), BEYOND);
        refused("set(1, LEAST)", Asking::rich, x -> x.set(1, LEAST), BEYOND);
    }

    @Says("HEAT (0 to 9; 3 at first).")
    static void promise02_heatTooLargeIsRefused() {
        refused("set(1, 10)", Asking::rich, x -> x.set(1, 10), BEYOND);
        refused("set(1, 99)", Asking::rich, x -> x.set(1, 99), BEYOND);
        refused("set(1, MOST)", Asking::rich, x -> x.set(1, MOST), BEYOND);
    }

    @Says("GRUDGE (what 0), HEAT (1) becomes v: what it was. BEYOND.")
    static void promise02_anotherWhatIsRefused() {
        for (int what : new int[] {-1, 2, LEAST, MOST}) {
            refused("set(" + what + ", 5)", Asking::rich, x -> x.set(what, 5), BEYOND);
        }
    }

    // ---- promise 3: deed

    @Says("THE LIST tells in place i (0 to 5) a DEED: which it was.")
    static void promise03_places0And5AreTaken() {
        QuarrelSauce x = new QuarrelSauce();
        due("deed(0, 7)", x.deed(0, 7), 0);
        due("deed(5, 8)", x.deed(5, 8), 0);
        due("listed(0)", x.listed(0), 7);
        due("listed(5)", x.listed(5), 8);
        due("listed(1)", x.listed(1), 0);
        due("listed(4)", x.listed(4), 0);
    }

    @Says("DEEDS 0 to 11 change GRUDGE by")
    static void promise03_deeds0And11AreTaken() {
        QuarrelSauce x = new QuarrelSauce();
        due("deed(2, 11)", x.deed(2, 11), 0);
        due("deed(2, 0)", x.deed(2, 0), 11);
        due("listed(2)", x.listed(2), 0);
    }

    @Says("THE LIST tells in place i (0 to 5) a DEED: which it was. BEYOND.")
    static void promise03_placesTooSmallOrTooLargeAreRefused() {
        for (int i : new int[] {-1, 6, LEAST, MOST}) {
            refused("deed(" + i + ", 1)", Asking::rich, x -> x.deed(i, 1), BEYOND);
        }
    }

    @Says("THE LIST tells in place i (0 to 5) a DEED: which it was. BEYOND.")
    static void promise03_deedsTooSmallOrTooLargeAreRefused() {
        for (int deed : new int[] {-1, 12, LEAST, MOST}) {
            refused("deed(1, " + deed + ")", Asking::rich, x -> x.deed(1, deed), BEYOND);
        }
    }

    // ---- promise 4: listed

    @Says("The DEED in a place of THE LIST.")
    static void promise04_everyPlaceFrom0To5Tells() {
        QuarrelSauce x = new QuarrelSauce();
        list(x, 11, 10, 9, 8, 7, 6);
        for (int i = 0; i < 6; i++) {
            due("listed(" + i + ")", x.listed(i), 11 - i);
        }
    }

    @Says("The DEED in a place of THE LIST. BEYOND.")
    static void promise04_placesTooSmallOrTooLargeAreRefused() {
        for (int i : new int[] {-1, 6, LEAST, MOST}) {
            refused("listed(" + i + ")", Asking::rich, x -> x.listed(i), BEYOND);
        }
    }

    // ---- promise 5: dish

    @Says("DISHES 0, 1, .. (at most 8), of KINDS: 0 SAUCE; 1 CREAM, 2 STOCK, 5 SALAD under SAUCE;")
    static void promise05_kinds0To6AreTaken() {
        QuarrelSauce x = new QuarrelSauce();
        for (int kind = 0; kind < 7; kind++) {
            due("dish(" + kind + ", 10)", x.dish(kind, 10), kind);
            due("of(" + kind + ", 0)", x.of(kind, 0), kind);
        }
    }

    @Says("A new DISH, so THICK: its number. BEYOND.")
    static void promise05_kindsTooSmallOrTooLargeAreRefused() {
        for (int kind : new int[] {-1, 7, LEAST, MOST}) {
            refused("dish(" + kind + ", 10)", Asking::rich, x -> x.dish(kind, 10), BEYOND);
        }
    }

    @Says("each THICK (0 to 99; 10 at first)")
    static void promise05_thick0And99AreTaken() {
        QuarrelSauce x = new QuarrelSauce();
        due("dish(0, 0)", x.dish(0, 0), 0);
        due("dish(0, 99)", x.dish(0, 99), 1);
        due("of(0, 1)", x.of(0, 1), 0);
        due("of(1, 1)", x.of(1, 1), 99);
    }

    @Says("A new DISH, so THICK: its number. BEYOND.")
    static void promise05_thickTooSmallOrTooLargeIsRefused() {
        for (int thick : new int[] {-1, 100, LEAST, MOST}) {
            refused("dish(0, " + thick + ")", Asking::rich, x -> x.dish(0, thick), BEYOND);
        }
    }

    @Says("SALT (0 to 99; 10 at first), SPLIT or not (1, 0; 0 at first), OFF the fire or not (1, 0; 0 at first), "
        + "SERVED (how often; 0 to 9999; 0 at first).")
    static void promise05_aNewDishIsAsAtFirst() {
        QuarrelSauce x = new QuarrelSauce();
        x.dish(DARK, 77);
        int[] fresh = {DARK, 77, 10, 0, 0, 0};
        for (int what = 0; what < 6; what++) {
            due("of(0, " + what + ")", x.of(0, what), fresh[what]);
        }
    }

    @Says("SALT (0 to 99; 10 at first), SPLIT or not (1, 0; 0 at first), OFF the fire or not (1, 0; 0 at first), "
        + "SERVED (how often; 0 to 9999; 0 at first).")
    static void promise05_aDishInTheNumberOfOneThatIsGoneIsNewToo() {
        QuarrelSauce x = new QuarrelSauce();
        x.image();
        x.dish(SAUCE, 5);
        for (int what = 2; what <= 5; what++) {
            x.change(0, what, 1);
        }
        x.undo();
        due("dish(6, 20)", x.dish(CUSTARD, 20), 0);
        int[] fresh = {CUSTARD, 20, 10, 0, 0, 0};
        for (int what = 0; what < 6; what++) {
            due("of(0, " + what + ")", x.of(0, what), fresh[what]);
        }
    }

    @Says("DISHES 0, 1, .. (at most 8)")
    static void promise05_theEighthDishIsTaken() {
        QuarrelSauce x = new QuarrelSauce();
        for (int d = 0; d < 8; d++) {
            due("dish " + d, x.dish(SALAD, d), d);
        }
        due("count(1)", x.count(1), 8);
        due("of(7, 1)", x.of(7, 1), 7);
    }

    @Says("A new DISH, so THICK: its number. BEYOND. FULL.")
    static void promise05_theNinthDishIsRefused() {
        refused("dish(0, 10), the ninth", Asking::full, x -> x.dish(0, 10), FULL);
    }

    @Says("Each act tells its findings in the order in which they are asked (that of its words)")
    static void promise05_beyondComesAheadOfFull() {
        refused("dish(7, 10), the ninth", Asking::full, x -> x.dish(7, 10), BEYOND);
        refused("dish(-1, 10), the ninth", Asking::full, x -> x.dish(-1, 10), BEYOND);
        refused("dish(0, 100), the ninth", Asking::full, x -> x.dish(0, 100), BEYOND);
        refused("dish(0, -1), the ninth", Asking::full, x -> x.dish(0, -1), BEYOND);
    }

    // ---- promise 6: of

    @Says("Of a DISH: what 0 KIND, 1 THICK, 2 SALT, 3 SPLIT, 4 OFF, 5 SERVED, 6 NEEDS, "
        + "7 THICKENS (by GRUDGE as it is now), 8 SALTS, 9 BURNS, 10 GIVES. BEYOND.")
    static void promise06_aDishThatIsNotThereIsRefused() {
        for (int dish : new int[] {-1, 5, 8, LEAST, MOST}) {
            refused("of(" + dish + ", 1)", Asking::rich, x -> x.of(dish, 1), BEYOND);
        }
        refused("of(0, 0) of none", Asking::bare, x -> x.of(0, 0), BEYOND);
        refused("of(8, 0) of eight", Asking::full, x -> x.of(8, 0), BEYOND);
    }

    @Says("Of a DISH: what 0 KIND, 1 THICK, 2 SALT, 3 SPLIT, 4 OFF, 5 SERVED, 6 NEEDS, "
        + "7 THICKENS (by GRUDGE as it is now), 8 SALTS, 9 BURNS, 10 GIVES. BEYOND.")
    static void promise06_anotherWhatIsRefused() {
        for (int what : new int[] {-1, 11, LEAST, MOST}) {
            refused("of(0, " + what + ")", Asking::rich, x -> x.of(0, what), BEYOND);
        }
    }

    @Says("Of a DISH: what 0 KIND")
    static void promise06_whats0To10OfTheFirstAndTheLastDishTell() {
        int[] first = {SAUCE, 10, 10, 0, 0, 0, 10, 5, 0, 80, 0};
        int[] last = {SAUCE, 40, 10, 0, 0, 0, 10, 5, 0, 80, 20};
        for (int what = 0; what <= 10; what++) {
            int w = what;
            unchanged("of(0, " + what + ")", Asking::full, x -> x.of(0, w), first[what]);
            unchanged("of(7, " + what + ")", Asking::full, x -> x.of(7, w), last[what]);
        }
    }

    @Says("GLAZE: as a STOCK, and a fourth (cut) of THICK.")
    static void promise06_aFourthIsCut() {
        int[] thick = {0, 3, 4, 7, 8, 99};
        int[] fourth = {0, 0, 1, 1, 2, 24};
        for (int k = 0; k < thick.length; k++) {
            QuarrelSauce x = new QuarrelSauce();
            x.dish(GLAZE, thick[k]);
            x.dish(DARK, thick[k]);
            due("needs of a glaze " + thick[k], x.of(0, 6), fourth[k]);
            due("needs of a dark " + thick[k], x.of(1, 6), fourth[k] + 25);
        }
    }

    @Says("CUSTARD: as a CREAM, and HEAT.")
    static void promise06_needsOfACustardAtTheEndsOfHeat() {
        due("heat 0", kitchen("custard;heat 0").of(0, 6), 30);
        due("heat 9", kitchen("custard;heat 9").of(0, 6), 39);
    }

    @Says("SAUCE: a tenth (cut) of GRUDGE.")
    static void promise06_aTenthIsCut() {
        int[] grudge = {0, 9, 10, 19, 99};
        int[] tenth = {0, 0, 1, 1, 9};
        for (int k = 0; k < grudge.length; k++) {
            QuarrelSauce x = kitchen("sauce;cream;custard;salad;grudge " + grudge[k]);
            due("a sauce at " + grudge[k], x.of(0, 7), tenth[k]);
            due("a cream at " + grudge[k], x.of(1, 7), tenth[k] + 1);
            due("a custard at " + grudge[k], x.of(2, 7), 2 * (tenth[k] + 1));
            due("a salad at " + grudge[k], x.of(3, 7), 0);
        }
    }

    @Says("STOCK: half (cut) of a SAUCE. GLAZE: as a STOCK, and HEAT.")
    static void promise06_halfOfATenthIsCutTwice() {
        int[] grudge = {0, 19, 20, 39, 40, 99};
        int[] half = {0, 0, 1, 1, 2, 4};
        for (int k = 0; k < grudge.length; k++) {
            QuarrelSauce x = kitchen("stock;glaze;dark;grudge " + grudge[k]);
            due("a stock at " + grudge[k], x.of(0, 7), half[k]);
            due("a glaze at " + grudge[k], x.of(1, 7), half[k] + 3);
            due("a dark at " + grudge[k], x.of(2, 7), half[k] + 3);
        }
    }

    @Says("DARK: as a GLAZE, and 10, if the DEED of this STEP is 1.")
    static void promise06_noDeedButTheDrawerThickensMore() {
        for (int deed = 0; deed < 12; deed++) {
            QuarrelSauce x = kitchen("sauce;cream;stock;glaze;dark;salad;custard;deed 0 " + deed);
            int[] thickens = {5, 6, 2, 5, deed == 1 ? 15 : 5, 0, 12};
            for (int kind = 0; kind < 7; kind++) {
                due("kind " + kind + " by deed " + deed, x.of(kind, 7), thickens[kind]);
            }
        }
    }

    @Says("SAUCE: 5, if the DEED of this STEP is 2, else 0. CREAM: as a SAUCE. CUSTARD: 0. STOCK: as a SAUCE, and 1. "
        + "GLAZE: twice a STOCK. DARK: as a GLAZE. SALAD: as a SAUCE, and 3, if the DEED of this STEP is 8.")
    static void promise06_noDeedButTwoSaltsMore() {
        int[] by2 = {5, 5, 6, 12, 12, 5, 0};
        int[] by8 = {0, 0, 1, 2, 2, 3, 0};
        int[] byOthers = {0, 0, 1, 2, 2, 0, 0};
        for (int deed = 0; deed < 12; deed++) {
            QuarrelSauce x = kitchen("sauce;cream;stock;glaze;dark;salad;custard;deed 0 " + deed);
            int[] salts = deed == 2 ? by2 : deed == 8 ? by8 : byOthers;
            for (int kind = 0; kind < 7; kind++) {
                due("kind " + kind + " by deed " + deed, x.of(kind, 8), salts[kind]);
            }
        }
    }

    @Says("SAUCE: 80. CREAM: as a SAUCE, less 10. CUSTARD: as a CREAM. STOCK, GLAZE: as a SAUCE, and 19. "
        + "DARK: as a GLAZE, less 9. SALAD: 99.")
    static void promise06_whatEachKindBurnsAt() {
        QuarrelSauce x = kitchen("sauce;cream;stock;glaze;dark;salad;custard");
        int[] burns = {80, 70, 99, 99, 90, 99, 70};
        for (int kind = 0; kind < 7; kind++) {
            due("of(" + kind + ", 9)", x.of(kind, 9), burns[kind]);
        }
    }

    @Says("7 THICKENS (by GRUDGE as it is now)")
    static void promise06_thickensIsNotByTheGrudgeBehindTheDeed() {
        due("of(0, 7) ahead of a kindness", kitchen("sauce;deed 0 4;grudge 50").of(0, 7), 5);
        due("of(0, 7) ahead of a birthday", kitchen("sauce;deed 0 6;grudge 50").of(0, 7), 5);
    }

    @Says("THE LIST: six DEEDS, one for STEP modulo 6 (0 at first).")
    static void promise06_theDeedOfThisStepComesAroundAgain() {
        QuarrelSauce x = kitchen("dark;sauce;salad;deed 0 1;deed 4 8;deed 5 2");
        int[] thickens = {15, 5, 5, 5, 5, 5, 15};
        for (int step = 0; step <= 6; step++) {
            x.set(0, 50);
            due("a dark at step " + step, x.of(0, 7), thickens[step]);
            due("a sauce at step " + step, x.of(1, 8), step == 5 ? 5 : 0);
            due("a salad at step " + step, x.of(2, 8), step == 5 ? 5 : step == 4 ? 3 : 0);
            x.go(1);
        }
    }

    @Says("SAUCE: THICK less how far SALT is from 30 (0 at least).")
    static void promise06_aSauceGives0AtLeast() {
        QuarrelSauce x = kitchen("sauce thick 20 salt 10;sauce thick 21 salt 10;sauce thick 0 salt 0;"
            + "sauce thick 69 salt 99;sauce thick 70 salt 99");
        int[] gives = {0, 1, 0, 0, 1};
        for (int d = 0; d < 5; d++) {
            due("of(" + d + ", 10)", x.of(d, 10), gives[d]);
        }
        due("thick 0, salt 99", kitchen("sauce thick 0 salt 99").of(0, 10), 0);
        due("thick 99, salt 30", kitchen("sauce thick 99 salt 30").of(0, 10), 99);
        due("a cream by its grudge alone", kitchen("cream thick 0 salt 99").of(0, 10), 10);
        due("a stock of nothing", kitchen("stock thick 0 salt 99").of(0, 10), 0);
        due("a dark of nothing", kitchen("dark thick 0 salt 99").of(0, 10), 40);
    }

    @Says("CREAM: as a SAUCE, and a fifth (cut) of GRUDGE.")
    static void promise06_aFifthIsCut() {
        int[] grudge = {0, 4, 5, 9, 99};
        int[] fifth = {0, 0, 1, 1, 19};
        for (int k = 0; k < grudge.length; k++) {
            QuarrelSauce x = kitchen("cream thick 40 salt 30;custard thick 40 salt 30;grudge " + grudge[k]);
            due("a cream at " + grudge[k], x.of(0, 10), 40 + fifth[k]);
            due("a custard at " + grudge[k], x.of(1, 10), 40 + fifth[k]);
        }
    }

    @Says("STOCK: half (cut) of a SAUCE. GLAZE: as a STOCK, and 20. DARK: twice a GLAZE.")
    static void promise06_halfOfWhatASauceGivesIsCut() {
        QuarrelSauce x = kitchen("stock thick 1 salt 30;stock thick 99 salt 30;glaze thick 99 salt 30;dark thick 99 salt 30");
        due("a stock of 1", x.of(0, 10), 0);
        due("a stock of 99", x.of(1, 10), 49);
        due("a glaze of 99", x.of(2, 10), 69);
        due("a dark of 99", x.of(3, 10), 138);
    }

    @Says("(One that is SPLIT: 0, whatever the KIND.)")
    static void promise06_aSplitOneGives0OfEveryKind() {
        for (int kind = 0; kind < 7; kind++) {
            QuarrelSauce x = new QuarrelSauce();
            x.dish(kind, 60);
            x.change(0, 2, 30);
            x.change(0, 3, 1);
            due("kind " + kind + ", split", x.of(0, 10), 0);
        }
    }

    // ---- promise 7: change

    private static final int[] MOST_OF = {6, 99, 99, 1, 1, 9999};

    @Says("KIND (what 0), THICK (1), SALT (2), SPLIT (3), OFF (4), SERVED (5) of a DISH becomes v: what it was.")
    static void promise07_theLeastAndTheMostOfEachAreTaken() {
        int[] first = {SALAD, 10, 10, 0, 0, 0};
        for (int what = 0; what < 6; what++) {
            QuarrelSauce x = kitchen("salad");
            due("change(0, " + what + ", most)", x.change(0, what, MOST_OF[what]), first[what]);
            due("of(0, " + what + ")", x.of(0, what), MOST_OF[what]);
            due("change(0, " + what + ", 0)", x.change(0, what, 0), MOST_OF[what]);
            due("of(0, " + what + ")", x.of(0, what), 0);
        }
    }

    @Says("SERVED (5) of a DISH becomes v: what it was. BEYOND.")
    static void promise07_valuesTooSmallAreRefused() {
        for (int what = 0; what < 6; what++) {
            int w = what;
            refused("change(1, " + what + ", -1)", Asking::rich, x -> x.change(1, w, -1), BEYOND);
            refused("change(1, " + what + ", LEAST)", Asking::rich, x -> x.change(1, w, LEAST), BEYOND);
        }
    }

    @Says("SERVED (5) of a DISH becomes v: what it was. BEYOND.")
    static void promise07_valuesTooLargeAreRefused() {
        for (int what = 0; what < 6; what++) {
            int w = what;
            refused("change(1, " + what + ", most + 1)", Asking::rich, x -> x.change(1, w, MOST_OF[w] + 1), BEYOND);
            refused("change(1, " + what + ", MOST)", Asking::rich, x -> x.change(1, w, MOST), BEYOND);
        }
    }

    @Says("SERVED (5) of a DISH becomes v: what it was. BEYOND.")
    static void promise07_anotherWhatIsRefused() {
        for (int what : new int[] {-1, 6, 10, LEAST, MOST}) {
            refused("change(1, " + what + ", 0)", Asking::rich, x -> x.change(1, what, 0), BEYOND);
        }
    }

    @Says("SERVED (5) of a DISH becomes v: what it was. BEYOND.")
    static void promise07_aDishThatIsNotThereIsRefused() {
        for (int dish : new int[] {-1, 5, 8, LEAST, MOST}) {
            refused("change(" + dish + ", 1, 1)", Asking::rich, x -> x.change(dish, 1, 1), BEYOND);
        }
        refused("change(0, 1, 1) of none", Asking::bare, x -> x.change(0, 1, 1), BEYOND);
        refused("change(8, 1, 1) of eight", Asking::full, x -> x.change(8, 1, 1), BEYOND);
    }

    // ---- promise 8: serve

    @Says("what it gave. BEYOND.")
    static void promise08_aDishThatIsNotThereIsRefused() {
        for (int dish : new int[] {-1, 5, 8, LEAST, MOST}) {
            refused("serve(" + dish + ")", Asking::rich, x -> x.serve(dish), BEYOND);
        }
        refused("serve(0) of none", Asking::bare, x -> x.serve(0), BEYOND);
        refused("serve(8) of eight", Asking::full, x -> x.serve(8), BEYOND);
    }

    @Says("STATE: it is OFF.")
    static void promise08_aDishThatIsOffIsRefused() {
        refused("serve(2), off", Asking::rich, x -> x.serve(2), STATE);
        refused("serve(0), off and split", x -> told(x, "sauce thick 50 off split"), x -> x.serve(0), STATE);
    }

    @Says("STARS are what it GIVES more (99999 at most)")
    static void promise08_starsAre99999AtMost() {
        QuarrelSauce x = new QuarrelSauce();
        for (int d = 0; d < 8; d++) {
            x.dish(DARK, 10);
        }
        for (int k = 0; k < 200 && x.count(3) < 99000; k++) {
            x.service(20);
        }
        due("enough services for 99000 stars", x.count(3) >= 99000 ? 1 : 0, 1);
        for (int k = 0; k < 12; k++) {
            int had = x.count(3);
            x.change(0, 1, 99);
            x.change(0, 2, 30);
            x.change(0, 3, 0);
            due("serve(0)", x.serve(0), 138);
            due("stars", x.count(3), Math.min(99999, had + 138));
        }
        due("stars at most", x.now(2), 99999);
        due("a service's stars at most", x.service(20), 99999);
    }

    @Says("SERVED 1 more (9999 at most)")
    static void promise08_servedIs9999AtMost() {
        QuarrelSauce x = kitchen("sauce");
        x.change(0, 5, 9998);
        x.serve(0);
        due("behind 9998", x.of(0, 5), 9999);
        x.serve(0);
        due("behind 9999", x.of(0, 5), 9999);
    }

    @Says("THICK and SALT are 10, it isn't SPLIT any more: what it gave.")
    static void promise08_aSplitOneIsServedAndGives0() {
        QuarrelSauce x = kitchen("dark thick 99 salt 99 split;sauce thick 0 salt 0");
        due("serve(0)", x.serve(0), 0);
        due("stars", x.count(3), 0);
        int[] left = {DARK, 10, 10, 0, 0, 1};
        for (int what = 0; what < 6; what++) {
            due("of(0, " + what + ")", x.of(0, what), left[what]);
        }
        due("serve(1), the thinnest", x.serve(1), 0);
        due("of(1, 1)", x.of(1, 1), 10);
        due("of(1, 2)", x.of(1, 2), 10);
    }

    // ---- promise 9: act

    private static final int[] CHANGES = {0, 8, 5, 3, -20, 12, 15, -4, 2, -9, 6, 1};

    @Says("(held within 0 to 99)")
    static void promise09_noDeedLeadsAbove99() {
        for (int deed = 0; deed < 12; deed++) {
            for (int grudge = 84; grudge <= 99; grudge++) {
                QuarrelSauce x = kitchen("grudge " + grudge);
                due("act(" + deed + ") at " + grudge, x.act(deed), Math.min(99, grudge + CHANGES[deed]));
                due("count(2)", x.count(2), Math.min(99, grudge + CHANGES[deed]));
            }
        }
    }

    @Says("(held within 0 to 99)")
    static void promise09_noDeedLeadsBelow0() {
        for (int deed = 0; deed < 12; deed++) {
            for (int grudge = 0; grudge <= 21; grudge++) {
                QuarrelSauce x = kitchen("grudge " + grudge);
                due("act(" + deed + ") at " + grudge, x.act(deed), Math.max(0, grudge + CHANGES[deed]));
                due("count(2)", x.count(2), Math.max(0, grudge + CHANGES[deed]));
            }
        }
    }

    @Says("A DEED is done now, besides: GRUDGE then. BEYOND.")
    static void promise09_deedsTooSmallOrTooLargeAreRefused() {
        for (int deed : new int[] {-1, 12, LEAST, MOST}) {
            refused("act(" + deed + ")", Asking::rich, x -> x.act(deed), BEYOND);
        }
    }

    @Says("A DEED is done now, besides: GRUDGE then.")
    static void promise09_besidesNoStepGoesBy() {
        QuarrelSauce x = kitchen("custard;sauce;deed 0 1;grudge 20");
        due("act(4)", x.act(4), 0);
        due("step", x.count(0), 0);
        due("none is split, however low", x.now(3), 0);
        due("act(2)", x.act(2), 5);
        due("none is salted", x.of(1, 2), 10);
    }
}
