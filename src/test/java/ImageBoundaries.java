/** Boundaries of promises 37 to 41: images, counts, and what was found. */
final class ImageBoundaries extends Asking {
    private ImageBoundaries() {
    }

    /** Everything is changed that an image keeps. */
    private static void upset(QuarrelSauce x) {
        x.set(0, 33);
        x.set(1, 8);
        list(x, 6, 5, 9, 10, 11, 3);
        x.seed(-9);
        x.service(3);
        for (int d = 0; d < x.count(1); d++) {
            for (int what = 0; what <= 5; what++) {
                x.change(d, what, x.of(d, what) == 1 ? 0 : 1);
            }
        }
        x.dish(DARK, 98);
        for (int spot = 0; spot < 10; spot++) {
            x.hold(spot, spot % 2);
        }
    }

    // ---- promise 37: image

    @Says("All but THE TAPE and SHEETS is kept: 1.")
    static void promise37_anImageAnswers1AndChangesNothing() {
        QuarrelSauce x = begun(Asking::rich);
        QuarrelSauce y = begun(Asking::rich);
        due("image()", x.image(), 1);
        due("image() again", x.image(), 1);
        y.image();
        same("image()", x, y);
        due("image() of a new one", new QuarrelSauce().image(), 1);
    }

    @Says("All but THE TAPE and SHEETS is kept: 1.")
    static void promise37_allThatIsKeptComesBack() {
        QuarrelSauce x = begun(Asking::rich);
        QuarrelSauce y = begun(Asking::rich);
        x.image();
        y.image();
        upset(x);
        x.undo();
        same("image(), all else, undo()", x, y);
    }

    @Says("All but THE TAPE and SHEETS is kept: 1.")
    static void promise37_fullAndEmptyKitchensComeBack() {
        QuarrelSauce x = begun(Asking::bare);
        x.image();
        full(x);
        upset(x);
        due("undo()", x.undo(), 0);
        QuarrelSauce bare = begun(Asking::bare);
        bare.image();
        same("back to none", x, bare);

        QuarrelSauce y = begun(Asking::full);
        y.image();
        upset(y);
        due("undo()", y.undo(), 0);
        QuarrelSauce full = begun(Asking::full);
        full.image();
        same("back to eight", y, full);
    }

    @Says("All but THE TAPE and SHEETS is kept: 1.")
    static void promise37_theTapeAndSheetsStay() {
        QuarrelSauce x = kitchen("sauce thick 5");
        fed(x, "heat");
        sheetOf(x, 0, 8, 5);
        x.image();
        fed(x, " 7");
        sheetOf(x, 0, 8, 6);
        x.sheet(1, 16, 2);
        x.undo();
        due("tape", x.count(5), 6);
        due("sheet 0", x.judge(0), 1);
        due("sheet 1", x.write(1, 1, 0), 1);
        due("text()", x.text(), 1);
        due("heat", x.set(1, 0), 7);
    }

    // ---- promise 38: undo

    @Says("NONE: nothing is kept.")
    static void promise38_withoutAnImageItIsRefused() {
        refused("undo() of a new one", Asking::bare, QuarrelSauce::undo, NONE);
        refused("undo() behind tear()", x -> {
            rich(x);
            x.tear();
        }, QuarrelSauce::undo, NONE);
    }

    @Says("It becomes what was kept latest (which stays): STEP.")
    static void promise38_whatWasKeptStays() {
        QuarrelSauce x = kitchen("sauce");
        x.go(4);
        x.image();
        for (int k = 0; k < 3; k++) {
            x.go(5);
            x.change(0, 1, 1 + k);
            due("undo()", x.undo(), 4);
            due("thick", x.of(0, 1), 30);
        }
        due("tear()", x.tear(), 1);
    }

    @Says("It becomes what was kept latest (which stays): STEP.")
    static void promise38_theLatestOfSeveral() {
        QuarrelSauce x = new QuarrelSauce();
        x.image();
        x.go(1);
        x.image();
        x.go(1);
        x.image();
        x.go(1);
        due("undo()", x.undo(), 2);
        due("undo() again", x.undo(), 2);
        x.go(60);
        x.image();
        due("undo(), kept now", x.undo(), 62);
    }

    // ---- promise 39: tear

    @Says("Nothing is kept: 1 if something was, else 0.")
    static void promise39_withAndWithoutAnImage() {
        unchanged("tear() of a new one", Asking::bare, QuarrelSauce::tear, 0);
        QuarrelSauce x = begun(Asking::rich);
        due("tear()", x.tear(), 1);
        due("tear() again", x.tear(), 0);
        due("undo()", x.undo(), NONE);
        due("image()", x.image(), 1);
        due("tear() behind image()", x.tear(), 1);
    }

    @Says("Nothing is kept: 1 if something was, else 0.")
    static void promise39_severalImagesGoAtOnce() {
        QuarrelSauce x = new QuarrelSauce();
        x.image();
        x.go(1);
        x.image();
        due("tear()", x.tear(), 1);
        due("tear() again", x.tear(), 0);
        due("undo()", x.undo(), NONE);
        due("step", x.count(0), 1);
    }

    // ---- promise 40: count

    @Says("BEYOND: another what.")
    static void promise40_anotherWhatIsRefused() {
        for (int what : new int[] {-1, 8, LEAST, MOST}) {
            refused("count(" + what + ")", Asking::rich, x -> x.count(what), BEYOND);
        }
    }

    @Says("0 STEP, 1 DISHES, 2 GRUDGE, 3 STARS, 4 how many are SPLIT, 5 bytes of THE TAPE, 6 z, 7 SPOTS that hold something.")
    static void promise40_emptyAndFull() {
        int[] empty = {0, 0, 50, 0, 0, 0, 1, 0};
        for (int what = 0; what < 8; what++) {
            int w = what;
            unchanged("count(" + what + ") of a new one", Asking::bare, x -> x.count(w), empty[what]);
        }
        Begin all = x -> {
            for (int d = 0; d < 8; d++) {
                x.dish(SALAD, 10);
            }
            x.serve(0);
            x.go(60);
            for (int d = 0; d < 8; d++) {
                x.change(d, 3, 1);
            }
            for (int spot = 0; spot < 10; spot++) {
                x.hold(spot, 7);
            }
            x.set(0, 99);
            x.seed(LEAST);
            fed(x, " ".repeat(120));
        };
        int[] full = {60, 8, 99, 10, 8, 120, LEAST, 10};
        for (int what = 0; what < 8; what++) {
            int w = what;
            unchanged("count(" + what + "), full", all, x -> x.count(w), full[what]);
        }
    }

    // ---- promise 41: status

    @Says("LOW is -1000001; LOW BEYOND, LOW - 1 FULL, LOW - 2 KIND, LOW - 3 NONE, LOW - 4 STATE, LOW - 5 MISSING, "
        + "LOW - 6 SIZE (in longs, too).")
    static void promise41_eachFindingIsCountedInItsPlace() {
        refused("BEYOND", Asking::rich, x -> x.now(8), -1000001);
        refused("BEYOND, a long", Asking::rich, x -> x.odds(0, 18, 0), -1000001L);
        refused("FULL", Asking::full, x -> x.dish(0, 0), -1000002);
        refused("KIND", Asking::rich, x -> x.as(0, 3), -1000003);
        refused("NONE", Asking::bare, x -> x.peace(49), -1000004);
        refused("STATE", Asking::rich, x -> x.serve(2), -1000005);
        refused("MISSING", Asking::rich, x -> x.judge(3), -1000006);
        refused("SIZE", Asking::rich, x -> x.sheet(0, 0, -1), -1000007);
    }

    @Says("one that answers a finding changes nothing but status().")
    static void promise41_manyFindingsChangeNothingElse() {
        QuarrelSauce x = begun(Asking::rich);
        QuarrelSauce y = begun(Asking::rich);
        int before = x.status(-1);
        x.set(0, 100);
        x.dish(7, 0);
        x.change(0, 1, 100);
        x.serve(2);
        x.go(61);
        x.splits(2);
        x.ready(0, 999);
        x.service(21);
        x.feed(0, 5);
        x.hold(9, 8);
        x.as(0, 4);
        x.sheet(0, 0, -1);
        x.write(0, 3, 1);
        x.copy(0, 0, 2, 0, 1);
        x.load(3);
        due("status(-1)", x.status(-1), before + 15);
        same("fifteen refused calls", x, y);
    }

    @Says("which -1: all, 0 to 6: BEYOND to SIZE.")
    static void promise41_minus1TellsAllTogether() {
        QuarrelSauce x = begun(Asking::full);
        for (int k = 0; k < 3; k++) {
            x.count(8);
        }
        for (int k = 0; k < 5; k++) {
            x.dish(0, 0);
        }
        x.undo();
        int[] counts = {3, 5, 0, 1, 0, 0, 0};
        for (int which = 0; which <= 6; which++) {
            due("status(" + which + ")", x.status(which), counts[which]);
        }
        due("status(-1)", x.status(-1), 9);
    }

    @Says("BEYOND (counted from then on): another one.")
    static void promise41_anotherWhichIsRefusedAndCounted() {
        int k = 0;
        QuarrelSauce x = new QuarrelSauce();
        for (int which : new int[] {-2, 7, LEAST, MOST}) {
            refused("status(" + which + ")", Asking::rich, y -> y.status(which), BEYOND);
            k++;
            due("status(" + which + ")", x.status(which), BEYOND);
            due("status(0)", x.status(0), k);
            due("status(-1)", x.status(-1), k);
        }
    }

    @Says("How many acts answered a finding ever (undo() takes none back)")
    static void promise41_undoTakesNoneBack() {
        QuarrelSauce x = new QuarrelSauce();
        x.go(0);
        x.image();
        x.go(0);
        x.judge(0);
        x.undo();
        due("status(0)", x.status(0), 2);
        due("status(5)", x.status(5), 1);
        due("status(-1)", x.status(-1), 3);
    }

    @Says("How many acts answered a finding ever (undo() takes none back)")
    static void promise41_aFaultAndMinus1AreNoFindings() {
        QuarrelSauce x = new QuarrelSauce();
        due("text()", x.text(), -1);
        due("now(7)", x.now(7), -1);
        x.seed(-1000001);
        due("count(6)", x.count(6), -1000001);
        due("status(-1)", x.status(-1), 0);
    }
}
