/** Boundaries of promises 27 to 29: texts. */
final class TextBoundaries extends Asking {
    private TextBoundaries() {
    }

    private static final String BLANKS = " ".repeat(120);

    private static Begin tapeOf(int n) {
        return x -> fed(x, BLANKS.substring(0, n));
    }

    // ---- promise 27: feed

    @Says("THE TAPE gets the n lowest bytes of a number behind it, the highest of these first (n 1 to 4): how many it has.")
    static void promise27_1And4Bytes() {
        QuarrelSauce x = new QuarrelSauce();
        due("feed 'heat'", x.feed(0x68656174, 4), 4);
        due("feed ' '", x.feed(0x20, 1), 5);
        due("feed '7'", x.feed(0x37, 1), 6);
        due("text()", x.text(), 1);
        due("heat", x.set(1, 0), 7);
    }

    @Says("THE TAPE gets the n lowest bytes of a number behind it, the highest of these first (n 1 to 4): how many it has.")
    static void promise27_theHigherBytesAreLeft() {
        QuarrelSauce x = new QuarrelSauce();
        due("feed 'hea'", x.feed(0x21686561, 3), 3);
        due("feed 't '", x.feed(0xFFFF7420, 2), 5);
        due("feed '8'", x.feed(0x80000038, 1), 6);
        due("text()", x.text(), 1);
        due("heat", x.set(1, 0), 8);
    }

    @Says("BEYOND: n. FULL.")
    static void promise27_tooFewOrTooManyBytesAreRefused() {
        for (int n : new int[] {0, -1, 5, LEAST, MOST}) {
            refused("feed(0, " + n + ")", Asking::rich, x -> x.feed(0, n), BEYOND);
        }
    }

    @Says("THE TAPE (bytes, at most 120)")
    static void promise27_120BytesAreTaken() {
        for (int n = 1; n <= 4; n++) {
            QuarrelSauce x = begun(tapeOf(120 - n));
            due("feed(0, " + n + ")", x.feed(0, n), 120);
            due("count(5)", x.count(5), 120);
        }
    }

    @Says("BEYOND: n. FULL.")
    static void promise27_moreThan120BytesAreRefused() {
        for (int n = 1; n <= 4; n++) {
            int bytes = n;
            refused("feed(0, " + n + ") at 120", tapeOf(120), x -> x.feed(0, bytes), FULL);
            refused("feed(0, " + n + ") one too many", tapeOf(121 - n), x -> x.feed(0, bytes), FULL);
        }
    }

    @Says("Each act tells its findings in the order in which they are asked (that of its words)")
    static void promise27_beyondComesAheadOfFull() {
        refused("feed(0, 5) at 120", tapeOf(120), x -> x.feed(0, 5), BEYOND);
        refused("feed(0, 0) at 120", tapeOf(120), x -> x.feed(0, 0), BEYOND);
    }

    @Says("FULL.")
    static void promise27_aFullTapeTakesNoPart() {
        QuarrelSauce x = begun(tapeOf(113));
        fed(x, "heat");
        due("feed ' 5;x'", x.feed(0x20353B78, 4), FULL);
        due("feed ' 5'", x.feed(0x2035, 2), 119);
        due("text()", x.text(), 1);
        due("heat", x.set(1, 0), 5);
    }

    // ---- promise 28: wipe

    @Says("THE TAPE is empty: how many it had.")
    static void promise28_anEmptyAndAFullTape() {
        QuarrelSauce x = new QuarrelSauce();
        due("wipe() of none", x.wipe(), 0);
        fed(x, BLANKS);
        due("wipe() of all", x.wipe(), 120);
        due("count(5)", x.count(5), 0);
        due("wipe() again", x.wipe(), 0);
        fed(x, BLANKS);
        due("count(5), fed again", x.count(5), 120);
    }

    @Says("THE TAPE is empty: how many it had.")
    static void promise28_nothingIsLeftToRead() {
        QuarrelSauce x = new QuarrelSauce();
        fed(x, "grudge 12");
        x.wipe();
        due("text()", x.text(), -1);
        fed(x, "grudge 3456789");
        x.wipe();
        due("text(), shorter", told(x, "grudge 3"), 1);
        due("grudge", x.count(2), 3);
    }

    // ---- promise 29: text

    /** A text that has its fault there must change nothing but that the tape is empty. */
    private static void fault(String text, int place) {
        faultIn(Asking::bare, text, place);
        faultIn(x -> {
            rich(x);
            x.wipe();
        }, text, place);
    }

    private static void faultIn(Begin begin, String text, int place) {
        unchanged("'" + text + "'", begin, x -> told(x, text), -1 - place);
    }

    private static void taken(String text, int items) {
        QuarrelSauce x = new QuarrelSauce();
        due("'" + text + "'", told(x, text), items);
        due("tape behind '" + text + "'", x.count(5), 0);
        due("no finding behind '" + text + "'", x.status(-1), 0);
    }

    @Says("or how many bytes there are if it ends too early.")
    static void promise29_anEmptyTapeEndsTooEarly() {
        fault("", 0);
    }

    @Says("or how many bytes there are if it ends too early.")
    static void promise29_blanksAloneEndTooEarly() {
        fault(" ", 1);
        fault("   ", 3);
        fault(BLANKS, 120);
    }

    @Says("or how many bytes there are if it ends too early.")
    static void promise29_anItemThatEndsTooEarly() {
        fault("sauce thick", 11);
        fault("sauce thick  ", 13);
        fault("sauce salt", 10);
        fault("sauce thick 1 salt", 18);
        fault("deed", 4);
        fault("deed 0", 6);
        fault("deed 0 ", 7);
        fault("grudge", 6);
        fault("heat ", 5);
        fault("sauce;grudge", 12);
    }

    @Says("or how many bytes there are if it ends too early.")
    static void promise29_aSignWithoutAnItemBehindIt() {
        fault("sauce;", 6);
        fault("sauce; ", 7);
        fault("heat 1;heat 2;", 14);
        fault(BLANKS.substring(0, 114) + "sauce;", 120);
    }

    @Says("TEXT: ITEM { ; ITEM }.")
    static void promise29_aSignWithoutAnItemAhead() {
        fault(";", 0);
        fault(" ;sauce", 1);
        fault("sauce;;sauce", 6);
        fault("sauce; ;", 7);
    }

    @Says("TEXT: ITEM { ; ITEM }.")
    static void promise29_itemsWithoutASignBetween() {
        fault("sauce cream", 6);
        fault("grudge 5 heat 5", 9);
        fault("sauce thick 5 deed 0 0", 14);
        fault("sauce split grudge 3", 12);
    }

    @Says("TEXT: ITEM { ; ITEM }.")
    static void promise29_oneItemAndAsManyAs120BytesHold() {
        taken("salad", 1);
        taken("dark ; dark", 2);
        taken("heat 5" + ";heat 3".repeat(16) + "  ", 17);
        taken("heat5" + ";heat3".repeat(19), 20);
    }

    @Says("A TEXT is read from THE TAPE (bytes, at most 120).")
    static void promise29_theLastByteOf120Counts() {
        taken(BLANKS.substring(0, 115) + "salad", 1);
        taken(BLANKS.substring(0, 114) + "heat 9", 1);
        taken("salad" + BLANKS.substring(0, 115), 1);
        fault(BLANKS.substring(0, 114) + "heat x", 119);
        fault(BLANKS.substring(0, 116) + "sala", 116);
        fault(BLANKS.substring(0, 119) + "#", 119);
    }

    @Says("perhaps thick and a NUMBER (0 to 99)")
    static void promise29_thick0To99() {
        due("thick 0", kitchen("sauce thick 0").of(0, 1), 0);
        due("thick 99", kitchen("sauce thick 99").of(0, 1), 99);
        fault("sauce thick 100", 12);
        fault("sauce thick 999", 12);
        fault("sauce thick salt 5", 12);
        fault("sauce thick -1", 12);
    }

    @Says("perhaps salt and a NUMBER (0 to 99)")
    static void promise29_salt0To99() {
        due("salt 0", kitchen("sauce salt 0").of(0, 2), 0);
        due("salt 99", kitchen("sauce thick 5 salt 99").of(0, 2), 99);
        fault("sauce salt 100", 11);
        fault("sauce salt 999", 11);
        fault("sauce salt off", 11);
        fault("sauce thick 5 salt 100", 19);
    }

    @Says("deed, two NUMBERS (a place of THE LIST, 0 to 5, a DEED)")
    static void promise29_aPlaceOfTheList0To5() {
        due("deed 0 3", kitchen("deed 0 3").listed(0), 3);
        due("deed 5 3", kitchen("deed 5 3").listed(5), 3);
        fault("deed 6 3", 5);
        fault("deed 999 3", 5);
        fault("deed x 3", 5);
        fault("deed;", 4);
    }

    @Says("deed, two NUMBERS (a place of THE LIST, 0 to 5, a DEED)")
    static void promise29_aDeed0To11() {
        QuarrelSauce x = kitchen("deed 2 11");
        due("deed 2 11", x.listed(2), 11);
        due("deed 2 0", told(x, "deed 2 0"), 1);
        due("listed(2)", x.listed(2), 0);
        fault("deed 2 12", 7);
        fault("deed 2 999", 7);
        fault("deed 2 x", 7);
        fault("deed 2;3", 6);
        fault("deed 2 3 4", 9);
        // A word that is as long as can be: 23 is no place.
        fault("deed 23", 5);
    }

    @Says("grudge, a NUMBER (0 to 99)")
    static void promise29_grudge0To99() {
        due("grudge 0", kitchen("grudge 0").count(2), 0);
        due("grudge 99", kitchen("grudge 99").count(2), 99);
        fault("grudge 100", 7);
        fault("grudge 999", 7);
        fault("grudge heat", 7);
        fault("grudge 5 5", 9);
    }

    @Says("heat, a NUMBER (0 to 9).")
    static void promise29_heat0To9() {
        due("heat 0", kitchen("heat 0").set(1, 3), 0);
        due("heat 9", kitchen("heat 9").set(1, 3), 9);
        fault("heat 10", 5);
        fault("heat 999", 5);
        fault("heat ;", 5);
        fault("heat 5 5", 7);
    }

    @Says("NUMBERS (digits, 999 at most)")
    static void promise29_numbersAbove999() {
        String[] numbers = {"1000", "65536", "4294967296", "4294967301", "2147483648", "18446744073709551616",
            "10000000000000000000000000000000000000000"};
        for (String number : numbers) {
            fault("grudge " + number, 7);
            fault("heat 5;heat " + number, 12);
            fault("deed 1 " + number, 7);
            fault("sauce thick " + number, 12);
        }
    }

    @Says("NUMBERS (digits, 999 at most)")
    static void promise29_noughtsAheadOfANumber() {
        due("grudge 012", kitchen("grudge 012").count(2), 12);
        due("heat 009", kitchen("heat 009").set(1, 3), 9);
        due("deed 05 011", kitchen("deed 05 011").listed(5), 11);
        fault("grudge 0100", 7);
    }

    @Says("TOKENS, each as long as can be: WORDS (letters a to z), NUMBERS (digits, 999 at most), SIGN ;")
    static void promise29_tokensAreAsLongAsCanBe() {
        fault("sauces", 0);
        fault("saucethick 5", 0);
        fault("sauce thickx 5", 6);
        fault("sauce offsplit", 6);
        fault("heats 5", 0);
        fault("heat 55", 5);
        fault("sauce thick 5x", 13);
        fault("sauc", 0);
        fault("custar", 0);
    }

    @Says("blanks may stand between.")
    static void promise29_blanksOrNone() {
        taken("sauce thick5salt6off split", 1);
        taken("  sauce   thick   5   salt   6   off   split   ;  heat   5  ", 2);
        taken("grudge5;heat5;deed5 5;dark", 4);
        fault("sau ce", 0);
        fault("grudge 1 2", 9);
    }

    @Says("a byte that begins no TOKEN")
    static void promise29_bytesThatBeginNoToken() {
        int[] others = {0, 1, 9, 10, 13, 31, 33, '/', ':', '<', '@', 'A', 'S', 'Z', '[', '_', '`', '{', 127, 128, 160, 223, 255};
        for (int b : others) {
            char c = (char) b;
            fault(c + "sauce", 0);
            fault("sauce" + c, 5);
            fault("sauce " + c, 6);
            fault("sauce thick " + c, 12);
            fault("grudge 1" + c, 8);
            fault("heat 1;" + c + "heat 1", 7);
        }
    }

    @Says("letters a to z")
    static void promise29_wordsAtTheEndsOfTheLetters() {
        fault("a", 0);
        fault("z", 0);
        fault("azaz 5", 0);
        fault("sauce az", 6);
        fault("sauce thick za", 12);
        fault("glazez", 0);
        fault("asalad", 0);
    }

    @Says("another WORD")
    static void promise29_anotherWord() {
        fault("soup", 0);
        fault("xauce", 0);
        fault("saucx", 0);
        fault("thick 5", 0);
        fault("off", 0);
        fault("split", 0);
        fault("7", 0);
        fault("sauce 7", 6);
        fault("sauce heat", 6);
        fault("heat 1;salt 3", 7);
    }

    @Says("perhaps thick and a NUMBER (0 to 99), perhaps salt and a NUMBER (0 to 99), perhaps off, perhaps split: a new one")
    static void promise29_partsInAnotherOrderOrTwice() {
        fault("sauce salt 1 thick 2", 13);
        fault("sauce off thick 1", 10);
        fault("sauce off salt 1", 10);
        fault("sauce split off", 12);
        fault("sauce thick 1 thick 2", 14);
        fault("sauce salt 1 salt 2", 13);
        fault("sauce off off", 10);
        fault("sauce split split", 12);
    }

    @Says("perhaps thick and a NUMBER (0 to 99), perhaps salt and a NUMBER (0 to 99), perhaps off, perhaps split: a new one")
    static void promise29_everyPartMayBeLeftOut() {
        String[] names = {"sauce", "cream", "stock", "glaze", "dark", "salad", "custard"};
        for (int kind = 0; kind < 7; kind++) {
            for (int parts = 0; parts < 16; parts++) {
                String text = names[kind] + ((parts & 1) != 0 ? " thick 33" : "") + ((parts & 2) != 0 ? " salt 44" : "")
                    + ((parts & 4) != 0 ? " off" : "") + ((parts & 8) != 0 ? " split" : "");
                QuarrelSauce x = kitchen(text);
                due("kind of " + text, x.of(0, 0), kind);
                due("thick of " + text, x.of(0, 1), (parts & 1) != 0 ? 33 : 10);
                due("salt of " + text, x.of(0, 2), (parts & 2) != 0 ? 44 : 10);
                due("off of " + text, x.of(0, 4), (parts & 4) != 0 ? 1 : 0);
                due("split of " + text, x.of(0, 3), (parts & 8) != 0 ? 1 : 0);
                due("served of " + text, x.of(0, 5), 0);
            }
        }
    }

    @Says("the WORD of a 9th DISH: its own")
    static void promise29_theEighthDishIsTaken() {
        taken("dark;dark;dark;dark;dark;dark;dark;dark", 8);
        QuarrelSauce x = begun(Asking::rich);
        x.wipe();
        due("three more", told(x, "dark;dark;salad thick 8"), 3);
        due("of(7, 1)", x.of(7, 1), 8);
    }

    @Says("the WORD of a 9th DISH: its own")
    static void promise29_theNinthDishIsAFault() {
        faultIn(Asking::bare, "dark;dark;dark;dark;dark;dark;dark;dark;dark", 40);
        faultIn(Asking::full, " sauce", 1);
        faultIn(Asking::full, "grudge 1;heat 2;salad", 16);
        faultIn(Asking::full, "custard thick 100", 0);
        Begin five = x -> {
            rich(x);
            x.wipe();
        };
        faultIn(five, "heat 1;dark;dark;dark;cream;x", 22);
    }

    @Says("the WORD of a 9th DISH: its own")
    static void promise29_aFullKitchenTakesOtherItems() {
        QuarrelSauce x = begun(Asking::full);
        due("text()", told(x, "grudge 1;heat 2;deed 3 4"), 3);
        due("grudge", x.count(2), 1);
        due("listed(3)", x.listed(3), 4);
    }

    @Says("FAULT: the place (from 0) of the first byte of the first TOKEN that can't stand there")
    static void promise29_theFirstOfSeveralFaults() {
        fault("sauce thick 100 thick #", 12);
        fault("heat 10;grudge 100;soup", 5);
        fault("deed 6 12", 5);
        fault("   soup #", 3);
    }

    @Says("With a FAULT: -1 less the FAULT (nothing changes but that THE TAPE is empty; no finding).")
    static void promise29_withAFaultNothingOfTheTextIsSo() {
        fault("sauce;cream thick 5;grudge 1;heat 1;deed 0 5;deed 5 5;soup", 54);
        QuarrelSauce x = new QuarrelSauce();
        told(x, "sauce;grudge 1;heat 1;deed 0 5;");
        due("tape", x.count(5), 0);
        due("status(-1)", x.status(-1), 0);
        due("dishes", x.count(1), 0);
        due("grudge", x.count(2), 50);
        due("listed(0)", x.listed(0), 0);
        due("heat", x.set(1, 0), 3);
    }

    @Says("all that it tells is so, item by item: how many ITEMS.")
    static void promise29_whatATextDoesNotTellStays() {
        QuarrelSauce x = begun(Asking::rich);
        QuarrelSauce y = begun(Asking::rich);
        x.wipe();
        y.wipe();
        due("text()", told(x, "heat 1"), 1);
        y.set(1, 1);
        same("a text of one item", x, y);
    }

    @Says("all that it tells is so, item by item: how many ITEMS.")
    static void promise29_ofSeveralItemsTheLastCounts() {
        QuarrelSauce x = kitchen("grudge 1;deed 2 3;heat 4;grudge 99;heat 0;deed 2 11;grudge 5");
        due("grudge", x.count(2), 5);
        due("heat", x.set(1, 3), 0);
        due("listed(2)", x.listed(2), 11);
    }
}
