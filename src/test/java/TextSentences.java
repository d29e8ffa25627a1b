import java.util.function.Consumer;
import java.util.function.Supplier;
import java.util.function.ToIntFunction;

/** The sentences of "Texts", and of "Changes and errors". */
abstract class TextSentences extends Sentences {
    static void tell() {
        orders();
        numbers();
        faults();
        changes();
        history();
        orderOfErrors();
        errors();
        constants();
    }

    private static void orders() {
        in("Texts");
        says("There is a text of at most 60 characters, initially empty:", () -> {
            FavourRings bank = new FavourRings();
            due("at first", bank.count(13), 0);
            due("nothing to empty", bank.clearText(), 0);
            for (int i = 1; i <= 60; i++) {
                due("type", bank.type('w'), i);
            }
            due("one more", bank.type('w'), LIMIT);
            due("the length", bank.count(13), 60);
        });
        says("orders, each followed by \";\":", () -> {
            FavourRings bank = bankOf(1);
            faultDue(bank, "h", 0, 1, 1);
            faultDue(bank, "h,", 0, 1, 1);
            faultDue(bank, "hh;", 0, 1, 1);
            faultDue(bank, "h;h", 2, 1, 1);
            faultDue(bank, "h;;", 2, 1, 0);
            faultDue(bank, ";h;", 0, 1, 0);
            faultDue(bank, "h; h;", 2, 1, 0);
            noFaultDue(bank, "h;");
            noFaultDue(bank, "h;h;");
        });
        says("\"o\" a debtor, \",\", a creditor, \",\", a kind, \",\", how many (lent),", () -> {
            FavourRings bank = bankOf(8);
            due("the greatest numbers", play(bank, "o7,6,3,9;"), 1);
            due("owed", bank.owes(7, 6, 3), 9);
            due("the least numbers", play(bank, "o0,1,0,1;"), 1);
            due("owed", bank.owes(0, 1, 0), 1);
            for (String wrong : "o8,1,0,1; o0,8,0,1; o0,1,4,1; o0,1,0,10; o0,1,0,0; o0,0,0,1;".split(" ")) {
                faultDue(bank, wrong, 0, 2, INVALID);
            }
            due("lent so far", bank.count(4), 10);
        });
        says("\"d\" a debtor, \",\", a creditor, \",\", a kind, \",\", how many (done),", () -> {
            FavourRings bank = bankOf(8);
            bank.lend(7, 6, 3, 9);
            bank.lend(0, 1, 0, 2);
            due("the greatest numbers", play(bank, "d7,6,3,9;"), 1);
            due("owed", bank.owes(7, 6, 3), 0);
            due("the least numbers", play(bank, "d0,1,0,1;"), 1);
            due("owed", bank.owes(0, 1, 0), 1);
            for (String wrong : "d8,1,0,1; d0,8,0,1; d0,1,4,1; d0,1,0,10; d0,1,0,0; d0,0,0,1;".split(" ")) {
                faultDue(bank, wrong, 0, 2, INVALID);
            }
            faultDue(bank, "d0,1,0,2;", 0, 2, NOT_POSSIBLE);
            due("done so far", bank.count(5), 10);
        });
        says("\"g\" a pupil, \",\", another one (who is the guarantor of the first one),", () -> {
            FavourRings bank = bankOf(8);
            due("two", play(bank, "g7,0;g0,6;"), 2);
            due("of 7", bank.pupilOf(7, 6), 0);
            due("of 0", bank.pupilOf(0, 6), 6);
            due("not the other way round", bank.pupilOf(6, 6), NOT_FOUND);
            for (String wrong : "g8,0; g0,8; g7,7; g0,99;".split(" ")) {
                faultDue(bank, wrong, 0, 2, INVALID);
            }
            faultDue(bank, "g0,-1;", 0, 1, 3);
            faultDue(bank, "g0;", 0, 1, 2);
        });
        says("\"c\" a kind (cleared),", () -> {
            FavourRings bank = bankOf(2);
            circle(bank, 3, 2, 0, 1);
            circle(bank, 0, 1, 0, 1);
            due("kind 3", play(bank, "c3;"), 1);
            due("cleared", bank.count(7), 4);
            due("kind 0", play(bank, "c0;"), 1);
            due("cleared", bank.count(7), 6);
            faultDue(bank, "c4;", 0, 2, INVALID);
        });
        says("\"w\" weeks (that end)", () -> {
            FavourRings bank = bankOf(2);
            due("one", play(bank, "w1;"), 1);
            due("twenty", play(bank, "w20;"), 1);
            due("that ended", bank.count(0), 21);
            faultDue(bank, "w0;", 0, 2, INVALID);
            faultDue(bank, "w21;", 0, 2, INVALID);
            faultDue(bank, "w99;", 0, 2, INVALID);
        });
        says("or \"h\" (holidays begin, or end);", () -> {
            FavourRings bank = bankOf(2);
            due("begin", play(bank, "h;"), 1);
            due("there are", bank.count(10), 1);
            due("end", play(bank, "h;"), 1);
            due("there are none", bank.count(10), 0);
            due("begin, end and begin", play(bank, "h;h;h;"), 3);
            due("there are again", bank.count(10), 1);
        });
    }

    private static void numbers() {
        in("Texts");
        says("numbers of 1 or 2 digits, 0 ahead allowed.", () -> {
            FavourRings bank = bankOf(2);
            faultDue(bank, "w;", 0, 1, 1);
            faultDue(bank, "w001;", 0, 1, 3);
            faultDue(bank, "w100;", 0, 1, 3);
            faultDue(bank, "w00;", 0, 2, INVALID);
            faultDue(bank, "o,1,0,1;", 0, 1, 1);
            faultDue(bank, "o0,1,0,;", 0, 1, 7);
            faultDue(bank, "o000,1,0,1;", 0, 1, 3);
            due("2 digits", play(bank, "w07;w10;o00,01,03,09;c00;g00,01;"), 5);
            due("weeks", bank.count(0), 17);
            due("owed", bank.owes(0, 1, 3), 9);
            due("the guarantor", bank.pupilOf(0, 6), 1);
            due("both lengths", play(bank, "d0,01,3,02;"), 1);
            due("owed then", bank.owes(0, 1, 3), 7);
        });
    }

    private static void faults() {
        in("Texts");
        says("The fault of the text is the position, from 0, of the first character of the first order that is not"
            + " possible;", () -> {
            FavourRings bank = bankOf(2);
            faultDue(bank, "x", 0, 1, 0);
            faultDue(bank, "h;x", 2, 1, 0);
            faultDue(bank, "h;w1;o0,1,0,1;w;", 14, 1, 1);
            faultDue(bank, "c4;x", 0, 2, INVALID);
            faultDue(bank, "x;c4;", 0, 1, 0);
            faultDue(bank, "h;c4;c5;", 2, 2, INVALID);
            faultDue(bank, "h;".repeat(29) + "x", 58, 1, 0);
            faultDue(bank, "h;".repeat(29) + "hx", 58, 1, 1);
            faultDue(bank, "h;h".repeat(20), 2, 1, 1);
        });
        says("its reason is 1 if it is not of this form, its \";\" included,", () -> {
            FavourRings bank = bankOf(2);
            faultDue(bank, "c9", 0, 1, 2);
            faultDue(bank, "c9,", 0, 1, 2);
            faultDue(bank, "o9,9,9,99", 0, 1, 9);
            faultDue(bank, "w00", 0, 1, 3);
            faultDue(bank, "d0,1,0,9", 0, 1, 8);
            faultDue(bank, "c9;", 0, 2, INVALID);
            for (String wrong : "O0,1,0,1; H; W1; a; 0; ,; : <".split(" ")) {
                faultDue(bank, wrong, 0, 1, 0);
            }
        });
        says("and otherwise 2, when those ahead of it are done;", () -> {
            FavourRings bank = bankOf(2);
            faultDue(bank, "d0,1,0,1;", 0, 2, NOT_POSSIBLE);
            noFaultDue(bank, "o0,1,0,1;d0,1,0,1;");
            faultDue(bank, "o0,1,0,1;d0,1,0,1;d0,1,0,1;", 18, 2, NOT_POSSIBLE);
            faultDue(bank, "o0,1,0,9;o0,1,0,9;o0,1,0,3;", 18, 2, NOT_POSSIBLE);
            noFaultDue(bank, "o0,1,0,9;o0,1,0,9;o0,1,0,2;");
            faultDue(bank, "o0,1,0,3;w4;o0,1,0,1;", 12, 2, NOT_POSSIBLE);
            noFaultDue(bank, "o0,1,0,3;h;w4;o0,1,0,1;");
            faultDue(bank, "o0,1,0,2;o1,0,0,2;c0;d0,1,0,1;", 21, 2, NOT_POSSIBLE);
            due("asking does nothing", bank.count(4) + bank.count(0) + bank.count(7) + bank.count(10), 0);
            bank.lend(0, 1, 0, 1);
            noFaultDue(bank, "d0,1,0,1;");
        });
        says("its cause is with the reason 1 at which character of the order, from 0, it breaks off", () -> {
            for (String order : "o0,1,0,1; d0,1,0,1; o00,01,00,01; g0,1; g00,01; c0; c00; w1; w01; h;".split(" ")) {
                for (int place = 0; place < order.length(); place++) {
                    FavourRings bank = bankOf(2);
                    breaksOff(bank, order, place, "x");
                    breaksOff(bank, order, place, ":");
                    breaksOff(bank, order, place, "/");
                }
            }
            FavourRings bank = bankOf(2);
            faultDue(bank, "w123;", 0, 1, 3);
            faultDue(bank, "h;w123;", 2, 1, 3);
            faultDue(bank, "g0,1,1;", 0, 1, 4);
            faultDue(bank, "o0,1,0,1,1;", 0, 1, 8);
        });
        says("(of one that the text ends too early it is its length),", () -> {
            for (String order : "o0,1,0,1; d00,01,00,01; g0,1; c0; w1; w01; h;".split(" ")) {
                FavourRings bank = bankOf(2);
                for (int length = 1; length < order.length(); length++) {
                    faultDue(bank, order.substring(0, length), 0, 1, length);
                    faultDue(bank, "h;h;" + order.substring(0, length), 4, 1, length);
                }
            }
            faultDue(bankOf(2), "h;".repeat(29) + "w1", 58, 1, 2);
            faultDue(bankOf(2), "h;".repeat(24) + "o00,01,00,01", 48, 1, 12);
        });
        says("and with the reason 2 the error code that the call returns for it.", () -> {
            faultDue(bankOf(2), "o0,2,0,1;", 0, 2, INVALID);
            faultDue(bankOf(2), "d0,1,0,1;", 0, 2, NOT_POSSIBLE);
            faultDue(bankOfLots(39), "o2,0,0,1;o2,0,0,1;", 9, 2, LIMIT);
            faultDue(letWeeksEnd(bankOf(1), 980), "w19;w1;", 4, 2, LIMIT);
            faultDue(bankOfLots(40), "o1,0,0,1;", 0, 2, NOT_POSSIBLE);
            faultDue(bankOfLots(40), "o1,1,0,1;", 0, 2, INVALID);
        });
        says("The text stays, whether it has a fault or not.", () -> {
            FavourRings bank = bankOf(2);
            faultDue(bank, "h;x;", 2, 1, 0);
            due("not possible", bank.play(), NOT_POSSIBLE);
            due("the length with a fault", bank.count(13), 4);
            due("the fault is the same", bank.fault(0), 2);
            due("without a fault", play(bank, "o0,1,0,3;w1;"), 2);
            due("no fault", bank.fault(0), NOT_FOUND);
            due("its length", bank.count(13), 12);
            due("the same once more", bank.play(), 2);
            due("lent twice", bank.owes(0, 1, 0), 6);
            due("it goes on behind it", bank.type('x'), 13);
            due("a fault there", bank.fault(0), 12);
        });
    }

    private static void breaksOff(FavourRings bank, String order, int place, String sign) {
        boolean isSecondDigit = place > 0 && Character.isDigit(order.charAt(place))
            && Character.isDigit(order.charAt(place - 1));
        String broken = order.substring(0, place) + sign + order.substring(isSecondDigit ? place + 1 : place);
        faultDue(bank, broken, 0, 1, place);
    }

    private static void changes() {
        in("Changes and errors");
        says("The changes are the calls of pupil, lend, fulfil, guarantee, weeks, holiday, clear, set and play that"
            + " return no error.", () -> {
            changeDue("pupil", 1, FavourRings::pupil);
            changeDue("lend", 1, bank -> bank.lend(0, 1, 0, 1));
            changeDue("fulfil", 1, bank -> bank.fulfil(1, 0, 0, 1));
            changeDue("guarantee", 1, bank -> bank.guarantee(0, 1));
            changeDue("guarantee that is so already", 1, bank -> bank.guarantee(0, -1));
            changeDue("weeks", 1, bank -> bank.weeks(1));
            changeDue("holiday", 1, bank -> bank.holiday(true));
            changeDue("holiday that is so already", 1, bank -> bank.holiday(false));
            changeDue("clear", 1, bank -> bank.clear(1));
            changeDue("clear without a ring", 1, bank -> bank.clear(0));
            changeDue("set", 1, bank -> bank.set(0, 5));
            changeDue("set that is so already", 1, bank -> bank.set(0, 4));
            changeDue("play of nothing", 1, FavourRings::play);
            changeDue("play of two orders", 1, bank -> play(bank, "h;w1;"));
        });
        says("The changes are the calls of pupil, lend, fulfil, guarantee, weeks, holiday, clear, set and play",
            TextSentences::noOtherChanges);
        says("that return no error.", () -> {
            changeDue("lend", 0, bank -> bank.lend(0, 0, 0, 1));
            changeDue("lend beyond the bound", 0, bank -> bank.lend(1, 0, 1, 9));
            changeDue("fulfil", 0, bank -> bank.fulfil(0, 1, 3, 1));
            changeDue("guarantee", 0, bank -> bank.guarantee(0, 0));
            changeDue("weeks", 0, bank -> bank.weeks(0));
            changeDue("clear", 0, bank -> bank.clear(4));
            changeDue("set", 0, bank -> bank.set(6, 1));
            changeDue("play", 0, bank -> play(bank, "h;x"));
            FavourRings eight = bankOf(8);
            due("pupil", eight.pupil(), LIMIT);
            due("undo of the eighth", eight.undo(), 3);
            due("seven pupils", eight.count(1), 7);
            FavourRings lots = bankOfLots(40);
            due("lend without a place", lots.lend(2, 1, 0, 1), LIMIT);
            due("undo of the fortieth", lots.undo(), 3);
            due("39 lots", lots.count(2), 39);
            FavourRings late = letWeeksEnd(bankOf(1), 999);
            due("weeks beyond 999", late.weeks(1), LIMIT);
            due("undo of the last ones", late.undo(), 3);
            due("980 weeks", late.count(0), 980);
        });
    }

    private static void noOtherChanges() {
        changeDue("pupilOf", 0, bank -> bank.pupilOf(1, 0));
        changeDue("owes", 0, bank -> bank.owes(1, 0, 0));
        changeDue("lot", 0, bank -> bank.lot(0, 0));
        changeDue("why", 0, bank -> bank.why(0, 1));
        changeDue("ring", 0, bank -> bank.ring(1, 0));
        changeDue("amount", 0, bank -> bank.amount(1));
        changeDue("ifCleared", 0, bank -> bank.ifCleared(1, 0));
        changeDue("chain", 0, bank -> bank.chain(1, 0, 0));
        changeDue("deepest", 0, bank -> bank.deepest(0));
        changeDue("spoilsIn", 0, bank -> bank.spoilsIn(1));
        changeDue("richest", 0, bank -> bank.richest(0));
        changeDue("mean", 0, FavourRings::mean);
        changeDue("count", 0, bank -> bank.count(0));
        changeDue("type", 0, bank -> bank.type('h'));
        changeDue("clearText", 0, FavourRings::clearText);
        changeDue("fault", 0, bank -> bank.fault(0));
    }

    /** A bank with a lot to do, a ring of kind 1, and an empty history. */
    private static FavourRings quietBank() {
        FavourRings bank = bankOf(3);
        bank.lend(1, 0, 0, 2);
        circle(bank, 1, 3, 0, 1);
        bank.set(4, 9);
        for (int i = 0; i < 4; i++) {
            bank.pupil();
        }
        for (int i = 0; i < 4; i++) {
            bank.undo();
        }
        return bank;
    }

    private static void changeDue(String what, int states, Consumer<FavourRings> call) {
        FavourRings bank = quietBank();
        due("states before " + what, bank.count(12), 0);
        int[] before = recorded(bank);
        call.accept(bank);
        due("states after " + what, bank.count(12), states);
        if (states == 0) {
            sameDue(what + " changes nothing", before, recorded(bank));
        }
    }

    private static void history() {
        in("Changes and errors");
        says("A history of at most 4 states is kept:", () -> {
            FavourRings bank = new FavourRings();
            due("none at first", bank.count(12), 0);
            due("nothing to restore", bank.undo(), NOT_POSSIBLE);
            for (int changes = 1; changes <= 6; changes++) {
                bank.set(0, changes);
                due("states after " + changes, bank.count(12), Math.min(changes, 4));
            }
            for (int left = 3; left >= 0; left--) {
                due("undo()", bank.undo(), left);
            }
            due("no fifth one", bank.undo(), NOT_POSSIBLE);
        });
        says("each change records everything before it but the text,", () -> {
            recordDue("pupil", FavourRings::pupil);
            recordDue("lend", bank -> bank.lend(0, 1, 0, 1));
            recordDue("fulfil", bank -> bank.fulfil(1, 0, 0, 1));
            recordDue("guarantee", bank -> bank.guarantee(1, -1));
            recordDue("another guarantee", bank -> bank.guarantee(0, 2));
            recordDue("weeks", bank -> bank.weeks(20));
            recordDue("weeks and taking over", bank -> bank.weeks(4));
            recordDue("holiday", bank -> bank.holiday(true));
            recordDue("clear", bank -> bank.clear(1));
            for (int what = 0; what < 6; what++) {
                int setting = what;
                recordDue("set", bank -> bank.set(setting, 11));
            }
            recordDue("play", bank -> play(bank, "o0,1,0,1;d0,1,0,1;c1;g1,0;w6;h;"));
        });
        says("and if there are 5 states then, the oldest one is dropped.", () -> {
            FavourRings bank = new FavourRings();
            for (int changes = 1; changes <= 5; changes++) {
                bank.set(0, changes);
            }
            for (int value = 4; value >= 1; value--) {
                bank.undo();
                due("restored", bank.count(20), value);
            }
            due("the first one is gone", bank.undo(), NOT_POSSIBLE);
            due("nothing is restored", bank.count(20), 1);
            bank.set(0, 9);
            due("a state again", bank.count(12), 1);
            due("undo()", bank.undo(), 0);
            due("restored again", bank.count(20), 1);
        });
    }

    private static void recordDue(String what, Consumer<FavourRings> call) {
        FavourRings bank = quietBank();
        bank.lend(1, 2, 0, 2);
        bank.guarantee(1, 0);
        bank.weeks(2);
        write(bank, "h;");
        int[] before = recorded(bank);
        int states = bank.count(12);
        call.accept(bank);
        int length = bank.count(13);
        due("undo of " + what, bank.undo(), states);
        sameDue("undone " + what, before, recorded(bank));
        due("the text stays after " + what, bank.count(13), length);
    }

    private static void orderOfErrors() {
        in("Changes and errors");
        says("If several errors apply to a call, INVALID_ARGUMENT is returned rather than NOT_POSSIBLE,", () -> {
            FavourRings bank = bankOf(3);
            bank.set(4, 1);
            bank.lend(0, 1, 0, 1);
            due("lend", bank.lend(0, 1, 0, 1), NOT_POSSIBLE);
            due("lend to oneself", bank.lend(0, 0, 0, 1), INVALID);
            due("lend of a pupil who is not", bank.lend(0, 3, 0, 1), INVALID);
            due("lend of a kind", bank.lend(0, 1, 4, 1), INVALID);
            due("lend of too many", bank.lend(0, 1, 0, 10), INVALID);
            due("lend of none", bank.lend(0, 1, 0, 0), INVALID);
            due("fulfil", bank.fulfil(1, 0, 0, 1), NOT_POSSIBLE);
            due("fulfil for oneself", bank.fulfil(1, 1, 0, 1), INVALID);
            due("fulfil of a kind", bank.fulfil(1, 0, 4, 1), INVALID);
            due("fulfil of too many", bank.fulfil(1, 0, 0, 10), INVALID);
            due("fulfil for a pupil who is not", bank.fulfil(1, 3, 0, 1), INVALID);
        });
        says("NOT_POSSIBLE rather than LIMIT_REACHED,", () -> {
            FavourRings bank = bankOfLots(40);
            due("both", bank.lend(0, 1, 0, 1), NOT_POSSIBLE);
            due("no place alone", bank.lend(2, 1, 0, 1), LIMIT);
            due("with an argument", bank.lend(2, 1, 4, 1), INVALID);
            FavourRings spoiled = bankOf(4);
            spoiled.lend(3, 0, 0, 3);
            spoiled.weeks(4);
            for (int i = 0; i < 40; i++) {
                spoiled.lend(i / 20, 2, 0, 1);
            }
            due("the reason 2 and no place", spoiled.lend(3, 0, 0, 1), NOT_POSSIBLE);
            due("no place", spoiled.lend(2, 0, 0, 1), LIMIT);
        });
        says("and LIMIT_REACHED rather than NOT_FOUND.", () -> {
            due("no such value", bankOf(1).pupilOf(0, 6), NOT_FOUND);
            due("no such argument and no value", bankOf(1).pupilOf(1, 6), INVALID);
            due("lot", new FavourRings().lot(0, 6), INVALID);
            due("lot", new FavourRings().lot(-1, 0), INVALID);
            due("ring", bankOf(2).ring(4, 0), INVALID);
            due("ring", bankOf(2).ring(0, -1), INVALID);
            due("amount", bankOf(2).amount(4), INVALID);
            due("chain", bankOf(2).chain(1, 1, 0), INVALID);
            due("deepest", bankOf(2).deepest(4), INVALID);
            due("spoilsIn", bankOf(2).spoilsIn(2), INVALID);
            due("richest", bankOf(2).richest(-1), INVALID);
            due("fault", bankOf(2).fault(3), INVALID);
            FavourRings late = letWeeksEnd(bankOf(1), 999);
            due("weeks", late.weeks(1), LIMIT);
            due("weeks that are none", late.weeks(0), INVALID);
            due("weeks that are too many", late.weeks(21), INVALID);
            FavourRings full = new FavourRings();
            write(full, "h;".repeat(30));
            due("type", full.type('h'), LIMIT);
            due("type of no character", full.type(127), INVALID);
        });
    }

    private static void errors() {
        in("Changes and errors");
        says("A call that returns an error changes nothing.", () -> {
            unchangedDue("pupil", LIMIT, () -> bankOf(8), FavourRings::pupil);
            unchangedDue("lend", INVALID, TextSentences::quietBank, bank -> bank.lend(0, 1, 0, 10));
            unchangedDue("lend", NOT_POSSIBLE, TextSentences::quietBank, bank -> bank.lend(1, 2, 0, 5));
            unchangedDue("lend", LIMIT, () -> bankOfLots(40), bank -> bank.lend(2, 1, 0, 1));
            unchangedDue("fulfil", INVALID, TextSentences::quietBank, bank -> bank.fulfil(1, 0, 0, 0));
            unchangedDue("fulfil", NOT_POSSIBLE, TextSentences::quietBank, bank -> bank.fulfil(1, 0, 0, 3));
            unchangedDue("guarantee", INVALID, TextSentences::quietBank, bank -> bank.guarantee(0, 3));
            unchangedDue("weeks", INVALID, TextSentences::quietBank, bank -> bank.weeks(21));
            unchangedDue("weeks", LIMIT, () -> letWeeksEnd(bankOfLots(2), 998), bank -> bank.weeks(2));
            unchangedDue("weeks that would spoil", LIMIT, TextSentences::lateBank, bank -> bank.weeks(2));
            unchangedDue("clear", INVALID, TextSentences::quietBank, bank -> bank.clear(4));
            unchangedDue("set", INVALID, TextSentences::quietBank, bank -> bank.set(0, 21));
            unchangedDue("undo", NOT_POSSIBLE, TextSentences::quietBank, FavourRings::undo);
            unchangedDue("type", INVALID, TextSentences::quietBank, bank -> bank.type(31));
            unchangedDue("type", LIMIT, () -> bankWith("h".repeat(60)), bank -> bank.type(';'));
            unchangedDue("play that breaks at its end", NOT_POSSIBLE, () -> bankWith("g0,1;w4;h;c1;d1,0,0,2;"),
                FavourRings::play);
        });
        says("If there is no pupil with a certain number, this is INVALID_ARGUMENT.", () -> {
            for (int pupils = 0; pupils <= 8; pupils++) {
                noPupilDue(bankOf(pupils), pupils);
                noPupilDue(bankOf(pupils), -1);
            }
            FavourRings bank = bankOf(3);
            bank.undo();
            noPupilDue(bank, 2);
        });
    }

    /** 998 weeks ended, and a lot would spoil with the next one. */
    private static FavourRings lateBank() {
        FavourRings bank = letWeeksEnd(bankOf(2), 998);
        bank.lend(0, 1, 0, 3);
        bank.set(0, 1);
        return bank;
    }

    private static FavourRings bankWith(String text) {
        FavourRings bank = quietBank();
        write(bank, text);
        return bank;
    }

    /** A bank with the call is as another one without it. */
    private static void unchangedDue(String what, int want, Supplier<FavourRings> banks,
        ToIntFunction<FavourRings> call) {
        FavourRings without = banks.get();
        FavourRings with = banks.get();
        due(what, call.applyAsInt(with), want);
        due("states after " + what, with.count(12), without.count(12));
        due("the text after " + what, with.count(13), without.count(13));
        sameDue(what, recorded(without), recorded(with));
        due("undo after " + what, with.undo(), without.undo());
        due("lots of that state", with.count(2), without.count(2));
        due("weeks of that state", with.count(0), without.count(0));
    }

    private static void noPupilDue(FavourRings bank, int none) {
        due("lend to " + none, bank.lend(none, 0, 0, 1), INVALID);
        due("lend by " + none, bank.lend(0, none, 0, 1), INVALID);
        due("fulfil of " + none, bank.fulfil(none, 0, 0, 1), INVALID);
        due("fulfil for " + none, bank.fulfil(0, none, 0, 1), INVALID);
        due("guarantee of " + none, bank.guarantee(none, -1), INVALID);
        due("pupilOf " + none, bank.pupilOf(none, 0), INVALID);
        due("owes " + none, bank.owes(none, 0, 0), INVALID);
        due("owes to " + none, bank.owes(0, none, 0), INVALID);
        due("owes " + none + " to itself", bank.owes(none, none, 0), INVALID);
        due("why " + none, bank.why(none, 1), INVALID);
        due("chain from " + none, bank.chain(none, 0, 0), INVALID);
        due("chain to " + none, bank.chain(0, none, 0), INVALID);
        due("spoilsIn " + none, bank.spoilsIn(none), INVALID);
        if (none >= 0) {
            due("guarantee by " + none, bank.guarantee(0, none), INVALID);
        }
    }

    private static void constants() {
        in("Changes and errors");
        says("The constants: INVALID_ARGUMENT = -1000001: An argument is out of its range, or there is no such pupil.",
            () -> due("INVALID_ARGUMENT", FavourRings.INVALID_ARGUMENT, -1000001));
        says("NOT_POSSIBLE = -1000002: The call is not possible in the present state.",
            () -> due("NOT_POSSIBLE", FavourRings.NOT_POSSIBLE, -1000002));
        says("LIMIT_REACHED = -1000003: A fixed limit has been reached.",
            () -> due("LIMIT_REACHED", FavourRings.LIMIT_REACHED, -1000003));
        says("NOT_FOUND = -1000004: There is no such value.",
            () -> due("NOT_FOUND", FavourRings.NOT_FOUND, -1000004));
        defines("Ahead of the calls pupil, lend, fulfil, guarantee the interface says: ---- pupils, favours.");
        defines("Ahead of the calls weeks, holiday, clear, set the interface says: ---- weeks, rings.");
        defines("Ahead of the calls pupilOf, owes, lot the interface says: ---- what there is.");
        defines("Ahead of the calls why, ring, amount, ifCleared, chain, deepest, spoilsIn, richest, mean, count, undo"
            + " the interface says: ---- what would be.");
        defines("Ahead of the calls type, clearText, fault, play the interface says: ---- texts.");
    }
}
