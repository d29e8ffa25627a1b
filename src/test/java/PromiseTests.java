/** Each promise by hand: ordinary inputs, the edges that the document names, wrong inputs. */
public final class PromiseTests extends Asking {
    private static final int[] WRONG = {-1, LEAST, MOST};

    private static void faultyDue(FavourRings bank, String text, int place, int reason, int cause) {
        faultDue(bank, text, place, reason, cause);
        int states = bank.count(12);
        due("play() of " + text, bank.play(), NOT_POSSIBLE);
        due("states after a faulty play", bank.count(12), states);
        due("the length stays", bank.count(13), text.length());
    }

    private static void newObject() {
        FavourRings bank = new FavourRings();
        for (int what = 0; what <= 13; what++) {
            due("new count(" + what + ")", bank.count(what), 0);
        }
        int[] first = {4, 6, 8, 10, 20, 3};
        for (int what = 0; what < 6; what++) {
            due("new setting " + what, bank.count(20 + what), first[what]);
        }
        due("new undo()", bank.undo(), NOT_POSSIBLE);
        due("INVALID_ARGUMENT", FavourRings.INVALID_ARGUMENT, INVALID);
        due("NOT_POSSIBLE", FavourRings.NOT_POSSIBLE, NOT_POSSIBLE);
        due("LIMIT_REACHED", FavourRings.LIMIT_REACHED, LIMIT);
        due("NOT_FOUND", FavourRings.NOT_FOUND, NOT_FOUND);
    }

    private static void pupils() {
        FavourRings bank = new FavourRings();
        for (int i = 0; i < 8; i++) {
            due("pupil()", bank.pupil(), i);
        }
        due("ninth pupil()", bank.pupil(), LIMIT);
        due("count(1)", bank.count(1), 8);
        for (int what = 0; what <= 8; what++) {
            int want = what == 2 || what == 3 ? 1000 : what == 6 ? NOT_FOUND : 0;
            due("pupilOf(7, " + what + ") of a new one", bank.pupilOf(7, what), want);
        }
    }

    private static void lending() {
        FavourRings bank = bankOf(3);
        due("lend", bank.lend(0, 1, 3, 9), 9);
        due("lend again", bank.lend(0, 1, 3, 1), 10);
        due("lend another kind", bank.lend(0, 1, 2, 1), 1);
        due("lend the other way", bank.lend(1, 0, 3, 2), 2);
        due("lend to the bound", bank.lend(0, 2, 0, 9), 9);
        due("lend beyond the bound", bank.lend(0, 2, 0, 1), NOT_POSSIBLE);
        for (int bad : WRONG) {
            due("debtor", bank.lend(bad, 1, 0, 1), INVALID);
            due("creditor", bank.lend(0, bad, 0, 1), INVALID);
            due("kind", bank.lend(1, 2, bad, 1), INVALID);
            due("many", bank.lend(1, 2, 0, bad), INVALID);
        }
        due("debtor 3", bank.lend(3, 1, 0, 1), INVALID);
        due("creditor 3", bank.lend(1, 3, 0, 1), INVALID);
        due("same", bank.lend(1, 1, 0, 1), INVALID);
        due("kind 4", bank.lend(1, 2, 4, 1), INVALID);
        due("many 0", bank.lend(1, 2, 0, 0), INVALID);
        due("many 10", bank.lend(1, 2, 0, 10), INVALID);
        due("INVALID ahead of NOT_POSSIBLE", bank.lend(0, 0, 0, 1), INVALID);
        due("errors lend nothing", bank.count(4), 22);
        due("lent lots", bank.count(2), 5);
    }

    private static void lotLimit() {
        FavourRings bank = bankOf(3);
        for (int i = 0; i < 40; i++) {
            due("lot " + i, bank.lend(i < 20 ? 0 : 1, 2, 0, 1), i % 20 + 1);
        }
        due("NOT_POSSIBLE ahead of LIMIT_REACHED", bank.lend(0, 1, 0, 1), NOT_POSSIBLE);
        due("40 lots", bank.lend(2, 1, 0, 1), LIMIT);
        due("why tells nothing of lots", bank.why(2, 1), 0);
        due("count(2)", bank.count(2), 40);
        due("a lot is gone", bank.fulfil(1, 2, 0, 1), 19);
        due("there is a place again", bank.lend(2, 1, 0, 1), 1);
        due("and no more", bank.lend(2, 1, 0, 1), LIMIT);
    }

    private static void fulfilling() {
        FavourRings bank = bankOf(3);
        bank.lend(0, 1, 0, 3);
        bank.weeks(1);
        bank.lend(0, 1, 0, 4);
        bank.lend(0, 2, 0, 5);
        due("fulfil takes of the oldest", bank.fulfil(0, 1, 0, 2), 5);
        due("the oldest has 1", bank.lot(0, 3), 1);
        due("fulfil over two lots", bank.fulfil(0, 1, 0, 3), 2);
        due("a lot is gone", bank.count(2), 2);
        due("the next one has its place", bank.lot(0, 3), 2);
        due("too many", bank.fulfil(0, 1, 0, 3), NOT_POSSIBLE);
        due("all", bank.fulfil(0, 1, 0, 2), 0);
        due("none left", bank.fulfil(0, 1, 0, 1), NOT_POSSIBLE);
        due("done of the pupil", bank.pupilOf(0, 4), 7);
        due("done not of the creditor", bank.pupilOf(1, 4), 0);
        due("done", bank.count(5), 7);
        due("balance by lots", bank.pupilOf(0, 2), 995);
        due("balance by what came", bank.pupilOf(0, 3), 995);
        due("balance of the creditor", bank.pupilOf(1, 3), 1000);
        for (int bad : WRONG) {
            due("debtor", bank.fulfil(bad, 2, 0, 1), INVALID);
            due("creditor", bank.fulfil(0, bad, 0, 1), INVALID);
            due("kind", bank.fulfil(0, 2, bad, 1), INVALID);
            due("many", bank.fulfil(0, 2, 0, bad), INVALID);
        }
        due("debtor 3", bank.fulfil(3, 2, 0, 1), INVALID);
        due("creditor 3", bank.fulfil(0, 3, 0, 1), INVALID);
        due("same", bank.fulfil(0, 0, 0, 1), INVALID);
        due("kind 4", bank.fulfil(0, 2, 4, 1), INVALID);
        due("many 0", bank.fulfil(0, 2, 0, 0), INVALID);
        due("many 10", bank.fulfil(0, 2, 0, 10), INVALID);
    }

    /** The oldest lot is not the first one after the first one was taken over: its age is 0 then. */
    private static void oldestIsNotFirst() {
        FavourRings bank = bankOf(3);
        bank.guarantee(0, 1);
        bank.lend(0, 2, 0, 3);
        bank.weeks(1);
        bank.lend(1, 2, 0, 5);
        bank.lend(1, 2, 0, 7);
        due("three weeks", bank.weeks(3), 0);
        due("taken over", bank.lot(0, 0), 1);
        due("age 0", bank.lot(0, 4), 0);
        due("age 3", bank.lot(1, 4), 3);
        due("takes the oldest, the earliest of two", bank.fulfil(1, 2, 0, 1), 14);
        due("the second lot has 4", bank.lot(1, 3), 4);
        due("takes two lots", bank.fulfil(1, 2, 0, 9), 5);
        due("the first lot is whole", bank.lot(0, 3), 3);
        due("the third lot has 2", bank.lot(1, 3), 2);
        due("takes the youngest last", bank.fulfil(1, 2, 0, 4), 1);
        due("one lot", bank.count(2), 1);
        due("of the lot taken over", bank.lot(0, 5), 1);
    }

    private static void guarantors() {
        FavourRings bank = bankOf(3);
        due("first guarantor", bank.guarantee(0, 2), 0);
        due("guarantor", bank.pupilOf(0, 6), 2);
        due("count(11)", bank.count(11), 6);
        due("another", bank.guarantee(0, 1), 3);
        due("none", bank.guarantee(0, -1), 2);
        due("no guarantor", bank.pupilOf(0, 6), NOT_FOUND);
        due("none again", bank.guarantee(0, -1), 0);
        due("guarantor 0", bank.guarantee(1, 0), 0);
        due("pupilOf 6 tells 0", bank.pupilOf(1, 6), 0);
        due("same", bank.guarantee(1, 1), INVALID);
        due("guarantor -2", bank.guarantee(1, -2), INVALID);
        due("guarantor 3", bank.guarantee(1, 3), INVALID);
        due("pupil 3", bank.guarantee(3, 0), INVALID);
        due("pupil -1", bank.guarantee(-1, 0), INVALID);
        due("pupil -1, guarantor -1", bank.guarantee(-1, -1), INVALID);
        due("pupil 3, guarantor -1", bank.guarantee(3, -1), INVALID);
        due("errors change nothing", bank.pupilOf(1, 6), 0);
    }

    private static void weeksEnd() {
        FavourRings bank = bankOf(4);
        bank.lend(0, 1, 0, 2);
        bank.lend(0, 1, 1, 3);
        due("three weeks", bank.weeks(3), 0);
        due("the fourth", bank.weeks(1), 2);
        due("spoiled so far", bank.pupilOf(0, 5), 2);
        due("spoiled not of the creditor", bank.pupilOf(1, 5), 0);
        due("two more", bank.weeks(2), 3);
        due("count(6)", bank.count(6), 5);
        due("count(0)", bank.count(0), 6);
        due("no lots", bank.count(2), 0);
        due("balance by what came", bank.pupilOf(0, 3), 1000);
        due("balance of the creditor", bank.pupilOf(1, 3), 1000);
        bank.lend(2, 1, 3, 4);
        bank.lend(3, 1, 2, 1);
        due("all kinds", bank.weeks(20), 5);
        for (int bad : WRONG) {
            due("weeks", bank.weeks(bad), INVALID);
        }
        due("weeks(0)", bank.weeks(0), INVALID);
        due("weeks(21)", bank.weeks(21), INVALID);
    }

    private static void weekLimit() {
        FavourRings bank = bankOf(1);
        bank.holiday(true);
        for (int i = 0; i < 49; i++) {
            due("weeks(20)", bank.weeks(20), 0);
        }
        due("weeks(20) to 1000", bank.weeks(20), LIMIT);
        due("INVALID ahead of LIMIT", bank.weeks(21), INVALID);
        due("weeks(19) to 999", bank.weeks(19), 0);
        due("count(0)", bank.count(0), 999);
        due("one more", bank.weeks(1), LIMIT);
    }

    private static void takingOver() {
        FavourRings bank = bankOf(4);
        bank.guarantee(0, 2);
        bank.guarantee(2, 3);
        bank.lend(0, 1, 0, 5);
        bank.lend(0, 2, 0, 4);
        due("the creditor is no guarantor", bank.weeks(4), 4);
        due("spoiled of 0", bank.pupilOf(0, 5), 4);
        due("taken over", bank.pupilOf(2, 7), 5);
        due("taken over in all", bank.count(8), 5);
        due("nothing taken over by the others", bank.pupilOf(3, 7) + bank.pupilOf(0, 7), 0);
        int[] lot = {2, 1, 0, 5, 0, 1};
        for (int what = 0; what < 6; what++) {
            due("lot(0, " + what + ")", bank.lot(0, what), lot[what]);
        }
        due("balance of 0", bank.pupilOf(0, 3), 1000);
        due("balance of 2", bank.pupilOf(2, 3), 995);
        due("balance of 2 by lots", bank.pupilOf(2, 2), 995);
        due("not taken over twice", bank.weeks(4), 5);
        due("spoiled of the guarantor", bank.pupilOf(2, 5), 5);
        due("spoiled of 0 stays", bank.pupilOf(0, 5), 4);
    }

    /** A lot that was taken over keeps its place among the others, and lots go on growing old. */
    private static void takenOverKeepsItsPlace() {
        FavourRings bank = bankOf(4);
        bank.guarantee(1, 3);
        bank.set(0, 1);
        bank.set(1, 1);
        bank.lend(0, 2, 0, 1);
        bank.lend(1, 2, 0, 2);
        bank.lend(0, 2, 3, 3);
        bank.lend(1, 2, 1, 4);
        due("spoil", bank.weeks(1), 1);
        due("lots", bank.count(2), 3);
        due("first many", bank.lot(0, 3), 2);
        due("second many", bank.lot(1, 3), 3);
        due("third many", bank.lot(2, 3), 4);
        due("second age", bank.lot(1, 4), 1);
        due("third debtor", bank.lot(2, 0), 3);
    }

    /** The pupil 0 is a guarantor, a debtor and a link like any other one. */
    private static void pupilZero() {
        FavourRings bank = bankOf(3);
        bank.set(0, 1);
        bank.set(5, 1);
        bank.lend(1, 2, 0, 1);
        bank.weeks(1);
        due("spoiled, no guarantor", bank.why(1, 1), 2);
        bank.guarantee(1, 0);
        due("spoiled, guarantor 0", bank.why(1, 1), 0);
        due("count(11)", bank.count(11), 5);
        bank.lend(1, 2, 0, 1);
        due("0 takes over", bank.weeks(1), 0);
        due("debtor 0", bank.lot(0, 0), 0);
        due("one favour owed by 0", bank.deepest(0), 0);
        due("mean of one favour", bank.mean(), 0);
        bank.lend(2, 1, 0, 1);
        due("chain from 0", bank.chain(0, 1, 0), 2);
        bank.lend(1, 0, 0, 1);
        due("chain over 0", bank.chain(1, 2, 0), 2);
        due("ring from 0", bank.ring(0, 0), 0);
        due("cleared", bank.clear(0), 3);
    }

    /** A lot has nothing of the one that had its place before. */
    private static void placesUsedAgain() {
        FavourRings bank = bankOf(3);
        bank.guarantee(0, 2);
        bank.lend(0, 1, 0, 2);
        bank.weeks(5);
        bank.fulfil(2, 1, 0, 2);
        due("no lots", bank.count(2), 0);
        bank.lend(0, 1, 0, 1);
        due("age", bank.lot(0, 4), 0);
        due("taken over", bank.lot(0, 5), 0);
        bank.weeks(4);
        bank.lend(0, 1, 3, 1);
        bank.lend(0, 1, 3, 3);
        bank.fulfil(2, 1, 0, 1);
        due("the next one's many", bank.lot(0, 3), 1);
        due("the next one was not taken over", bank.lot(0, 5), 0);
        due("no third lot", bank.lot(2, 3), NOT_FOUND);
        due("what is owed", bank.count(3), 4);
    }

    private static void holidays() {
        FavourRings bank = bankOf(2);
        bank.lend(0, 1, 0, 2);
        due("begin", bank.holiday(true), 0);
        due("begin again", bank.holiday(true), 1);
        due("count(10)", bank.count(10), 1);
        due("weeks", bank.weeks(20), 0);
        due("nothing grows old", bank.lot(0, 4), 0);
        due("weeks are counted", bank.count(0), 20);
        due("end", bank.holiday(false), 1);
        due("end again", bank.holiday(false), 0);
        due("count(10) is 0", bank.count(10), 0);
        due("they grow old again", bank.weeks(4), 2);
    }

    private static void clearing() {
        FavourRings bank = triangle(3, 2, 4);
        bank.lend(0, 1, 1, 7);
        due("clear", bank.clear(0), 6);
        due("0 to 1", bank.owes(0, 1, 0), 1);
        due("1 to 2", bank.owes(1, 2, 0), 0);
        due("2 to 0", bank.owes(2, 0, 0), 2);
        due("other kind", bank.owes(0, 1, 1), 7);
        for (int pupil = 0; pupil < 3; pupil++) {
            due("cleared of " + pupil, bank.pupilOf(pupil, 8), 2);
            due("both balances of " + pupil, bank.pupilOf(pupil, 2), bank.pupilOf(pupil, 3));
        }
        due("balance of 0", bank.pupilOf(0, 2), 994);
        due("count(7)", bank.count(7), 6);
        due("count(9)", bank.count(9), 1);
        due("count(5)", bank.count(5), 0);
        due("lots", bank.count(2), 3);
        due("nothing to clear", bank.clear(0), 0);
        due("nothing of kind 3", bank.clear(3), 0);
        due("it is a change", bank.count(12), 4);
        for (int bad : WRONG) {
            due("clear", bank.clear(bad), INVALID);
        }
        due("clear(4)", bank.clear(4), INVALID);
    }

    /** Clearing takes from the oldest lots, as doing does. */
    private static void clearingTakesTheOldest() {
        FavourRings bank = bankOf(3);
        bank.guarantee(0, 1);
        bank.lend(0, 2, 0, 3);
        bank.weeks(1);
        bank.lend(1, 2, 0, 5);
        bank.weeks(3);
        bank.lend(2, 1, 0, 6);
        due("clear", bank.clear(0), 12);
        due("lots", bank.count(2), 1);
        due("left of the lot taken over", bank.lot(0, 3), 2);
        due("its age", bank.lot(0, 4), 0);
        due("it was taken over", bank.lot(0, 5), 1);
    }

    private static void settings() {
        int[] first = {4, 6, 8, 10, 20, 3};
        int[] most = {20, 20, 20, 20, 99, 20};
        FavourRings bank = new FavourRings();
        for (int what = 0; what < 6; what++) {
            due("most", bank.set(what, most[what]), first[what]);
            due("least", bank.set(what, 1), most[what]);
            due("too little", bank.set(what, 0), INVALID);
            due("too much", bank.set(what, most[what] + 1), INVALID);
            due("far too little", bank.set(what, Integer.MIN_VALUE), INVALID);
            due("far too much", bank.set(what, Integer.MAX_VALUE), INVALID);
            due("stays", bank.count(20 + what), 1);
            bank.set(what, 2 + what);
        }
        for (int what = 0; what < 6; what++) {
            due("each its own", bank.count(20 + what), 2 + what);
        }
        for (int bad : WRONG) {
            due("set", bank.set(bad, 1), INVALID);
        }
        due("set(6, 1)", bank.set(6, 1), INVALID);
    }

    private static void pupilsTold() {
        FavourRings bank = bankOf(3);
        bank.lend(0, 1, 0, 2);
        bank.lend(0, 2, 1, 3);
        bank.lend(1, 0, 2, 4);
        due("owes", bank.pupilOf(0, 0), 5);
        due("is owed", bank.pupilOf(0, 1), 4);
        due("balance", bank.pupilOf(0, 2), 999);
        due("by what came", bank.pupilOf(0, 3), 999);
        due("balance of 2", bank.pupilOf(2, 2), 1003);
        due("balance of 1", bank.pupilOf(1, 3), 998);
        for (int bad : WRONG) {
            due("pupil", bank.pupilOf(bad, 0), INVALID);
            due("what", bank.pupilOf(0, bad), INVALID);
        }
        due("pupil 3", bank.pupilOf(3, 0), INVALID);
        due("what 9", bank.pupilOf(0, 9), INVALID);
        due("INVALID ahead of NOT_FOUND", bank.pupilOf(3, 6), INVALID);
    }

    private static void owing() {
        FavourRings bank = bankOf(3);
        bank.lend(0, 1, 3, 2);
        bank.lend(0, 1, 3, 5);
        due("owes", bank.owes(0, 1, 3), 7);
        due("the other way", bank.owes(1, 0, 3), 0);
        due("another kind", bank.owes(0, 1, 2), 0);
        due("oneself", bank.owes(0, 0, 3), 0);
        for (int bad : WRONG) {
            due("debtor", bank.owes(bad, 1, 0), INVALID);
            due("creditor", bank.owes(0, bad, 0), INVALID);
            due("kind", bank.owes(0, 1, bad), INVALID);
        }
        due("debtor 3", bank.owes(3, 1, 0), INVALID);
        due("creditor 3", bank.owes(1, 3, 0), INVALID);
        due("both 3", bank.owes(3, 3, 0), INVALID);
        due("kind 4", bank.owes(0, 1, 4), INVALID);
    }

    private static void lots() {
        FavourRings bank = bankOf(3);
        bank.lend(0, 1, 3, 2);
        bank.weeks(2);
        bank.lend(2, 1, 0, 9);
        int[] first = {0, 1, 3, 2, 2, 0};
        int[] second = {2, 1, 0, 9, 0, 0};
        for (int what = 0; what < 6; what++) {
            due("lot(0, " + what + ")", bank.lot(0, what), first[what]);
            due("lot(1, " + what + ")", bank.lot(1, what), second[what]);
            due("lot(2, " + what + ")", bank.lot(2, what), NOT_FOUND);
        }
        for (int bad : WRONG) {
            due("what", bank.lot(0, bad), INVALID);
        }
        due("what 6", bank.lot(0, 6), INVALID);
        due("what 6 of none", bank.lot(2, 6), INVALID);
        due("place -1", bank.lot(-1, 0), INVALID);
        due("place least", bank.lot(Integer.MIN_VALUE, 0), INVALID);
        due("place most", bank.lot(Integer.MAX_VALUE, 0), NOT_FOUND);
        bank.fulfil(0, 1, 3, 2);
        due("a lot that is gone", bank.lot(1, 0), NOT_FOUND);
    }

    private static void reasons() {
        FavourRings bank = bankOf(3);
        bank.set(0, 1);
        bank.lend(0, 1, 0, 2);
        bank.weeks(1);
        due("2 spoiled", bank.why(0, 1), 0);
        bank.lend(0, 1, 0, 1);
        bank.weeks(1);
        due("3 spoiled", bank.why(0, 1), 2);
        due("lend", bank.lend(0, 1, 0, 1), NOT_POSSIBLE);
        due("others may", bank.why(1, 1), 0);
        bank.set(4, 8);
        due("reason 1 first", bank.why(0, 9), 1);
        due("to the bound", bank.why(0, 8), 2);
        bank.guarantee(0, 2);
        due("with a guarantor", bank.why(0, 8), 0);
        due("above the bound", bank.why(0, 9), 1);
        bank.lend(0, 1, 2, 3);
        bank.lend(0, 2, 3, 3);
        due("all kinds together, at the bound", bank.why(0, 2), 0);
        due("all kinds together, above it", bank.why(0, 3), 1);
        for (int bad : WRONG) {
            due("debtor", bank.why(bad, 1), INVALID);
            due("many", bank.why(0, bad), INVALID);
        }
        due("debtor 3", bank.why(3, 1), INVALID);
        due("many 0", bank.why(0, 0), INVALID);
        due("many 10", bank.why(0, 10), INVALID);
    }

    private static void nextRing() {
        FavourRings bank = triangle(3, 2, 4);
        for (int place = 0; place < 3; place++) {
            due("ring(0, " + place + ")", bank.ring(0, place), place);
        }
        due("ring(0, 3)", bank.ring(0, 3), NOT_FOUND);
        due("ring(1, 0)", bank.ring(1, 0), NOT_FOUND);
        due("amount", bank.amount(0), 2);
        due("amount(1)", bank.amount(1), NOT_FOUND);
        bank.lend(2, 1, 0, 1);
        due("the shortest one", bank.ring(0, 0), 1);
        due("its second one", bank.ring(0, 1), 2);
        due("no third one", bank.ring(0, 2), NOT_FOUND);
        due("its amount", bank.amount(0), 1);
        for (int bad : WRONG) {
            due("kind", bank.ring(bad, 0), INVALID);
            due("amount", bank.amount(bad), INVALID);
        }
        due("kind 4", bank.ring(4, 0), INVALID);
        due("amount(4)", bank.amount(4), INVALID);
        due("place -1", bank.ring(0, -1), INVALID);
        due("place -1 without a ring", bank.ring(1, -1), INVALID);
        due("place least", bank.ring(0, Integer.MIN_VALUE), INVALID);
        due("place most", bank.ring(0, Integer.MAX_VALUE), NOT_FOUND);
    }

    /** Of several rings as short the one whose pupils are the lowest, one after the other. */
    private static void lowestRing() {
        FavourRings bank = bankOf(8);
        bank.lend(7, 6, 0, 1);
        bank.lend(6, 5, 0, 1);
        bank.lend(5, 7, 0, 1);
        due("begins with its lowest pupil", bank.ring(0, 0), 5);
        due("then 7", bank.ring(0, 1), 7);
        due("then 6", bank.ring(0, 2), 6);
        bank.lend(1, 4, 0, 1);
        bank.lend(4, 6, 0, 1);
        bank.lend(6, 1, 0, 1);
        due("the lowest first pupil", bank.ring(0, 0), 1);
        due("its second one", bank.ring(0, 1), 4);
        bank.lend(1, 3, 0, 1);
        bank.lend(3, 7, 0, 1);
        bank.lend(7, 1, 0, 1);
        due("the lowest second pupil", bank.ring(0, 1), 3);
        due("its third one", bank.ring(0, 2), 7);
        bank.lend(3, 5, 0, 1);
        bank.lend(5, 1, 0, 1);
        due("the lowest third pupil", bank.ring(0, 2), 5);
        due("clear", bank.clear(0), 9);
        due("three rings", bank.count(9), 3);
    }

    private static void ifCleared() {
        FavourRings bank = triangle(3, 2, 4);
        bank.lend(1, 0, 0, 1);
        bank.lend(1, 0, 2, 1);
        int states = bank.count(12);
        due("favours", bank.ifCleared(0, 0), 8);
        due("rings", bank.ifCleared(0, 1), 2);
        due("lots left", bank.ifCleared(0, 2), 2);
        due("no ring: favours", bank.ifCleared(2, 0), 0);
        due("no ring: rings", bank.ifCleared(2, 1), 0);
        due("no ring: lots", bank.ifCleared(2, 2), 5);
        due("nothing changes", bank.count(7) + bank.count(9), 0);
        due("lots stay", bank.count(2), 5);
        due("states stay", bank.count(12), states);
        for (int bad : WRONG) {
            due("kind", bank.ifCleared(bad, 0), INVALID);
            due("what", bank.ifCleared(0, bad), INVALID);
        }
        due("kind 4", bank.ifCleared(4, 0), INVALID);
        due("what 3", bank.ifCleared(0, 3), INVALID);
        due("clear", bank.clear(0), 8);
        due("rings that were cleared do not count", bank.ifCleared(0, 1), 0);
    }

    private static void chains() {
        FavourRings bank = bankOf(5);
        bank.lend(3, 1, 1, 1);
        bank.lend(1, 4, 1, 1);
        bank.lend(4, 0, 1, 1);
        due("1 step", bank.chain(3, 1, 1), 1);
        due("2 steps", bank.chain(3, 4, 1), 2);
        due("3 steps", bank.chain(3, 0, 1), 3);
        due("not back", bank.chain(0, 3, 1), NOT_FOUND);
        due("not by another kind", bank.chain(3, 1, 0), NOT_FOUND);
        due("not to 2", bank.chain(3, 2, 1), NOT_FOUND);
        bank.lend(3, 4, 1, 1);
        due("a shorter way", bank.chain(3, 0, 1), 2);
        for (int bad : WRONG) {
            due("debtor", bank.chain(bad, 1, 0), INVALID);
            due("creditor", bank.chain(1, bad, 0), INVALID);
            due("kind", bank.chain(0, 1, bad), INVALID);
        }
        due("debtor 5", bank.chain(5, 1, 0), INVALID);
        due("creditor 5", bank.chain(1, 5, 0), INVALID);
        due("kind 4", bank.chain(0, 1, 4), INVALID);
        due("same", bank.chain(1, 1, 1), INVALID);
    }

    private static void deepest() {
        FavourRings bank = bankOf(4);
        bank.lend(2, 0, 1, 2);
        bank.lend(2, 1, 1, 2);
        bank.lend(1, 0, 1, 3);
        bank.lend(1, 0, 0, 9);
        due("to all", bank.deepest(1), 2);
        bank.lend(1, 3, 1, 1);
        due("of several the lowest", bank.deepest(1), 1);
        due("nobody", bank.deepest(2), NOT_FOUND);
        for (int bad : WRONG) {
            due("kind", bank.deepest(bad), INVALID);
        }
        due("kind 4", bank.deepest(4), INVALID);
    }

    private static void spoiling() {
        FavourRings bank = bankOf(3);
        due("owes nothing", bank.spoilsIn(0), NOT_FOUND);
        bank.lend(0, 1, 3, 1);
        due("10 weeks", bank.spoilsIn(0), 10);
        due("the creditor owes nothing", bank.spoilsIn(1), NOT_FOUND);
        bank.weeks(3);
        due("7 weeks", bank.spoilsIn(0), 7);
        bank.lend(0, 1, 1, 1);
        due("6 weeks", bank.spoilsIn(0), 6);
        bank.holiday(true);
        due("holidays aside", bank.spoilsIn(0), 6);
        bank.holiday(false);
        bank.set(3, 3);
        due("at its age already", bank.spoilsIn(0), 1);
        bank.set(3, 1);
        due("beyond its age", bank.spoilsIn(0), 1);
        due("so it comes", bank.weeks(1), 1);
        due("the next one", bank.spoilsIn(0), 5);
        bank.guarantee(0, 2);
        due("is taken over then", bank.weeks(5), 0);
        due("nothing left", bank.spoilsIn(0), NOT_FOUND);
        due("of the guarantor", bank.spoilsIn(2), 6);
        for (int bad : WRONG) {
            due("pupil", bank.spoilsIn(bad), INVALID);
        }
        due("pupil 3", bank.spoilsIn(3), INVALID);
    }

    private static void richest() {
        FavourRings bank = bankOf(4);
        bank.lend(0, 3, 0, 4);
        bank.lend(1, 2, 0, 4);
        bank.lend(2, 3, 0, 1);
        int[] order = {3, 2, 0, 1};
        for (int rank = 0; rank < 4; rank++) {
            due("richest(" + rank + ")", bank.richest(rank), order[rank]);
        }
        due("richest(4)", bank.richest(4), NOT_FOUND);
        due("richest(most)", bank.richest(Integer.MAX_VALUE), NOT_FOUND);
        due("richest(-1)", bank.richest(-1), INVALID);
        due("richest(least)", bank.richest(Integer.MIN_VALUE), INVALID);
        due("without pupils", new FavourRings().richest(0), NOT_FOUND);
    }

    private static void meanAge() {
        FavourRings bank = bankOf(4);
        due("none", bank.mean(), NOT_FOUND);
        bank.lend(0, 1, 3, 2);
        due("age 0", bank.mean(), Float.floatToIntBits(0f));
        bank.weeks(1);
        due("age 1", bank.mean(), Float.floatToIntBits(1f));
        bank.lend(1, 2, 3, 1);
        due("2 in 3", bank.mean(), Float.floatToIntBits(2f / 3f));
        bank.weeks(8);
        due("26 in 3", bank.mean(), Float.floatToIntBits(26f / 3f));
        bank.fulfil(0, 1, 3, 1);
        due("17 in 2", bank.mean(), Float.floatToIntBits(17f / 2f));
        bank.lend(2, 1, 3, 9);
        due("17 in 11", bank.mean(), Float.floatToIntBits(17f / 11f));
    }

    /** One favour of age 1 among ever more of age 0, then the ages go up to 19. */
    private static void meanAges() {
        FavourRings bank = bankOf(8);
        bank.set(4, 99);
        for (int kind = 0; kind < 4; kind++) {
            bank.set(kind, 20);
        }
        bank.lend(0, 1, 0, 1);
        bank.weeks(1);
        int favours = 1;
        for (int i = 1; i < 40; i++) {
            bank.lend(i % 8, (i + 3) % 8, i % 4, 9);
            favours += 9;
            due("1 in " + favours, bank.mean(), Float.floatToIntBits(1f / favours));
        }
        int sum = 1;
        for (int week = 1; week < 19; week++) {
            bank.weeks(1);
            sum += favours;
            due(sum + " in " + favours, bank.mean(), Float.floatToIntBits((float) sum / favours));
        }
    }

    private static void counts() {
        FavourRings bank = bankOf(4);
        bank.set(5, 20);
        bank.guarantee(2, 3);
        bank.lend(0, 1, 0, 6);
        bank.lend(1, 0, 0, 3);
        bank.lend(2, 1, 0, 5);
        bank.lend(3, 1, 2, 9);
        bank.fulfil(0, 1, 0, 1);
        bank.clear(0);
        bank.weeks(4);
        bank.fulfil(3, 1, 2, 4);
        bank.holiday(true);
        bank.type('x');
        int[] want = {4, 4, 2, 10, 23, 5, 2, 6, 5, 1, 1, 11, 4, 1};
        for (int what = 0; what < want.length; what++) {
            due("count(" + what + ")", bank.count(what), want[what]);
        }
        for (int bad : WRONG) {
            due("count", bank.count(bad), INVALID);
        }
        for (int bad = 14; bad < 20; bad++) {
            due("count(" + bad + ")", bank.count(bad), INVALID);
        }
        due("count(26)", bank.count(26), INVALID);
        due("count(25)", bank.count(25), 20);
        due("count(20)", bank.count(20), 4);
    }

    private static void undoing() {
        FavourRings bank = bankOf(2);
        due("two states", bank.count(12), 2);
        bank.lend(0, 1, 0, 5);
        bank.weeks(1);
        due("four states", bank.count(12), 4);
        bank.fulfil(0, 1, 0, 2);
        due("still four", bank.count(12), 4);
        due("undo doing", bank.undo(), 3);
        due("owed again", bank.owes(0, 1, 0), 5);
        due("done again", bank.count(5) + bank.pupilOf(0, 4), 0);
        due("came again", bank.pupilOf(0, 3), 995);
        due("undo a week", bank.undo(), 2);
        due("age again", bank.lot(0, 4), 0);
        due("weeks again", bank.count(0), 0);
        due("undo lending", bank.undo(), 1);
        due("no lots", bank.count(2), 0);
        due("lent again", bank.count(4), 0);
        due("undo a pupil", bank.undo(), 0);
        due("one pupil", bank.count(1), 1);
        due("the oldest was dropped", bank.undo(), NOT_POSSIBLE);
        due("one pupil still", bank.count(1), 1);
    }

    /** Each change is one state, no error and no question is one, and the text stays. */
    private static void whatIsAChange() {
        FavourRings bank = triangle(1, 1, 1);
        while (bank.undo() > 0) {
        }
        bank.undo();
        due("empty", bank.count(12), 0);
        bank.lend(0, 0, 0, 1);
        bank.fulfil(0, 1, 3, 1);
        bank.guarantee(0, 0);
        bank.weeks(0);
        bank.clear(4);
        bank.set(6, 1);
        bank.type('g');
        bank.play();
        bank.pupilOf(0, 0);
        bank.ifCleared(0, 0);
        bank.fault(0);
        due("no change yet", bank.count(12), 0);
        bank.guarantee(0, -1);
        due("guarantee", bank.undo(), 0);
        bank.holiday(false);
        due("holiday", bank.undo(), 0);
        bank.clear(0);
        due("clear", bank.undo(), 0);
        bank.set(0, 7);
        due("set", bank.undo(), 0);
        due("setting again", bank.count(20), 4);
        bank.weeks(1);
        due("weeks", bank.undo(), 0);
        bank.pupil();
        due("pupil", bank.undo(), 0);
        due("the text stayed", bank.count(13), 1);
        bank.guarantee(0, -1);
        bank.clearText();
        due("clearText is none", bank.count(12), 1);
        bank.type('h');
        due("undo", bank.undo(), 0);
        due("the text stays", bank.count(13), 1);
        due("undo of nothing", bank.undo(), NOT_POSSIBLE);
    }

    private static void undoBringsEverything() {
        FavourRings bank = triangle(3, 2, 4);
        bank.guarantee(0, 2);
        bank.set(5, 9);
        int[] before = recorded(bank);
        bank.clear(0);
        due("undo clear", bank.undo(), 3);
        sameDue("undone clear", before, recorded(bank));
        bank.weeks(4);
        bank.undo();
        sameDue("undone weeks", before, recorded(bank));
        bank.holiday(true);
        bank.undo();
        sameDue("undone holiday", before, recorded(bank));
        bank.guarantee(0, 1);
        bank.undo();
        sameDue("undone guarantee", before, recorded(bank));
        write(bank, "h;w3;c0;g0,1;");
        due("play", bank.play(), 4);
        bank.undo();
        bank.clearText();
        sameDue("undone play", before, recorded(bank));
    }

    private static void typing() {
        FavourRings bank = new FavourRings();
        due("type(31)", bank.type(31), INVALID);
        due("type(127)", bank.type(127), INVALID);
        for (int bad : WRONG) {
            due("type", bank.type(bad), INVALID);
        }
        due("nothing typed", bank.count(13), 0);
        due("type(32)", bank.type(32), 1);
        due("type(126)", bank.type(126), 2);
        for (int i = 3; i <= 60; i++) {
            due("type", bank.type('h'), i);
        }
        due("full", bank.type('h'), LIMIT);
        due("INVALID ahead of LIMIT", bank.type(127), INVALID);
        due("count(13)", bank.count(13), 60);
        due("clearText", bank.clearText(), 60);
        due("empty", bank.clearText(), 0);
        due("type again", bank.type('h'), 1);
    }

    private static void faultsOfForm() {
        FavourRings bank = bankOf(2);
        faultyDue(bank, " ", 0, 1, 0);
        faultyDue(bank, ";", 0, 1, 0);
        faultyDue(bank, "O0,1,0,1;", 0, 1, 0);
        faultyDue(bank, "x;", 0, 1, 0);
        faultyDue(bank, "h", 0, 1, 1);
        faultyDue(bank, "hh;", 0, 1, 1);
        faultyDue(bank, "h1;", 0, 1, 1);
        faultyDue(bank, "w", 0, 1, 1);
        faultyDue(bank, "w;", 0, 1, 1);
        faultyDue(bank, "w1", 0, 1, 2);
        faultyDue(bank, "w12", 0, 1, 3);
        faultyDue(bank, "w123;", 0, 1, 3);
        faultyDue(bank, "w1 ;", 0, 1, 2);
        faultyDue(bank, "w1:", 0, 1, 2);
        faultyDue(bank, "w1/;", 0, 1, 2);
        faultyDue(bank, "w:;", 0, 1, 1);
        faultyDue(bank, "w/;", 0, 1, 1);
        faultyDue(bank, "w-1;", 0, 1, 1);
        faultyDue(bank, "w1,1;", 0, 1, 2);
        faultyDue(bank, "c", 0, 1, 1);
        faultyDue(bank, "c0,", 0, 1, 2);
        faultyDue(bank, "g0;", 0, 1, 2);
        faultyDue(bank, "g0,", 0, 1, 3);
        faultyDue(bank, "g0,;", 0, 1, 3);
        faultyDue(bank, "g,1;", 0, 1, 1);
        faultyDue(bank, "g0,-1;", 0, 1, 3);
        faultyDue(bank, "g0,1,1;", 0, 1, 4);
        faultyDue(bank, "o0,1,0;", 0, 1, 6);
        faultyDue(bank, "o0,1,0,1", 0, 1, 8);
        faultyDue(bank, "o00,01,00,01", 0, 1, 12);
        faultyDue(bank, "o0,1,0,1,", 0, 1, 8);
        faultyDue(bank, "o00,001,", 0, 1, 6);
        faultyDue(bank, "d0,1,0", 0, 1, 6);
        faultyDue(bank, "d0.1", 0, 1, 2);
        faultyDue(bank, "h;h; h;", 4, 1, 0);
        faultyDue(bank, "h;w2;o0,1,0", 5, 1, 6);
        faultyDue(bank, "hw1;", 0, 1, 1);
    }

    private static void faultsOfState() {
        FavourRings bank = bankOf(3);
        faultyDue(bank, "o0,3,0,1;", 0, 2, INVALID);
        faultyDue(bank, "o0,0,0,1;", 0, 2, INVALID);
        faultyDue(bank, "o0,1,4,1;", 0, 2, INVALID);
        faultyDue(bank, "o0,1,0,10;", 0, 2, INVALID);
        faultyDue(bank, "o0,1,0,00;", 0, 2, INVALID);
        faultyDue(bank, "d0,1,0,1;", 0, 2, NOT_POSSIBLE);
        faultyDue(bank, "g0,0;", 0, 2, INVALID);
        faultyDue(bank, "g0,3;", 0, 2, INVALID);
        faultyDue(bank, "c4;", 0, 2, INVALID);
        faultyDue(bank, "w0;", 0, 2, INVALID);
        faultyDue(bank, "w21;", 0, 2, INVALID);
        faultyDue(bank, "o0,1,0,9;o0,1,0,9;o0,1,0,3;", 18, 2, NOT_POSSIBLE);
        faultyDue(bank, "o0,1,0,2;d0,1,0,2;d0,1,0,1;", 18, 2, NOT_POSSIBLE);
        faultyDue(bank, "o0,1,0,3;w4;o0,1,0,1;", 12, 2, NOT_POSSIBLE);
        faultyDue(bank, "c4;x", 0, 2, INVALID);
        noFaultDue(bank, "");
        noFaultDue(bank, "h;");
        noFaultDue(bank, "o0,1,0,2;d0,1,0,1;d00,01,00,01;");
        noFaultDue(bank, "g0,1;o0,1,0,3;w4;o0,1,0,1;");
        noFaultDue(bank, "h;o0,1,0,3;w20;w20;d0,1,0,3;");
        due("nothing done by asking", bank.count(4) + bank.count(0), 0);
        for (int bad : WRONG) {
            due("fault", bank.fault(bad), INVALID);
        }
        due("fault(3)", bank.fault(3), INVALID);
    }

    private static void faultsOfLimits() {
        FavourRings bank = bankOf(3);
        bank.holiday(true);
        for (int i = 0; i < 49; i++) {
            bank.weeks(20);
        }
        faultyDue(bank, "w19;w1;", 4, 2, LIMIT);
        for (int i = 0; i < 39; i++) {
            bank.lend(i < 20 ? 0 : 1, 2, 0, 1);
        }
        faultyDue(bank, "o1,0,0,1;o2,0,0,1;", 9, 2, LIMIT);
        noFaultDue(bank, "o1,0,0,1;d0,2,0,1;o2,0,0,1;");
        due("play", bank.play(), 3);
    }

    private static void playing() {
        FavourRings bank = bankOf(3);
        due("nothing to play", bank.play(), 0);
        due("is a change too", bank.count(12), 4);
        write(bank, "o0,1,0,3;o1,2,0,2;o2,0,0,4;c0;g0,1;");
        due("play", bank.play(), 5);
        due("lent", bank.count(4), 9);
        due("cleared", bank.count(7), 6);
        due("guarantor", bank.pupilOf(0, 6), 1);
        due("the text stays", bank.count(13), 35);
        write(bank, "w01;d0,1,0,1;h;");
        due("play again", bank.play(), 3);
        due("done", bank.count(5), 1);
        due("weeks", bank.count(0), 1);
        due("holidays", bank.count(10), 1);
        due("states", bank.count(12), 4);
        write(bank, "h;");
        due("play to end them", bank.play(), 1);
        due("no holidays", bank.count(10), 0);
        due("play to begin them", bank.play(), 1);
        due("holidays again", bank.count(10), 1);
        due("undo is one change", bank.undo(), 3);
        due("undo is one change", bank.undo(), 2);
        due("undo all three", bank.undo(), 1);
        due("as before", bank.count(5) + bank.count(0) + bank.count(10), 0);
        due("undo all five", bank.undo(), 0);
        due("as at first", bank.count(4) + bank.count(7), 0);
        write(bank, "o0,1,0,3;o0,1,0,x;");
        due("faulty", bank.play(), NOT_POSSIBLE);
        due("nothing done", bank.count(4), 0);
    }

    private static void thirtyOrders() {
        FavourRings bank = bankOf(2);
        StringBuilder text = new StringBuilder();
        for (int i = 0; i < 30; i++) {
            text.append("h;");
        }
        write(bank, text.toString());
        due("60 characters", bank.count(13), 60);
        due("30 orders", bank.play(), 30);
        due("no holidays", bank.count(10), 0);
    }

    public static void main(String[] args) {
        newObject();
        pupils();
        lending();
        lotLimit();
        fulfilling();
        oldestIsNotFirst();
        guarantors();
        weeksEnd();
        weekLimit();
        takingOver();
        takenOverKeepsItsPlace();
        pupilZero();
        placesUsedAgain();
        holidays();
        clearing();
        clearingTakesTheOldest();
        settings();
        pupilsTold();
        owing();
        lots();
        reasons();
        nextRing();
        lowestRing();
        ifCleared();
        chains();
        deepest();
        spoiling();
        richest();
        meanAge();
        meanAges();
        counts();
        undoing();
        whatIsAChange();
        undoBringsEverything();
        typing();
        faultsOfForm();
        faultsOfState();
        faultsOfLimits();
        playing();
        thirtyOrders();
        end();
    }
}
