/** The sentences of "Terms": pupils and favours, weeks, rings, balances, settings. */
abstract class TermSentences extends Sentences {
    static void tell() {
        use();
        pupilsAndLots();
        takingFromLots();
        reasons();
        weeks();
        takingOver();
        rings();
        nextRing();
        clearing();
        balances();
        settings();
    }

    private static void use() {
        in("What it is");
        defines("A bank of favours in a school: pupils who owe one another favours of kinds, favours that spoil if"
            + " they are not done within some weeks, guarantors who take over what would spoil, holidays in which"
            + " nothing grows old, rings of pupils who owe one another round and round and are cleared, the shortest"
            + " ring first, bounds for what one owes, why a favour is not lent, the ring that would be cleared next,"
            + " by how few steps one owes another one, what clearing would bring, when the next favour spoils,"
            + " balances told in two ways that no clearing changes, orders as texts with places, reasons and causes"
            + " of faults.");
        says("An object is used for at most 512 calls after it has been made; what later calls answer is free.", () -> {
            FavourRings bank = bankOf(2);
            for (int calls = 2; calls < 510; calls += 4) {
                due("lend after " + calls + " calls", bank.lend(0, 1, 0, 1), 1);
                due("fulfil after " + calls + " calls", bank.fulfil(0, 1, 0, 1), 0);
                due("type after " + calls + " calls", bank.type('h'), 1);
                due("clearText after " + calls + " calls", bank.clearText(), 1);
            }
            due("the 511th call", bank.count(4), 127);
            due("the 512th call", bank.undo(), 3);
        });
    }

    private static void pupilsAndLots() {
        in("Terms");
        defines("All numbers are whole numbers, where no float is told.");
        says("Sets of pupils are told as bits: bit k is for the pupil k.", () -> {
            due("no pupils", new FavourRings().count(11), 0);
            due("the pupil 0", bankOf(1).count(11), 1);
            FavourRings bank = bankOf(8);
            due("all of eight", bank.count(11), 255);
            bank.guarantee(7, 0);
            due("without the pupil 7", bank.count(11), 127);
            bank.guarantee(0, 7);
            due("without the pupil 0", bank.count(11), 126);
        });
        defines("Pupils, favours");
        says("There are at most 8 pupils,", () -> {
            FavourRings bank = bankOf(7);
            due("the eighth one", bank.pupil(), 7);
            due("a ninth one", bank.pupil(), LIMIT);
            due("count(1)", bank.count(1), 8);
        });
        says("numbered from 0 in the order in which they came.", () -> {
            FavourRings bank = new FavourRings();
            for (int i = 0; i < 8; i++) {
                due("pupil() " + i, bank.pupil(), i);
            }
            bank.undo();
            due("the number comes again", bank.pupil(), 7);
        });
        says("There are the kinds of favours 0 to 3.", () -> {
            FavourRings bank = bankOf(2);
            for (int kind = 0; kind < 4; kind++) {
                due("lend of kind " + kind, bank.lend(0, 1, kind, kind + 1), kind + 1);
                due("the lot's kind", bank.lot(kind, 2), kind);
                due("owes of kind " + kind, bank.owes(0, 1, kind), kind + 1);
            }
            eachDue("lend of kind", INVALID, kind -> bank.lend(0, 1, kind, 1), -1, 4);
        });
        says("A lot is some favours (1 or more) of a kind that one pupil, the debtor, owes another one, the creditor,"
            + " with an age in weeks;", () -> {
            FavourRings bank = bankOf(2);
            due("no favours", bank.lend(0, 1, 3, 0), INVALID);
            due("to oneself", bank.lend(1, 1, 3, 1), INVALID);
            due("no lot", bank.count(2), 0);
            due("one favour", bank.lend(1, 0, 3, 1), 1);
            lotDue(bank, 0, 1, 0, 3, 1, 0, 0);
            bank.weeks(2);
            lotDue(bank, 0, 1, 0, 3, 1, 2, 0);
        });
        says("lots have an order, in which they came.", () -> {
            FavourRings bank = bankOf(3);
            bank.lend(2, 1, 3, 1);
            bank.lend(0, 1, 0, 2);
            bank.lend(1, 2, 2, 3);
            sizesDue(bank, 1, 2, 3);
            bank.fulfil(0, 1, 0, 2);
            sizesDue(bank, 1, 3);
            bank.lend(0, 1, 0, 4);
            sizesDue(bank, 1, 3, 4);
            bank.fulfil(2, 1, 3, 1);
            sizesDue(bank, 3, 4);
        });
        says("There are at most 40 lots.", () -> {
            FavourRings bank = bankOfLots(39);
            due("the fortieth lot", bank.lend(2, 0, 1, 4), 4);
            due("one more", bank.lend(2, 1, 0, 1), LIMIT);
            due("one more of the same", bank.lend(2, 0, 1, 1), LIMIT);
            due("count(2)", bank.count(2), 40);
            lotDue(bank, 39, 2, 0, 1, 4, 0, 0);
            due("lot(40, 3)", bank.lot(40, 3), NOT_FOUND);
        });
        says("When a favour is lent, a lot with the age 0 comes at the end.", () -> {
            FavourRings bank = bankOf(2);
            bank.lend(0, 1, 0, 2);
            bank.weeks(1);
            bank.lend(0, 1, 0, 3);
            due("a lot of its own", bank.count(2), 2);
            lotDue(bank, 0, 0, 1, 0, 2, 1, 0);
            lotDue(bank, 1, 0, 1, 0, 3, 0, 0);
            bank.fulfil(0, 1, 0, 2);
            bank.weeks(1);
            bank.lend(1, 0, 3, 4);
            lotDue(bank, 0, 0, 1, 0, 3, 1, 0);
            lotDue(bank, 1, 1, 0, 3, 4, 0, 0);
            FavourRings again = youngestFirst();
            again.fulfil(1, 2, 0, 9);
            again.fulfil(1, 2, 0, 6);
            due("no lots", again.count(2), 0);
            again.lend(0, 1, 0, 1);
            again.lend(0, 1, 0, 2);
            lotDue(again, 0, 0, 1, 0, 1, 0, 0);
            lotDue(again, 1, 0, 1, 0, 2, 0, 0);
        });
    }

    private static void takingFromLots() {
        in("Terms");
        defines("What one owes another one of a kind is in lots:");
        says("of these the one with the greatest age comes first,", () -> {
            FavourRings done = youngestFirst();
            done.fulfil(1, 2, 0, 1);
            sizesDue(done, 3, 4, 7);
            done.fulfil(1, 2, 0, 9);
            sizesDue(done, 3, 2);
            done.fulfil(1, 2, 0, 3);
            sizesDue(done, 2);
            FavourRings cleared = youngestFirst();
            cleared.lend(2, 1, 0, 6);
            cleared.clear(0);
            sizesDue(cleared, 3, 6);
        });
        says("of several the earliest.", () -> {
            FavourRings bank = bankOf(2);
            bank.lend(0, 1, 0, 2);
            bank.lend(0, 1, 0, 3);
            bank.fulfil(0, 1, 0, 1);
            sizesDue(bank, 1, 3);
            bank.weeks(1);
            bank.lend(1, 0, 0, 1);
            bank.clear(0);
            sizesDue(bank, 3);
            FavourRings behind = youngestFirst();
            behind.fulfil(1, 2, 0, 4);
            sizesDue(behind, 3, 1, 7);
        });
        says("When favours are done, or cleared, they are taken from the lots of the debtor, the creditor and the kind,"
            + " in the order told,", () -> {
            FavourRings bank = bankOf(3);
            bank.lend(0, 1, 1, 2);
            bank.lend(0, 2, 0, 3);
            bank.lend(2, 1, 0, 4);
            bank.lend(1, 0, 2, 5);
            bank.weeks(1);
            bank.lend(0, 1, 0, 6);
            bank.lend(0, 1, 0, 7);
            bank.fulfil(0, 1, 0, 8);
            sizesDue(bank, 2, 3, 4, 5, 5);
            bank.lend(1, 0, 0, 3);
            bank.clear(0);
            sizesDue(bank, 2, 3, 4, 5, 2);
        });
        says("as many as are needed from each;", () -> {
            FavourRings done = threeLots();
            done.fulfil(0, 1, 0, 4);
            sizesDue(done, 1, 4);
            done.fulfil(0, 1, 0, 5);
            sizesDue(done);
            FavourRings cleared = threeLots();
            cleared.lend(1, 0, 0, 4);
            cleared.clear(0);
            sizesDue(cleared, 1, 4);
        });
        says("a lot without favours is gone.", () -> {
            FavourRings bank = threeLots();
            bank.fulfil(0, 1, 0, 1);
            due("one favour is left", bank.count(2), 3);
            bank.fulfil(0, 1, 0, 1);
            due("none is left", bank.count(2), 2);
            bank.lend(1, 0, 0, 3);
            bank.clear(0);
            due("cleared", bank.count(2), 1);
            lotDue(bank, 0, 0, 1, 0, 4, 0, 0);
            bank.weeks(4);
            due("spoiled", bank.count(2), 0);
        });
    }

    /** Three lots of 2, 3 and 4 favours, of which only the order tells which comes first. */
    private static FavourRings threeLots() {
        FavourRings bank = bankOf(2);
        bank.lend(0, 1, 0, 2);
        bank.lend(0, 1, 0, 3);
        bank.lend(0, 1, 0, 4);
        return bank;
    }

    /** So many favours of the pupil 0 spoiled, and the pupil owes nothing. */
    private static FavourRings bankOfSpoiled(int many) {
        FavourRings bank = bankOf(3);
        bank.lend(0, 1, 0, many);
        bank.weeks(4);
        return bank;
    }

    private static void reasons() {
        in("Terms");
        says("Favours are not lent to a debtor for the first of these reasons that is so:", () -> {
            FavourRings bank = bankOfSpoiled(3);
            bank.set(4, 5);
            due("both", bank.why(0, 6), 1);
            due("the second alone", bank.why(0, 5), 2);
            bank.guarantee(0, 2);
            due("the first alone", bank.why(0, 6), 1);
            due("none", bank.why(0, 5), 0);
            due("not lent", bank.lend(0, 1, 0, 6), NOT_POSSIBLE);
            due("lent", bank.lend(0, 1, 0, 5), 5);
        });
        says("1 what the debtor owes, of all kinds, and these, together, are more than setting 4;", () -> {
            FavourRings bank = bankOf(3);
            bank.lend(0, 1, 0, 5);
            bank.lend(0, 2, 1, 5);
            bank.lend(0, 1, 2, 3);
            bank.lend(0, 1, 3, 2);
            bank.lend(1, 0, 0, 9);
            due("as many as the setting", bank.why(0, 5), 0);
            due("one more", bank.why(0, 6), 1);
            due("one more is not lent", bank.lend(0, 2, 0, 6), NOT_POSSIBLE);
            due("as many are lent", bank.lend(0, 2, 0, 5), 5);
            due("one more than those", bank.why(0, 1), 1);
            bank.set(4, 21);
            due("the setting counts as it is", bank.why(0, 1), 0);
            bank.set(4, 1);
            due("one is as many as 1", bank.why(2, 1), 0);
            due("two are more than 1", bank.why(2, 2), 1);
        });
        says("2 of the debtor's favours setting 5, or more, spoiled so far,", () -> {
            due("one less", bankOfSpoiled(2).why(0, 1), 0);
            due("as many", bankOfSpoiled(3).why(0, 1), 2);
            due("one more", bankOfSpoiled(4).why(0, 1), 2);
            due("one less: lent", bankOfSpoiled(2).lend(0, 1, 0, 1), 1);
            due("as many: not lent", bankOfSpoiled(3).lend(0, 1, 0, 1), NOT_POSSIBLE);
            due("the creditor may", bankOfSpoiled(9).why(1, 1), 0);
            FavourRings bank = bankOfSpoiled(3);
            bank.set(5, 4);
            due("the setting counts as it is", bank.why(0, 1), 0);
        });
        says("and the debtor has no guarantor.", () -> {
            FavourRings bank = bankOfSpoiled(3);
            bank.guarantee(1, 0);
            due("others have one", bank.why(0, 1), 2);
            bank.guarantee(0, 1);
            due("with one", bank.lend(0, 2, 0, 1), 1);
            bank.guarantee(0, -1);
            due("without again", bank.lend(0, 2, 0, 1), NOT_POSSIBLE);
            FavourRings zero = bankOf(2);
            zero.lend(1, 0, 0, 3);
            zero.weeks(4);
            zero.guarantee(1, 0);
            due("with the pupil 0", zero.why(1, 1), 0);
        });
    }

    private static void weeks() {
        in("Weeks");
        says("A pupil has a guarantor, another pupil, or none (at first).", () -> {
            FavourRings bank = bankOf(8);
            for (int pupil = 0; pupil < 8; pupil++) {
                due("at first", bank.pupilOf(pupil, 6), NOT_FOUND);
                due("the pupil itself", bank.guarantee(pupil, pupil), INVALID);
            }
            bank.guarantee(7, 0);
            bank.guarantee(0, 7);
            due("another one", bank.pupilOf(7, 6), 0);
            due("one another", bank.pupilOf(0, 6), 7);
            bank.guarantee(7, -1);
            due("none again", bank.pupilOf(7, 6), NOT_FOUND);
        });
        says("When a week ends, it is counted;", () -> {
            FavourRings bank = bankOf(1);
            bank.weeks(1);
            due("one", bank.count(0), 1);
            bank.weeks(20);
            due("twenty more", bank.count(0), 21);
            bank.holiday(true);
            bank.weeks(1);
            due("in holidays too", bank.count(0), 22);
        });
        says("if it is a holiday, nothing else is done.", () -> {
            FavourRings bank = bankOf(3);
            bank.guarantee(1, 2);
            bank.lend(0, 1, 0, 2);
            bank.lend(1, 0, 0, 3);
            bank.weeks(3);
            bank.holiday(true);
            due("ahead of the week", bank.weeks(20), 0);
            lotDue(bank, 0, 0, 1, 0, 2, 3, 0);
            lotDue(bank, 1, 1, 0, 0, 3, 3, 0);
            bank.set(0, 1);
            due("beyond the setting", bank.weeks(1), 0);
            lotDue(bank, 0, 0, 1, 0, 2, 3, 0);
            lotDue(bank, 1, 1, 0, 0, 3, 3, 0);
            bank.holiday(false);
            due("afterwards", bank.weeks(1), 2);
            lotDue(bank, 0, 2, 0, 0, 3, 0, 1);
        });
        says("Otherwise each lot is 1 week older.", () -> {
            FavourRings bank = bankOfLots(40);
            bank.weeks(1);
            for (int place = 0; place < 40; place++) {
                due("the age of the lot " + place, bank.lot(place, 4), 1);
            }
            bank.weeks(2);
            due("the first one", bank.lot(0, 4), 3);
            due("the last one", bank.lot(39, 4), 3);
        });
        says("Then, in their order, those lots are looked at whose age is at least the setting of their kind (0 to 3):",
            () -> {
            for (int kind = 0; kind < 4; kind++) {
                ageDue(kind, 4 + 2 * kind);
                ageDue(kind, 1);
                ageDue(kind, 2);
                ageDue(kind, 20);
            }
            FavourRings bank = bankOf(2);
            bank.lend(0, 1, 2, 3);
            bank.weeks(5);
            bank.set(2, 1);
            due("not before a week ends", bank.count(2), 1);
            due("above the setting", bank.weeks(1), 3);
        });
        says("Holidays begin and end by order.", () -> {
            FavourRings bank = bankOf(1);
            bank.weeks(20);
            due("none by themselves", bank.count(10), 0);
            bank.holiday(true);
            bank.weeks(20);
            bank.weeks(20);
            due("they go on", bank.count(10), 1);
            play(bank, "h;");
            due("until they end", bank.count(10), 0);
        });
    }

    private static void ageDue(int kind, int setting) {
        FavourRings bank = bankOf(2);
        bank.set(kind, setting);
        bank.lend(0, 1, kind, 7);
        if (setting > 1) {
            due("kind " + kind + ", a week less than " + setting, bank.weeks(setting - 1), 0);
            due("still owed", bank.owes(0, 1, kind), 7);
        }
        due("kind " + kind + ", " + setting + " weeks", bank.weeks(1), 7);
        due("no more", bank.owes(0, 1, kind), 0);
    }

    private static void takingOver() {
        in("Weeks");
        says("if the debtor has a guarantor who is not the creditor,", () -> {
            FavourRings bank = bankOf(4);
            bank.guarantee(0, 2);
            bank.lend(0, 1, 0, 1);
            bank.lend(0, 2, 0, 2);
            bank.lend(3, 1, 0, 4);
            due("of the creditor, and without one", bank.weeks(4), 6);
            due("of another one", bank.owes(2, 1, 0), 1);
            FavourRings zero = bankOf(3);
            zero.guarantee(1, 0);
            zero.lend(1, 2, 0, 1);
            zero.lend(1, 0, 0, 2);
            due("of the pupil 0", zero.weeks(4), 2);
            due("the pupil 0 owes it", zero.owes(0, 2, 0), 1);
        });
        says("and the lot was not taken over yet,", () -> {
            FavourRings bank = bankOf(4);
            bank.guarantee(0, 2);
            bank.guarantee(2, 3);
            bank.lend(0, 1, 0, 5);
            due("taken over", bank.weeks(4), 0);
            bank.lend(2, 1, 0, 1);
            due("a week before", bank.weeks(3), 0);
            due("not once more, another lot may", bank.weeks(1), 5);
            due("the other one", bank.owes(3, 1, 0), 1);
        });
        says("the guarantor is the debtor of it then, and its age is 0 (it is taken over, and keeps its place);",
            () -> {
            FavourRings bank = bankOf(4);
            bank.guarantee(1, 3);
            bank.lend(0, 2, 3, 1);
            bank.lend(1, 2, 0, 2);
            bank.lend(0, 2, 3, 3);
            due("nothing spoils", bank.weeks(4), 0);
            lotDue(bank, 0, 0, 2, 3, 1, 4, 0);
            lotDue(bank, 1, 3, 2, 0, 2, 0, 1);
            lotDue(bank, 2, 0, 2, 3, 3, 4, 0);
            bank.weeks(3);
            lotDue(bank, 1, 3, 2, 0, 2, 3, 1);
        });
        says("otherwise it spoils: it is gone, and counts as spoiled for its debtor.", () -> {
            FavourRings bank = bankOf(3);
            bank.guarantee(0, 2);
            bank.lend(0, 1, 0, 5);
            bank.lend(1, 2, 1, 3);
            due("one taken over, and spoiled", bank.weeks(8), 8);
            due("no lots", bank.count(2), 0);
            due("not for the old debtor", bank.pupilOf(0, 5), 0);
            due("for the guarantor", bank.pupilOf(2, 5), 5);
            due("for the debtor", bank.pupilOf(1, 5), 3);
            FavourRings all = bankOfLots(40);
            due("all of 40", all.weeks(20), 40);
            due("none of 40", all.count(2), 0);
        });
    }

    private static void rings() {
        in("Rings");
        says("A ring of a kind is a row of pupils, all unlike,", () -> {
            FavourRings bank = bankOf(8);
            circle(bank, 0, 1, 0, 1, 2, 3, 4, 5, 6, 7);
            ringDue(bank, 0, 0, 1, 2, 3, 4, 5, 6, 7);
            FavourRings two = bankOf(5);
            circle(two, 0, 1, 0, 1, 2);
            circle(two, 0, 1, 2, 3, 4);
            ringDue(two, 0, 0, 1, 2);
            due("two rings by one pupil", two.ifCleared(0, 1), 2);
        });
        says("of whom each one owes the next one something of this kind, and the last one the first one;", () -> {
            FavourRings bank = bankOf(3);
            bank.lend(0, 1, 0, 1);
            bank.lend(1, 2, 0, 1);
            ringDue(bank, 0);
            bank.lend(0, 2, 0, 1);
            ringDue(bank, 0);
            bank.lend(2, 0, 1, 1);
            ringDue(bank, 0);
            ringDue(bank, 1);
            bank.lend(2, 0, 0, 1);
            ringDue(bank, 0, 0, 2);
            FavourRings back = bankOf(2);
            circle(back, 3, 1, 0, 1);
            ringDue(back, 3, 0, 1);
            ringDue(back, 0);
        });
        says("it begins with its lowest pupil.", () -> {
            FavourRings bank = bankOf(8);
            circle(bank, 0, 1, 5, 2, 7);
            ringDue(bank, 0, 2, 7, 5);
            circle(bank, 1, 1, 7, 6);
            ringDue(bank, 1, 6, 7);
            circle(bank, 2, 1, 4, 3, 0, 1);
            ringDue(bank, 2, 0, 1, 4, 3);
        });
    }

    private static void nextRing() {
        in("Rings");
        says("The next ring is the shortest one;", () -> {
            FavourRings bank = bankOf(8);
            circle(bank, 0, 1, 0, 1, 2, 3);
            circle(bank, 0, 1, 4, 5, 6);
            ringDue(bank, 0, 4, 5, 6);
            bank.lend(7, 6, 0, 1);
            bank.lend(6, 7, 0, 1);
            ringDue(bank, 0, 6, 7);
            FavourRings way = bankOf(6);
            circle(way, 0, 1, 0, 1, 2, 3);
            circle(way, 0, 1, 0, 4, 5);
            ringDue(way, 0, 0, 4, 5);
        });
        says("of several that whose first pupil is the lowest,", () -> {
            FavourRings bank = bankOf(8);
            circle(bank, 0, 1, 7, 6);
            ringDue(bank, 0, 6, 7);
            circle(bank, 0, 1, 5, 3);
            ringDue(bank, 0, 3, 5);
            circle(bank, 0, 1, 4, 1);
            ringDue(bank, 0, 1, 4);
            circle(bank, 0, 1, 0, 7);
            ringDue(bank, 0, 0, 7);
        });
        says("of several of these that whose second one is, and so on.", () -> {
            FavourRings bank = bankOf(8);
            circle(bank, 0, 1, 0, 6, 7, 3);
            ringDue(bank, 0, 0, 6, 7, 3);
            circle(bank, 0, 1, 0, 2, 7, 4);
            ringDue(bank, 0, 0, 2, 7, 3);
            bank.lend(2, 5, 0, 1);
            bank.lend(5, 4, 0, 1);
            ringDue(bank, 0, 0, 2, 5, 4);
            bank.lend(5, 3, 0, 1);
            ringDue(bank, 0, 0, 2, 5, 3);
            bank.lend(0, 1, 0, 1);
            bank.lend(1, 7, 0, 1);
            ringDue(bank, 0, 0, 1, 7, 3);
        });
        says("Its amount is the least that one of them owes the next one of this kind.", () -> {
            due("of the first one", triangle(2, 3, 4).amount(0), 2);
            due("of the second one", triangle(3, 2, 4).amount(0), 2);
            due("of the last one", triangle(4, 3, 2).amount(0), 2);
            due("of all as many", triangle(9, 9, 9).amount(0), 9);
            FavourRings bank = triangle(1, 4, 4);
            bank.lend(0, 1, 0, 2);
            bank.lend(0, 1, 1, 9);
            due("of two lots", bank.amount(0), 3);
        });
    }

    private static void clearing() {
        in("Rings");
        says("It is cleared when from each of them to the next one so many favours of this kind are cleared.", () -> {
            FavourRings bank = triangle(3, 2, 4);
            bank.lend(0, 1, 1, 5);
            bank.clear(0);
            due("0 to 1", bank.owes(0, 1, 0), 1);
            due("1 to 2", bank.owes(1, 2, 0), 0);
            due("2 to 0", bank.owes(2, 0, 0), 2);
            due("of another kind", bank.owes(0, 1, 1), 5);
            FavourRings all = bankOf(8);
            circle(all, 3, 9, 0, 1, 2, 3, 4, 5, 6, 7);
            due("eight pupils", all.clear(3), 72);
            due("nothing left", all.count(3), 0);
        });
        says("To clear a kind is to clear the next ring, again and again, until there is none.", () -> {
            FavourRings bank = triangle(3, 2, 4);
            bank.lend(1, 0, 0, 2);
            due("the ring of two, then the ring of three", bank.clear(0), 7);
            due("two rings", bank.count(9), 2);
            due("0 to 1", bank.owes(0, 1, 0), 0);
            due("1 to 2", bank.owes(1, 2, 0), 1);
            due("2 to 0", bank.owes(2, 0, 0), 3);
            ringDue(bank, 0);
            FavourRings many = bankOf(8);
            for (int pupil = 0; pupil < 8; pupil += 2) {
                circle(many, 1, 2, pupil, pupil + 1);
            }
            due("four rings of two", many.clear(1), 16);
            due("four rings", many.count(9), 4);
            FavourRings same = bankOf(2);
            same.lend(0, 1, 0, 9);
            for (int i = 0; i < 9; i++) {
                same.lend(1, 0, 0, 1);
            }
            due("one ring of many lots", same.clear(0), 18);
            due("one ring", same.count(9), 1);
        });
    }

    private static void balances() {
        in("Balances");
        says("The balance of a pupil is what others owe the pupil less what the pupil owes, of all kinds.", () -> {
            FavourRings bank = bankOf(4);
            balancesDue(bank, 0, 0, 0, 0);
            bank.lend(0, 1, 0, 1);
            bank.lend(0, 2, 1, 2);
            bank.lend(1, 0, 2, 4);
            bank.lend(2, 0, 3, 8);
            balancesDue(bank, 9, -3, -6, 0);
            FavourRings far = bankOf(2);
            far.set(4, 99);
            for (int i = 0; i < 11; i++) {
                far.lend(0, 1, i % 4, 9);
            }
            balancesDue(far, -99, 99);
        });
        defines("It is told by the lots as they are, and by what came:");
        says("a lot that comes is counted for its creditor and against its debtor,", () -> {
            FavourRings bank = bankOf(3);
            bank.lend(2, 0, 3, 1);
            balancesDue(bank, 1, 0, -1);
            bank.lend(2, 0, 3, 9);
            balancesDue(bank, 10, 0, -10);
            bank.lend(0, 2, 1, 9);
            balancesDue(bank, 1, 0, -1);
        });
        says("favours that are done or spoil the other way round,", () -> {
            FavourRings bank = bankOf(3);
            bank.lend(0, 1, 0, 5);
            bank.lend(2, 1, 1, 4);
            bank.fulfil(0, 1, 0, 2);
            balancesDue(bank, -3, 7, -4);
            bank.weeks(4);
            balancesDue(bank, 0, 4, -4);
            bank.weeks(2);
            balancesDue(bank, 0, 0, 0);
        });
        says("and a lot that is taken over for its old debtor and against the new one.", () -> {
            FavourRings bank = bankOf(3);
            bank.guarantee(0, 2);
            bank.lend(0, 1, 0, 5);
            bank.weeks(3);
            balancesDue(bank, -5, 5, 0);
            bank.weeks(1);
            balancesDue(bank, 0, 5, -5);
            bank.weeks(4);
            balancesDue(bank, 0, 0, 0);
        });
    }

    private static void settings() {
        in("Settings");
        defines("The settings are (in parentheses: range; first value):");
        says("0 to 3 weeks of the kinds 0 to 3 (1 to 20; 4, 6, 8, 10),", () -> {
            for (int kind = 0; kind < 4; kind++) {
                settingDue(kind, 20, 4 + 2 * kind);
            }
        });
        says("4 the bound of what one owes (1 to 99; 20),", () -> settingDue(4, 99, 20));
        says("5 spoiled favours that are too many (1 to 20; 3).", () -> settingDue(5, 20, 3));
    }

    private static void settingDue(int what, int most, int first) {
        FavourRings bank = new FavourRings();
        due("the first value of " + what, bank.count(20 + what), first);
        due("the greatest value of " + what, bank.set(what, most), first);
        due("the least value of " + what, bank.set(what, 1), most);
        invalid("the setting " + what + " to", value -> bank.set(what, value), 0, -1, most + 1);
        due("it stays", bank.count(20 + what), 1);
        for (int other = 0; other < 6; other++) {
            due("another one stays", bank.count(20 + other), other == what ? 1 : new FavourRings().count(20 + other));
        }
    }
}
