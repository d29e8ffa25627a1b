/** The sentences of the promises 1 to 12: the calls that change something, and what there is. */
abstract class CallSentences extends Sentences {
    static void tell() {
        newObject();
        pupil();
        lend();
        fulfil();
        guarantee();
        weeks();
        holiday();
        clear();
        set();
        pupilOf();
        owes();
        lot();
    }

    private static void newObject() {
        in("Promise 1");
        says("Begins without pupils, no holidays.", () -> {
            FavourRings other = triangle(3, 2, 4);
            other.holiday(true);
            other.type('h');
            FavourRings bank = new FavourRings();
            due("pupils", bank.count(1), 0);
            due("the pupil 0", bank.pupilOf(0, 0), INVALID);
            due("richest(0)", bank.richest(0), NOT_FOUND);
            due("holidays", bank.count(10), 0);
            due("were there holidays", bank.holiday(false), 0);
            for (int what = 0; what <= 13; what++) {
                due("count(" + what + ")", new FavourRings().count(what), 0);
            }
            due("lots", bank.lot(0, 0), NOT_FOUND);
            due("mean", bank.mean(), NOT_FOUND);
            for (int kind = 0; kind < 4; kind++) {
                due("ring", bank.ring(kind, 0), NOT_FOUND);
                due("amount", bank.amount(kind), NOT_FOUND);
                due("deepest", bank.deepest(kind), NOT_FOUND);
                due("clear", bank.clear(kind), 0);
            }
            due("the other one's pupils", other.count(1), 3);
        });
    }

    private static void pupil() {
        in("Promise 2");
        says("Adds a pupil.", () -> {
            FavourRings bank = bankOf(1);
            bank.lend(0, 1, 0, 1);
            due("one pupil lends to nobody", bank.count(2), 0);
            bank.pupil();
            due("pupils", bank.count(1), 2);
            due("two pupils do", bank.lend(0, 1, 0, 1), 1);
            for (int what = 0; what <= 8; what++) {
                int want = what == 1 ? 1 : what == 2 || what == 3 ? 1001 : what == 6 ? NOT_FOUND : 0;
                due("pupilOf(1, " + what + ")", bank.pupilOf(1, what), want);
            }
        });
        says("Returns the number;", () -> {
            FavourRings bank = new FavourRings();
            due("the first one", bank.pupil(), 0);
            due("the second one", bank.pupil(), 1);
            due("the last one", bankOf(7).pupil(), 7);
        });
        says("LIMIT_REACHED if there are 8.", () -> {
            due("of 7", bankOf(7).pupil(), 7);
            FavourRings bank = bankOf(8);
            due("of 8", bank.pupil(), LIMIT);
            due("again", bank.pupil(), LIMIT);
            due("still 8", bank.count(1), 8);
        });
    }

    private static void lend() {
        in("Promise 3");
        says("Lends favours: the creditor did them, and the debtor owes as many.", () -> {
            FavourRings bank = bankOf(3);
            bank.lend(2, 0, 3, 9);
            due("the debtor owes", bank.pupilOf(2, 0), 9);
            due("the creditor is owed", bank.pupilOf(0, 1), 9);
            due("owes", bank.owes(2, 0, 3), 9);
            due("lent so far", bank.count(4), 9);
            due("the other way", bank.owes(0, 2, 3), 0);
        });
        says("debtor: number of a pupil", () -> {
            FavourRings bank = bankOf(8);
            due("the first one", bank.lend(0, 1, 0, 1), 1);
            due("the last one", bank.lend(7, 1, 0, 1), 1);
            invalid("debtor", bad -> bank.lend(bad, 1, 0, 1), -1, 8);
            invalid("of two, debtor", bad -> bankOf(2).lend(bad, 1, 0, 1), -1, 2, 3, 7);
        });
        says("creditor: number of another one", () -> {
            FavourRings bank = bankOf(8);
            due("the first one", bank.lend(1, 0, 0, 1), 1);
            due("the last one", bank.lend(1, 7, 0, 1), 1);
            invalid("creditor", bad -> bank.lend(1, bad, 0, 1), -1, 8, 1);
            invalid("of two, creditor", bad -> bankOf(2).lend(0, bad, 0, 1), -1, 2, 3, 7);
        });
        says("kind: 0 to 3", () -> {
            FavourRings bank = bankOf(2);
            due("0", bank.lend(0, 1, 0, 1), 1);
            due("3", bank.lend(0, 1, 3, 1), 1);
            invalid("kind", bad -> bank.lend(0, 1, bad, 1), -1, 4, 5);
        });
        says("many: 1 to 9", () -> {
            FavourRings bank = bankOf(2);
            due("1", bank.lend(0, 1, 0, 1), 1);
            due("9", bank.lend(0, 1, 0, 9), 10);
            invalid("many", bad -> bank.lend(0, 1, 0, bad), -1, 0, 10);
        });
        says("Returns what the debtor owes the creditor of this kind then;", () -> {
            FavourRings bank = bankOf(3);
            bank.lend(0, 1, 1, 3);
            bank.lend(0, 2, 0, 4);
            bank.lend(1, 0, 0, 5);
            due("the first ones", bank.lend(0, 1, 0, 2), 2);
            due("some more", bank.lend(0, 1, 0, 6), 8);
            bank.fulfil(0, 1, 0, 3);
            due("those that are left too", bank.lend(0, 1, 0, 1), 6);
        });
        says("INVALID_ARGUMENT if an argument is out of range,", () -> {
            FavourRings bank = bankOf(8);
            invalid("all of them", bad -> bank.lend(bad, bad, bad, bad), -1, 8);
            due("lots", bank.count(2), 0);
            due("lent", bank.count(4), 0);
        });
        says("or both are the same;", () -> {
            FavourRings bank = bankOf(8);
            eachDue("the same", INVALID, same -> bank.lend(same, same, 0, 1), 0, 1, 6, 7);
        });
        says("NOT_POSSIBLE for the reasons 1 and 2;", () -> {
            FavourRings bank = bankOf(2);
            bank.set(4, 9);
            due("as many as the bound", bank.lend(0, 1, 0, 9), 9);
            due("one more, the reason 1", bank.lend(0, 1, 0, 1), NOT_POSSIBLE);
            bank.weeks(4);
            due("9 spoiled, the reason 2", bank.lend(0, 1, 0, 1), NOT_POSSIBLE);
            bank.set(5, 10);
            due("one less than the setting", bank.lend(0, 1, 0, 9), 9);
        });
        says("LIMIT_REACHED if there are 40 lots.", () -> {
            due("of 39", bankOfLots(39).lend(2, 0, 0, 9), 9);
            FavourRings bank = bankOfLots(40);
            due("of 40", bank.lend(2, 0, 0, 9), LIMIT);
            bank.fulfil(0, 2, 0, 1);
            due("of 39 again", bank.lend(2, 0, 0, 9), 9);
            due("of 40 again", bank.lend(2, 0, 0, 1), LIMIT);
            bank.weeks(4);
            due("of none", bank.lend(2, 0, 0, 1), NOT_POSSIBLE);
            bank.guarantee(2, 0);
            due("of none, with a guarantor", bank.lend(2, 0, 0, 1), 1);
        });
    }

    private static void fulfil() {
        in("Promise 4");
        says("A debtor does favours that are owed.", () -> {
            FavourRings bank = bankOf(3);
            bank.lend(0, 1, 2, 5);
            bank.fulfil(0, 1, 2, 2);
            due("owes", bank.owes(0, 1, 2), 3);
            due("done by the debtor", bank.pupilOf(0, 4), 2);
            due("not by the creditor", bank.pupilOf(1, 4), 0);
            due("done", bank.count(5), 2);
            due("lent so far", bank.count(4), 5);
            due("the guarantor's too", youngestFirst().fulfil(1, 2, 0, 9), 6);
        });
        says("debtor: number of a pupil", () -> {
            FavourRings bank = bankOf(8);
            circle(bank, 0, 1, 0, 7);
            due("the first one", bank.fulfil(0, 7, 0, 1), 0);
            due("the last one", bank.fulfil(7, 0, 0, 1), 0);
            invalid("debtor", bad -> bank.fulfil(bad, 1, 0, 1), -1, 8);
        });
        says("creditor: number of another one", () -> {
            FavourRings bank = bankOf(8);
            circle(bank, 0, 1, 7, 0);
            invalid("creditor", bad -> bank.fulfil(7, bad, 0, 1), -1, 8, 7);
            due("the first one", bank.fulfil(7, 0, 0, 1), 0);
            due("the last one", bank.fulfil(0, 7, 0, 1), 0);
        });
        says("kind: 0 to 3", () -> {
            FavourRings bank = bankOf(2);
            bank.lend(0, 1, 0, 1);
            bank.lend(0, 1, 3, 1);
            invalid("kind", bad -> bank.fulfil(0, 1, bad, 1), -1, 4, 5);
            due("0", bank.fulfil(0, 1, 0, 1), 0);
            due("3", bank.fulfil(0, 1, 3, 1), 0);
        });
        says("many: 1 to 9", () -> {
            FavourRings bank = bankOf(2);
            bank.lend(0, 1, 0, 9);
            bank.lend(0, 1, 0, 8);
            invalid("many", bad -> bank.fulfil(0, 1, 0, bad), -1, 0, 10);
            due("9", bank.fulfil(0, 1, 0, 9), 8);
            due("1", bank.fulfil(0, 1, 0, 1), 7);
        });
        says("Returns what the debtor owes the creditor of this kind then;", () -> {
            FavourRings bank = bankOf(3);
            bank.lend(0, 1, 1, 3);
            bank.lend(0, 2, 0, 4);
            bank.lend(1, 0, 0, 5);
            bank.lend(0, 1, 0, 2);
            bank.lend(0, 1, 0, 6);
            due("some", bank.fulfil(0, 1, 0, 3), 5);
            due("all", bank.fulfil(0, 1, 0, 5), 0);
        });
        says("INVALID_ARGUMENT if an argument is out of range,", () -> {
            FavourRings bank = triangle(3, 2, 4);
            invalid("all of them", bad -> bank.fulfil(bad, bad, bad, bad), -1, 3);
            due("done", bank.count(5), 0);
            due("owed", bank.count(3), 9);
        });
        says("or both are the same;", () -> {
            FavourRings bank = bankOf(8);
            eachDue("the same", INVALID, same -> bank.fulfil(same, same, 0, 1), 0, 1, 6, 7);
        });
        says("NOT_POSSIBLE if it is less than many now.", () -> {
            FavourRings bank = bankOf(3);
            due("nothing is owed", bank.fulfil(0, 1, 0, 1), NOT_POSSIBLE);
            bank.lend(0, 1, 0, 2);
            bank.lend(0, 1, 0, 3);
            bank.lend(0, 1, 1, 9);
            bank.lend(1, 0, 0, 9);
            bank.lend(0, 2, 0, 5);
            due("one more", bank.fulfil(0, 1, 0, 6), NOT_POSSIBLE);
            due("nothing was done", bank.owes(0, 1, 0), 5);
            due("as many", bank.fulfil(0, 1, 0, 5), 0);
            due("none is left", bank.fulfil(0, 1, 0, 1), NOT_POSSIBLE);
        });
    }

    private static void guarantee() {
        in("Promise 5");
        says("Gives a pupil another guarantor, or none.", () -> {
            FavourRings bank = bankOf(8);
            bank.guarantee(3, 7);
            due("one", bank.pupilOf(3, 6), 7);
            bank.guarantee(3, 0);
            due("another one", bank.pupilOf(3, 6), 0);
            due("others have none", bank.count(11), 255 - 8);
            bank.guarantee(3, -1);
            due("none", bank.pupilOf(3, 6), NOT_FOUND);
        });
        says("pupil: number of the pupil", () -> {
            FavourRings bank = bankOf(8);
            due("the first one", bank.guarantee(0, 1), 0);
            due("the last one", bank.guarantee(7, 1), 0);
            invalid("pupil", bad -> bank.guarantee(bad, 1), -1, 8);
            invalid("pupil without one", bad -> bank.guarantee(bad, -1), -1, 8);
        });
        says("guarantor: number of another one; -1: none", () -> {
            FavourRings bank = bankOf(8);
            due("none", bank.guarantee(1, -1), 0);
            due("the first one", bank.guarantee(1, 0), 0);
            due("the last one", bank.guarantee(1, 7), 1);
            invalid("guarantor", bad -> bank.guarantee(1, bad), -2, 8, 1);
            due("none again", bank.guarantee(1, -1), 8);
        });
        says("Returns the guarantor before and 1, together (0: none);", () -> {
            FavourRings bank = bankOf(8);
            due("none before", bank.guarantee(4, 0), 0);
            due("0 before", bank.guarantee(4, 7), 1);
            due("7 before", bank.guarantee(4, 7), 8);
            due("the same before", bank.guarantee(4, -1), 8);
            due("none before, none then", bank.guarantee(4, -1), 0);
        });
        says("INVALID_ARGUMENT if an argument is out of range,", () -> {
            FavourRings bank = bankOf(2);
            bank.guarantee(0, 1);
            invalid("both of them", bad -> bank.guarantee(bad, bad), -1, -2, 2);
            invalid("pupil", bad -> bank.guarantee(bad, 0), -1, 2, 7, 8);
            invalid("guarantor", bad -> bank.guarantee(0, bad), -2, 2, 7, 8);
            due("the guarantor stays", bank.pupilOf(0, 6), 1);
        });
        says("or both are the same.", () -> {
            FavourRings bank = bankOf(8);
            eachDue("the same", INVALID, same -> bank.guarantee(same, same), 0, 1, 6, 7);
        });
    }

    private static void weeks() {
        in("Promise 6");
        says("Lets weeks end.", () -> {
            FavourRings bank = bankOf(2);
            bank.lend(0, 1, 3, 1);
            bank.weeks(1);
            due("one", bank.lot(0, 4), 1);
            bank.weeks(8);
            due("nine", bank.lot(0, 4), 9);
            due("count(0)", bank.count(0), 9);
        });
        says("many: 1 to 20", () -> {
            FavourRings bank = bankOf(1);
            due("1", bank.weeks(1), 0);
            due("20", bank.weeks(20), 0);
            due("count(0)", bank.count(0), 21);
        });
        says("Returns how many favours spoil in them;", () -> {
            FavourRings bank = bankOf(3);
            bank.lend(0, 1, 0, 1);
            bank.lend(0, 1, 1, 2);
            bank.lend(1, 2, 3, 4);
            due("none", bank.weeks(3), 0);
            due("of one of them", bank.weeks(1), 1);
            due("of several of them", bank.weeks(6), 6);
            due("none is left", bank.weeks(20), 0);
            FavourRings taken = bankOf(3);
            taken.guarantee(0, 2);
            taken.lend(0, 1, 0, 5);
            due("taken over, not spoiled", taken.weeks(7), 0);
            due("then spoiled", taken.weeks(1), 5);
            taken.lend(0, 1, 0, 3);
            due("both in one call", taken.weeks(8), 3);
            due("all of 360", fullOfFavours().weeks(20), 360);
        });
        says("INVALID_ARGUMENT if many is out of range;", () -> {
            FavourRings bank = bankOf(1);
            invalid("many", bad -> bank.weeks(bad), -1, 0, 21);
            due("no week ended", bank.count(0), 0);
        });
        says("LIMIT_REACHED if more than 999 weeks would have ended.", () -> {
            FavourRings bank = letWeeksEnd(bankOf(2), 980);
            bank.lend(0, 1, 0, 2);
            due("to 1000", bank.weeks(20), LIMIT);
            due("none ended", bank.count(0), 980);
            due("no lot grew old", bank.lot(0, 4), 0);
            due("to 999", bank.weeks(19), 2);
            due("999", bank.count(0), 999);
            due("one more", bank.weeks(1), LIMIT);
            due("twenty more", bank.weeks(20), LIMIT);
            bank.holiday(true);
            due("in holidays too", bank.weeks(1), LIMIT);
            due("998 and 1", letWeeksEnd(bankOf(1), 998).weeks(1), 0);
            due("998 and 2", letWeeksEnd(bankOf(1), 998).weeks(2), LIMIT);
        });
    }

    private static void holiday() {
        in("Promise 7");
        says("Lets holidays begin, or end.", () -> {
            FavourRings bank = bankOf(2);
            bank.lend(0, 1, 0, 2);
            bank.holiday(true);
            due("begun", bank.count(10), 1);
            due("nothing spoils", bank.weeks(20), 0);
            bank.holiday(false);
            due("ended", bank.count(10), 0);
            due("a week less", bank.weeks(3), 0);
            due("it spoils", bank.weeks(1), 2);
        });
        says("isOn: whether there are holidays then", () -> {
            FavourRings bank = new FavourRings();
            bank.holiday(false);
            due("none", bank.count(10), 0);
            bank.holiday(true);
            bank.holiday(true);
            due("twice begun", bank.count(10), 1);
            bank.holiday(false);
            due("once ended", bank.count(10), 0);
        });
        says("Returns 1 if there were, otherwise 0.", () -> {
            FavourRings bank = new FavourRings();
            due("none at first, none then", bank.holiday(false), 0);
            due("none, begun", bank.holiday(true), 0);
            due("there were, begun again", bank.holiday(true), 1);
            due("there were, ended", bank.holiday(false), 1);
            due("none, ended again", bank.holiday(false), 0);
        });
    }

    private static void clear() {
        in("Promise 8");
        says("Clears a kind.", () -> {
            FavourRings bank = bankOf(2);
            circle(bank, 0, 2, 0, 1);
            circle(bank, 3, 4, 0, 1);
            bank.clear(3);
            due("kind 3", bank.owes(0, 1, 3) + bank.owes(1, 0, 3), 0);
            due("kind 0 stays", bank.owes(0, 1, 0) + bank.owes(1, 0, 0), 4);
            bank.clear(0);
            due("kind 0", bank.count(3), 0);
        });
        says("kind: 0 to 3", () -> {
            FavourRings bank = bankOf(2);
            for (int kind = 0; kind < 4; kind++) {
                circle(bank, kind, kind + 1, 0, 1);
                due("kind " + kind, bank.clear(kind), 2 * kind + 2);
            }
        });
        says("Returns how many favours are cleared, all together (of each ring its amount for each of its pupils);",
            () -> {
            due("none", bankOf(2).clear(0), 0);
            due("of three pupils", triangle(3, 2, 4).clear(0), 6);
            FavourRings bank = triangle(3, 2, 4);
            bank.lend(1, 0, 0, 1);
            due("of two rings", bank.clear(0), 8);
            due("nothing more", bank.clear(0), 0);
            FavourRings eight = bankOf(8);
            circle(eight, 0, 9, 0, 1, 2, 3, 4, 5, 6, 7);
            due("of eight pupils", eight.clear(0), 72);
        });
        says("INVALID_ARGUMENT if kind is out of range.", () -> {
            FavourRings bank = triangle(3, 2, 4);
            invalid("kind", bad -> bank.clear(bad), -1, 4, 5);
            due("nothing is cleared", bank.count(3), 9);
        });
    }

    private static void set() {
        in("Promise 9");
        says("Sets a setting.", () -> {
            FavourRings bank = new FavourRings();
            for (int what = 0; what < 6; what++) {
                bank.set(what, 11 + what);
            }
            for (int what = 0; what < 6; what++) {
                due("the setting " + what, bank.count(20 + what), 11 + what);
            }
        });
        says("what: 0 to 5", () -> {
            FavourRings bank = new FavourRings();
            due("0", bank.set(0, 1), 4);
            due("5", bank.set(5, 1), 3);
            invalid("what", bad -> bank.set(bad, 1), -1, 6, 7, 20);
        });
        says("value: a value in its range", () -> {
            FavourRings bank = new FavourRings();
            for (int what = 0; what < 6; what++) {
                int most = what == 4 ? 99 : 20;
                bank.set(what, 1);
                due("the least one of " + what, bank.count(20 + what), 1);
                bank.set(what, most);
                due("the greatest one of " + what, bank.count(20 + what), most);
            }
        });
        says("Returns what it was;", () -> {
            FavourRings bank = new FavourRings();
            due("at first", bank.set(4, 7), 20);
            due("then", bank.set(4, 7), 7);
            due("the same before", bank.set(4, 99), 7);
            due("then again", bank.set(4, 1), 99);
        });
        says("INVALID_ARGUMENT if an argument is out of range.", () -> {
            FavourRings bank = new FavourRings();
            for (int setting = 0; setting < 6; setting++) {
                int what = setting;
                invalid("the value of " + what, bad -> bank.set(what, bad), -1, 0, what == 4 ? 100 : 21);
            }
            invalid("both of them", bad -> bank.set(bad, bad), -1, 100);
            int[] first = {4, 6, 8, 10, 20, 3};
            for (int what = 0; what < 6; what++) {
                due("it stays", bank.count(20 + what), first[what]);
            }
        });
    }

    private static void pupilOf() {
        in("Promise 10");
        says("Returns something of a pupil.", () -> {
            FavourRings bank = bankOf(8);
            bank.lend(7, 0, 0, 3);
            int[] first = {0, 3, 1003, 1003, 0, 0, NOT_FOUND, 0, 0};
            int[] last = {3, 0, 997, 997, 0, 0, NOT_FOUND, 0, 0};
            for (int what = 0; what <= 8; what++) {
                due("pupilOf(0, " + what + ")", bank.pupilOf(0, what), first[what]);
                due("pupilOf(7, " + what + ")", bank.pupilOf(7, what), last[what]);
            }
        });
        says("pupil: number of the pupil", () -> {
            invalid("pupil", bad -> bankOf(8).pupilOf(bad, 0), -1, 8);
            invalid("of two, pupil", bad -> bankOf(2).pupilOf(bad, 6), -1, 2, 7);
        });
        says("what: 0: what the pupil owes;", () -> {
            FavourRings bank = full();
            due("all kinds", bank.pupilOf(0, 0), 10);
            due("nothing", bank.pupilOf(3, 0), 0);
        });
        says("1: what others owe the pupil;", () -> {
            FavourRings bank = full();
            due("all kinds", bank.pupilOf(0, 1), 5);
            due("nothing", bank.pupilOf(3, 1), 0);
        });
        says("2: 1000 and the balance, together, told by the lots;", () -> {
            FavourRings bank = full();
            due("below 1000", bank.pupilOf(0, 2), 995);
            due("above 1000", bank.pupilOf(1, 2), 1005);
            due("1000", bank.pupilOf(3, 2), 1000);
        });
        says("3: the same, told by what came;", () -> {
            FavourRings bank = full();
            for (int step = 0; step < 3; step++) {
                for (int pupil = 0; pupil < 4; pupil++) {
                    due("as by the lots", bank.pupilOf(pupil, 3), bank.pupilOf(pupil, 2));
                }
                bank.guarantee(0, 3);
                due("something changes", step == 0 ? bank.clear(0) : bank.weeks(4), step == 0 ? 4 : step == 1 ? 0 : 8);
            }
        });
        says("4: favours done by fulfil() so far, as the debtor;", () -> {
            FavourRings bank = full();
            due("none", bank.pupilOf(0, 4), 0);
            bank.fulfil(0, 1, 0, 1);
            bank.fulfil(0, 1, 3, 2);
            due("two kinds", bank.pupilOf(0, 4), 3);
            due("not the creditor", bank.pupilOf(1, 4), 0);
            bank.clear(0);
            due("not cleared ones", bank.pupilOf(0, 4), 3);
            play(bank, "d0,1,3,1;");
            due("those of orders too", bank.pupilOf(0, 4), 4);
        });
        says("5: favours that spoiled so far, as the debtor;", () -> {
            FavourRings bank = full();
            bank.weeks(4);
            due("of kind 0", bank.pupilOf(0, 5), 4);
            due("of another one", bank.pupilOf(1, 5), 2);
            due("of none", bank.pupilOf(3, 5), 0);
            bank.weeks(6);
            due("of kind 3 too", bank.pupilOf(0, 5), 10);
        });
        says("6: the guarantor;", () -> {
            FavourRings bank = bankOf(8);
            bank.guarantee(0, 7);
            bank.guarantee(7, 0);
            due("of the first one", bank.pupilOf(0, 6), 7);
            due("of the last one", bank.pupilOf(7, 6), 0);
        });
        says("7: favours taken over as a guarantor so far;", () -> {
            FavourRings bank = full();
            bank.guarantee(0, 3);
            bank.guarantee(1, 3);
            bank.weeks(4);
            due("of two pupils", bank.pupilOf(3, 7), 6);
            due("not of their own", bank.pupilOf(0, 7) + bank.pupilOf(1, 7), 0);
            bank.weeks(4);
            due("three more, also if the others spoiled", bank.pupilOf(3, 7), 9);
        });
        says("8: favours cleared as a debtor so far", () -> {
            FavourRings bank = full();
            due("none", bank.pupilOf(0, 8), 0);
            bank.clear(0);
            due("one of two", bank.pupilOf(0, 8), 2);
            due("the other one", bank.pupilOf(1, 8), 2);
            due("not in the ring", bank.pupilOf(2, 8), 0);
            circle(bank, 1, 3, 0, 3);
            bank.clear(1);
            due("so far", bank.pupilOf(0, 8), 5);
        });
        says("Returns the number;", () -> {
            FavourRings bank = fullOfFavours();
            due("owes the most", bank.pupilOf(0, 0), 45);
            due("is owed the most", bank.pupilOf(7, 1), 45);
            due("its balance", bank.pupilOf(7, 2), 1000);
        });
        says("INVALID_ARGUMENT if an argument is out of range;", () -> {
            FavourRings bank = full();
            invalid("what", bad -> bank.pupilOf(0, bad), -1, 9, 10);
            invalid("pupil", bad -> bank.pupilOf(bad, 2), -1, 4);
            invalid("both of them", bad -> bank.pupilOf(bad, bad), -1, 9);
        });
        says("NOT_FOUND for 6 without one.", () -> {
            FavourRings bank = bankOf(8);
            due("at first", bank.pupilOf(0, 6), NOT_FOUND);
            bank.guarantee(0, 7);
            due("the other one", bank.pupilOf(7, 6), NOT_FOUND);
            bank.guarantee(0, -1);
            due("none again", bank.pupilOf(0, 6), NOT_FOUND);
        });
    }

    /** A ring of 0 and 1 of kind 0, lots of the kinds 1 and 3, and the pupil 3, who owes nothing. */
    private static FavourRings full() {
        FavourRings bank = bankOf(4);
        bank.lend(0, 1, 0, 4);
        bank.lend(1, 0, 0, 2);
        bank.lend(0, 1, 3, 6);
        bank.lend(2, 0, 1, 3);
        bank.lend(1, 2, 1, 3);
        return bank;
    }

    private static void owes() {
        in("Promise 11");
        says("Returns what a pupil owes another one of a kind.", () -> {
            FavourRings bank = full();
            due("kind 0", bank.owes(0, 1, 0), 4);
            due("kind 3", bank.owes(0, 1, 3), 6);
            due("another way", bank.owes(1, 0, 0), 2);
            bank.lend(0, 1, 0, 5);
            due("of two lots", bank.owes(0, 1, 0), 9);
        });
        says("debtor: number of a pupil", () -> {
            FavourRings bank = bankOf(8);
            circle(bank, 0, 2, 0, 7);
            due("the first one", bank.owes(0, 7, 0), 2);
            due("the last one", bank.owes(7, 0, 0), 2);
            invalid("debtor", bad -> bank.owes(bad, 0, 0), -1, 8);
        });
        says("creditor: number of a pupil", () -> {
            FavourRings bank = bankOf(8);
            circle(bank, 0, 2, 0, 7);
            due("the last one", bank.owes(0, 7, 0), 2);
            due("the first one", bank.owes(7, 0, 0), 2);
            invalid("creditor", bad -> bank.owes(0, bad, 0), -1, 8);
        });
        says("kind: 0 to 3", () -> {
            FavourRings bank = bankOf(2);
            bank.lend(0, 1, 0, 1);
            bank.lend(0, 1, 3, 2);
            due("0", bank.owes(0, 1, 0), 1);
            due("3", bank.owes(0, 1, 3), 2);
            due("none of a kind", bank.owes(0, 1, 2), 0);
            invalid("kind", bad -> bank.owes(0, 1, bad), -1, 4);
        });
        says("Returns how many favours, 0 for oneself;", () -> {
            FavourRings bank = fullOfFavours();
            for (int pupil = 0; pupil < 8; pupil++) {
                due("oneself", bank.owes(pupil, pupil, pupil % 4), 0);
            }
            due("none", full().owes(0, 3, 0), 0);
        });
        says("INVALID_ARGUMENT if an argument is out of range.", () -> {
            FavourRings bank = full();
            invalid("all of them", bad -> bank.owes(bad, bad, bad), -1, 4);
            invalid("oneself, of a kind", bad -> bank.owes(0, 0, bad), -1, 4);
            invalid("oneself", bad -> bank.owes(bad, bad, 0), -1, 4);
        });
    }

    private static void lot() {
        in("Promise 12");
        says("Returns something of a lot.", () -> {
            FavourRings bank = full();
            lotDue(bank, 0, 0, 1, 0, 4, 0, 0);
            lotDue(bank, 2, 0, 1, 3, 6, 0, 0);
            lotDue(bank, 4, 1, 2, 1, 3, 0, 0);
        });
        says("place: its place in the order, from 0", () -> {
            FavourRings bank = bankOfLots(40);
            due("the first one", bank.lot(0, 0), 0);
            due("the twentieth one", bank.lot(19, 0), 0);
            due("the next one", bank.lot(20, 0), 1);
            due("the last one", bank.lot(39, 0), 1);
        });
        says("what: 0: the debtor;", () -> {
            due("of the first lot", full().lot(0, 0), 0);
            due("of the last lot", full().lot(4, 0), 1);
        });
        says("1: the creditor;", () -> {
            due("of the second lot", full().lot(1, 1), 0);
            due("of the last lot", full().lot(4, 1), 2);
        });
        says("2: the kind;", () -> {
            due("0", full().lot(0, 2), 0);
            due("3", full().lot(2, 2), 3);
        });
        says("3: how many;", () -> {
            FavourRings bank = bankOf(2);
            bank.lend(0, 1, 0, 9);
            bank.lend(0, 1, 0, 1);
            due("the most", bank.lot(0, 3), 9);
            due("the least", bank.lot(1, 3), 1);
            bank.fulfil(0, 1, 0, 8);
            due("one is left", bank.lot(0, 3), 1);
        });
        says("4: the age;", () -> {
            FavourRings bank = bankOf(2);
            bank.set(3, 20);
            bank.lend(0, 1, 3, 1);
            due("at first", bank.lot(0, 4), 0);
            bank.weeks(19);
            due("at last", bank.lot(0, 4), 19);
        });
        says("5: 1 if it was taken over, otherwise 0", () -> {
            FavourRings bank = youngestFirst();
            due("taken over", bank.lot(0, 5), 1);
            due("not taken over", bank.lot(1, 5), 0);
        });
        says("Returns the number;", () -> {
            FavourRings bank = fullOfFavours();
            lotDue(bank, 39, 7, 4, 3, 9, 0, 0);
        });
        says("INVALID_ARGUMENT if place is below 0,", () -> {
            FavourRings bank = full();
            eachDue("place", INVALID, place -> bank.lot(place, 0), -1, -2, LEAST);
            eachDue("place without lots", INVALID, place -> new FavourRings().lot(place, 0), -1, LEAST);
        });
        says("or what is out of range;", () -> {
            FavourRings bank = full();
            invalid("what", bad -> bank.lot(0, bad), -1, 6);
            invalid("what of no lot", bad -> bank.lot(5, bad), -1, 6);
        });
        says("NOT_FOUND if there are not so many lots.", () -> {
            eachDue("of none", NOT_FOUND, place -> bankOf(2).lot(place, 0), 0, 1, MOST);
            FavourRings bank = full();
            eachDue("of five", NOT_FOUND, place -> bank.lot(place, 3), 5, 6, 39, 40, MOST);
            bank.fulfil(1, 2, 1, 3);
            due("of four", bank.lot(4, 3), NOT_FOUND);
            due("the last one of four", bank.lot(3, 3), 3);
            FavourRings many = bankOfLots(40);
            eachDue("of forty", NOT_FOUND, place -> many.lot(place, 0), 40, 41, 256, MOST);
        });
    }
}
