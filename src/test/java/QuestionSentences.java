/** The sentences of the promises 13 to 27: what would be, undo, and the calls of texts. */
abstract class QuestionSentences extends Sentences {
    static void tell() {
        why();
        ring();
        amount();
        ifCleared();
        chain();
        deepest();
        spoilsIn();
        richest();
        mean();
        count();
        countSoFar();
        countWhatThereIs();
        undo();
        type();
        clearText();
        fault();
        play();
    }

    private static void why() {
        in("Promise 13");
        says("Tells why favours are not lent.", () -> {
            FavourRings bank = bankOf(2);
            bank.lend(0, 1, 0, 3);
            bank.weeks(4);
            bank.set(4, 5);
            due("the reason 1", bank.why(0, 6), 1);
            due("the reason 2", bank.why(0, 5), 2);
            due("nothing is lent", bank.count(4), 3);
        });
        says("debtor: number of a pupil", () -> {
            FavourRings bank = bankOf(8);
            due("the first one", bank.why(0, 1), 0);
            due("the last one", bank.why(7, 1), 0);
            invalid("debtor", bad -> bank.why(bad, 1), -1, 8);
        });
        says("many: 1 to 9", () -> {
            FavourRings bank = bankOf(1);
            due("1", bank.why(0, 1), 0);
            due("9", bank.why(0, 9), 0);
            invalid("many", bad -> bank.why(0, bad), -1, 0, 10);
        });
        says("Returns the reason, 0 if there is none (lots aside);", () -> {
            FavourRings bank = bankOfLots(40);
            due("with 40 lots", bank.why(2, 9), 0);
            due("it is not lent", bank.lend(2, 0, 0, 9), LIMIT);
            due("with the reason 1 too", bank.why(0, 1), 1);
        });
        says("INVALID_ARGUMENT if an argument is out of range.", () -> {
            FavourRings bank = bankOf(3);
            bank.set(4, 1);
            invalid("both of them", bad -> bank.why(bad, bad), -1, 0, 10);
            due("ahead of the reason 1", bank.why(0, 10), INVALID);
        });
    }

    private static void ring() {
        in("Promise 14");
        says("Returns a pupil of the next ring of a kind.", () -> {
            FavourRings bank = bankOf(4);
            circle(bank, 2, 1, 3, 1, 2);
            ringDue(bank, 2, 1, 2, 3);
            bank.clear(2);
            ringDue(bank, 2);
        });
        says("kind: 0 to 3", () -> {
            for (int kind = 0; kind < 4; kind++) {
                FavourRings bank = bankOf(3);
                circle(bank, kind, 1, 2, 1);
                for (int other = 0; other < 4; other++) {
                    due("ring of kind " + other, bank.ring(other, 0), other == kind ? 1 : NOT_FOUND);
                }
            }
        });
        says("place: 0 for the first one, and so on", () -> {
            FavourRings bank = bankOf(8);
            circle(bank, 0, 1, 0, 7, 1, 6, 2, 5, 3, 4);
            ringDue(bank, 0, 0, 7, 1, 6, 2, 5, 3, 4);
        });
        says("Returns the pupil;", () -> {
            FavourRings bank = bankOf(8);
            circle(bank, 0, 1, 7, 0);
            ringDue(bank, 0, 0, 7);
        });
        says("INVALID_ARGUMENT if kind is out of range,", () -> {
            FavourRings bank = triangle(3, 2, 4);
            invalid("kind", bad -> bank.ring(bad, 0), -1, 4, 5);
        });
        says("or place is below 0;", () -> {
            FavourRings bank = triangle(3, 2, 4);
            eachDue("place", INVALID, place -> bank.ring(0, place), -1, -2, LEAST);
            eachDue("place without a ring", INVALID, place -> bank.ring(1, place), -1, LEAST);
        });
        says("NOT_FOUND without a ring,", () -> {
            due("without pupils", new FavourRings().ring(0, 0), NOT_FOUND);
            due("without lots", bankOf(8).ring(3, 0), NOT_FOUND);
            FavourRings bank = triangle(3, 2, 4);
            due("of another kind", bank.ring(1, 0), NOT_FOUND);
            due("a ring was asked for before", bank.ring(0, 2), 2);
            due("of another kind then", bank.ring(3, 2), NOT_FOUND);
            bank.fulfil(0, 1, 0, 3);
            due("an open one", bank.ring(0, 0), NOT_FOUND);
        });
        says("or if it has not so many.", () -> {
            FavourRings bank = triangle(3, 2, 4);
            due("the last one", bank.ring(0, 2), 2);
            eachDue("place", NOT_FOUND, place -> bank.ring(0, place), 3, 4, 7, 8, MOST);
            FavourRings eight = bankOf(8);
            circle(eight, 0, 1, 0, 1, 2, 3, 4, 5, 6, 7);
            due("the last one of eight", eight.ring(0, 7), 7);
            eachDue("place of eight", NOT_FOUND, place -> eight.ring(0, place), 8, 9, MOST);
            FavourRings two = bankOf(2);
            circle(two, 0, 1, 0, 1);
            due("of two", two.ring(0, 2), NOT_FOUND);
        });
    }

    private static void amount() {
        in("Promise 15");
        says("Returns the amount of the next ring of a kind.", () -> {
            FavourRings bank = triangle(3, 2, 4);
            due("of three", bank.amount(0), 2);
            bank.lend(1, 0, 0, 1);
            due("of the shorter one", bank.amount(0), 1);
        });
        says("kind: 0 to 3", () -> {
            for (int kind = 0; kind < 4; kind++) {
                FavourRings bank = bankOf(2);
                circle(bank, kind, 5, 0, 1);
                for (int other = 0; other < 4; other++) {
                    due("amount(" + other + ")", bank.amount(other), other == kind ? 5 : NOT_FOUND);
                }
            }
        });
        says("Returns the amount;", () -> {
            due("the least one", triangle(1, 1, 1).amount(0), 1);
            FavourRings bank = bankOf(2);
            bank.set(4, 99);
            for (int i = 0; i < 10; i++) {
                circle(bank, 0, 9, 0, 1);
            }
            due("of many lots", bank.amount(0), 90);
        });
        says("INVALID_ARGUMENT if kind is out of range;", () -> {
            FavourRings bank = triangle(3, 2, 4);
            invalid("kind", bad -> bank.amount(bad), -1, 4, 5);
        });
        says("NOT_FOUND without a ring.", () -> {
            due("without pupils", new FavourRings().amount(0), NOT_FOUND);
            FavourRings bank = triangle(3, 2, 4);
            due("of another kind", bank.amount(1), NOT_FOUND);
            bank.clear(0);
            due("cleared", bank.amount(0), NOT_FOUND);
        });
    }

    private static void ifCleared() {
        in("Promise 16");
        says("Tells what clearing a kind would bring.", () -> {
            FavourRings bank = triangle(3, 2, 4);
            bank.type('h');
            int[] before = recorded(bank);
            due("favours", bank.ifCleared(0, 0), 6);
            due("rings", bank.ifCleared(0, 1), 1);
            due("lots", bank.ifCleared(0, 2), 2);
            sameDue("nothing is cleared", before, recorded(bank));
            due("states", bank.count(12), 4);
            due("the text", bank.count(13), 1);
            due("clear brings it", bank.clear(0), 6);
            due("rings then", bank.count(9), 1);
            due("lots then", bank.count(2), 2);
        });
        says("kind: 0 to 3", () -> {
            FavourRings bank = bankOf(2);
            for (int kind = 0; kind < 4; kind++) {
                circle(bank, kind, kind + 1, 0, 1);
            }
            for (int kind = 0; kind < 4; kind++) {
                due("of kind " + kind, bank.ifCleared(kind, 0), 2 * kind + 2);
            }
        });
        says("what: 0: the favours that would be cleared;", () -> {
            FavourRings bank = triangle(3, 2, 4);
            bank.lend(1, 0, 0, 1);
            due("of two rings", bank.ifCleared(0, 0), 8);
            due("of none", bank.ifCleared(1, 0), 0);
            bank.clear(0);
            due("cleared before", bank.ifCleared(0, 0), 0);
        });
        says("1: rings;", () -> {
            FavourRings bank = triangle(3, 2, 4);
            bank.lend(1, 0, 0, 1);
            due("two", bank.ifCleared(0, 1), 2);
            due("none", bank.ifCleared(1, 1), 0);
            bank.clear(0);
            due("cleared before", bank.ifCleared(0, 1), 0);
        });
        says("2: lots that would be left, of all kinds", () -> {
            FavourRings bank = triangle(3, 2, 4);
            bank.lend(1, 0, 2, 1);
            due("of the kind, and another", bank.ifCleared(0, 2), 3);
            due("without a ring all", bank.ifCleared(1, 2), 4);
            due("none", triangle(2, 2, 2).ifCleared(0, 2), 0);
            due("without lots", bankOf(2).ifCleared(0, 2), 0);
            due("all of forty", bankOfLots(40).ifCleared(3, 2), 40);
        });
        says("Returns the number;", () -> {
            FavourRings bank = bankOf(8);
            circle(bank, 3, 9, 0, 1, 2, 3, 4, 5, 6, 7);
            due("favours of eight", bank.ifCleared(3, 0), 72);
            due("one ring", bank.ifCleared(3, 1), 1);
            due("no lots", bank.ifCleared(3, 2), 0);
        });
        says("INVALID_ARGUMENT if an argument is out of range.", () -> {
            FavourRings bank = triangle(3, 2, 4);
            invalid("kind", bad -> bank.ifCleared(bad, 0), -1, 4);
            invalid("what", bad -> bank.ifCleared(0, bad), -1, 3);
            invalid("both of them", bad -> bank.ifCleared(bad, bad), -1, 4);
        });
    }

    private static void chain() {
        in("Promise 17");
        says("Tells by how few steps a pupil owes another one, of a kind:", () -> {
            FavourRings bank = bankOf(8);
            for (int pupil = 0; pupil < 7; pupil++) {
                bank.lend(pupil, pupil + 1, 1, 1);
            }
            for (int pupil = 1; pupil < 8; pupil++) {
                due("from 0 to " + pupil, bank.chain(0, pupil, 1), pupil);
            }
            bank.lend(2, 6, 1, 1);
            due("a shorter way", bank.chain(0, 7, 1), 4);
            bank.lend(0, 7, 2, 1);
            due("by another kind", bank.chain(0, 7, 1), 4);
            bank.lend(0, 7, 1, 1);
            due("the shortest way", bank.chain(0, 7, 1), 1);
        });
        says("1 if something is owed to that one,", () -> {
            FavourRings bank = bankOf(3);
            bank.lend(2, 0, 0, 1);
            due("one favour", bank.chain(2, 0, 0), 1);
            due("not the other way", bank.chain(0, 2, 0), NOT_FOUND);
        });
        says("2 if something is owed to one who owes that one, and so on.", () -> {
            FavourRings bank = bankOf(5);
            bank.lend(4, 3, 0, 1);
            bank.lend(3, 0, 0, 1);
            due("2", bank.chain(4, 0, 0), 2);
            bank.lend(0, 1, 0, 1);
            due("3", bank.chain(4, 1, 0), 3);
            bank.lend(1, 2, 0, 1);
            due("4", bank.chain(4, 2, 0), 4);
        });
        says("debtor: number of a pupil", () -> {
            FavourRings bank = bankOf(8);
            circle(bank, 0, 1, 0, 7);
            due("the first one", bank.chain(0, 7, 0), 1);
            due("the last one", bank.chain(7, 0, 0), 1);
            invalid("debtor", bad -> bank.chain(bad, 0, 0), -1, 8);
        });
        says("creditor: number of another one", () -> {
            FavourRings bank = bankOf(8);
            circle(bank, 0, 1, 0, 3, 7);
            due("the last one", bank.chain(0, 7, 0), 2);
            due("the first one", bank.chain(3, 0, 0), 2);
            invalid("creditor", bad -> bank.chain(0, bad, 0), -1, 8, 0);
        });
        says("kind: 0 to 3", () -> {
            FavourRings bank = bankOf(2);
            bank.lend(0, 1, 0, 1);
            bank.lend(1, 0, 3, 1);
            due("0", bank.chain(0, 1, 0), 1);
            due("3", bank.chain(1, 0, 3), 1);
            due("not of 0", bank.chain(1, 0, 0), NOT_FOUND);
            invalid("kind", bad -> bank.chain(0, 1, bad), -1, 4);
        });
        says("Returns the steps;", () -> {
            FavourRings bank = bankOf(8);
            circle(bank, 3, 1, 7, 6, 5, 4, 3, 2, 1, 0);
            due("the fewest", bank.chain(0, 7, 3), 1);
            due("the most", bank.chain(7, 0, 3), 7);
        });
        says("INVALID_ARGUMENT if an argument is out of range,", () -> {
            FavourRings bank = triangle(3, 2, 4);
            invalid("all of them", bad -> bank.chain(bad, bad, bad), -1, 4);
            invalid("debtor", bad -> bank.chain(bad, 1, 0), -1, 3);
            invalid("creditor", bad -> bank.chain(1, bad, 0), -1, 3);
        });
        says("or both are the same;", () -> {
            FavourRings bank = triangle(3, 2, 4);
            eachDue("in a ring", INVALID, same -> bank.chain(same, same, 0), 0, 1, 2);
            eachDue("without a ring", INVALID, same -> bank.chain(same, same, 1), 0, 1, 2);
        });
        says("NOT_FOUND if there is no such way.", () -> {
            FavourRings bank = bankOf(4);
            due("nothing is owed", bank.chain(0, 1, 0), NOT_FOUND);
            bank.lend(0, 1, 0, 2);
            bank.lend(2, 1, 0, 2);
            bank.lend(2, 3, 0, 2);
            due("no way on", bank.chain(0, 3, 0), NOT_FOUND);
            due("no way back", bank.chain(1, 0, 0), NOT_FOUND);
            bank.lend(1, 2, 0, 1);
            due("a way", bank.chain(0, 3, 0), 3);
            bank.fulfil(1, 2, 0, 1);
            due("no way any more", bank.chain(0, 3, 0), NOT_FOUND);
        });
    }

    private static void deepest() {
        in("Promise 18");
        says("Finds the pupil who owes the most of a kind,", () -> {
            FavourRings bank = bankOf(8);
            bank.lend(0, 1, 2, 4);
            bank.lend(7, 0, 2, 3);
            bank.lend(7, 1, 2, 2);
            bank.lend(0, 1, 1, 9);
            due("to several, of several lots", bank.deepest(2), 7);
            bank.fulfil(7, 0, 2, 2);
            due("then another one", bank.deepest(2), 0);
        });
        says("of several the lowest one.", () -> {
            FavourRings bank = bankOf(8);
            bank.lend(7, 0, 0, 3);
            bank.lend(6, 0, 0, 3);
            due("6 and 7", bank.deepest(0), 6);
            bank.lend(0, 1, 0, 3);
            due("0, 6 and 7", bank.deepest(0), 0);
            bank.lend(7, 0, 0, 1);
            due("7 owes more", bank.deepest(0), 7);
        });
        says("kind: 0 to 3", () -> {
            FavourRings bank = bankOf(4);
            for (int kind = 0; kind < 4; kind++) {
                bank.lend(kind, (kind + 1) % 4, kind, 1);
                due("of kind " + kind, bank.deepest(kind), kind);
            }
            due("of kind 0 still", bank.deepest(0), 0);
        });
        says("Returns the pupil;", () -> {
            FavourRings bank = bankOf(8);
            bank.lend(7, 0, 3, 1);
            due("the last one, who owes 1", bank.deepest(3), 7);
            bank.lend(0, 7, 3, 1);
            due("the first one", bank.deepest(3), 0);
        });
        says("INVALID_ARGUMENT if kind is out of range;", () -> {
            FavourRings bank = triangle(3, 2, 4);
            invalid("kind", bad -> bank.deepest(bad), -1, 4, 5);
        });
        says("NOT_FOUND if nobody owes any.", () -> {
            due("without pupils", new FavourRings().deepest(0), NOT_FOUND);
            FavourRings bank = triangle(2, 2, 2);
            due("of another kind", bank.deepest(1), NOT_FOUND);
            bank.clear(0);
            due("cleared", bank.deepest(0), NOT_FOUND);
        });
    }

    private static void spoilsIn() {
        in("Promise 19");
        says("Tells in how many weeks the next favour of a pupil, as a debtor, spoils or is taken over,", () -> {
            FavourRings bank = bankOf(4);
            bank.lend(0, 1, 3, 1);
            due("kind 3", bank.spoilsIn(0), 10);
            bank.lend(0, 1, 1, 2);
            due("kind 1 is sooner", bank.spoilsIn(0), 6);
            bank.weeks(3);
            bank.lend(0, 2, 0, 1);
            due("an older lot is sooner", bank.spoilsIn(0), 3);
            due("not as a creditor", bank.spoilsIn(1), NOT_FOUND);
            bank.guarantee(0, 3);
            due("taken over, not spoiled", bank.spoilsIn(0), 3);
            due("until then", bank.weeks(2), 0);
            due("nothing is taken over until then", bank.count(8), 0);
            bank.weeks(1);
            due("it is taken over", bank.count(8), 2);
        });
        says("by the lots that the pupil owes now (not by such that would be taken over meanwhile),", () -> {
            FavourRings bank = bankOf(3);
            bank.guarantee(0, 2);
            bank.set(0, 1);
            bank.lend(0, 1, 0, 1);
            due("the guarantor owes nothing yet", bank.spoilsIn(2), NOT_FOUND);
            bank.lend(2, 1, 3, 1);
            due("not by the other lot", bank.spoilsIn(2), 10);
            bank.weeks(1);
            due("by the other lot now", bank.spoilsIn(2), 1);
        });
        says("if nothing else is done, and there are no holidays.", () -> {
            FavourRings bank = bankOf(2);
            bank.lend(0, 1, 0, 1);
            bank.weeks(1);
            bank.holiday(true);
            due("in holidays", bank.spoilsIn(0), 3);
            bank.weeks(20);
            due("after weeks of holidays", bank.spoilsIn(0), 3);
        });
        says("pupil: number of the pupil", () -> {
            FavourRings bank = bankOf(8);
            circle(bank, 0, 1, 0, 7);
            due("the first one", bank.spoilsIn(0), 4);
            due("the last one", bank.spoilsIn(7), 4);
        });
        says("Returns how many, 1 or more;", () -> {
            FavourRings bank = bankOf(2);
            bank.set(3, 20);
            bank.lend(0, 1, 3, 1);
            due("20", bank.spoilsIn(0), 20);
            bank.weeks(19);
            due("1", bank.spoilsIn(0), 1);
            bank.set(3, 19);
            due("at its age already", bank.spoilsIn(0), 1);
            bank.set(3, 1);
            due("above its age", bank.spoilsIn(0), 1);
            due("it spoils then", bank.weeks(1), 1);
        });
        says("INVALID_ARGUMENT;", () -> {
            invalid("pupil", bad -> bankOf(8).spoilsIn(bad), -1, 8);
            invalid("of two, pupil", bad -> bankOf(2).spoilsIn(bad), -1, 2, 7);
            due("without pupils", new FavourRings().spoilsIn(0), INVALID);
        });
        says("NOT_FOUND if the pupil owes nothing.", () -> {
            FavourRings bank = bankOf(2);
            due("at first", bank.spoilsIn(0), NOT_FOUND);
            bank.lend(0, 1, 0, 1);
            due("the creditor", bank.spoilsIn(1), NOT_FOUND);
            bank.fulfil(0, 1, 0, 1);
            due("done", bank.spoilsIn(0), NOT_FOUND);
        });
    }

    private static void richest() {
        in("Promise 20");
        says("Returns a pupil by balances: the greatest first,", () -> {
            FavourRings bank = bankOf(4);
            bank.lend(0, 3, 0, 4);
            bank.lend(1, 2, 1, 5);
            bank.lend(2, 3, 2, 1);
            int[] order = {3, 2, 0, 1};
            for (int rank = 0; rank < 4; rank++) {
                due("richest(" + rank + ")", bank.richest(rank), order[rank]);
            }
        });
        says("of several the lowest number.", () -> {
            FavourRings bank = bankOf(8);
            for (int rank = 0; rank < 8; rank++) {
                due("of eight, " + rank, bank.richest(rank), rank);
            }
            bank.lend(0, 7, 0, 3);
            bank.lend(1, 6, 1, 3);
            int[] order = {6, 7, 2, 3, 4, 5, 0, 1};
            for (int rank = 0; rank < 8; rank++) {
                due("of several, " + rank, bank.richest(rank), order[rank]);
            }
        });
        says("rank: 0 for the first one, and so on", () -> {
            FavourRings bank = bankOf(8);
            for (int pupil = 0; pupil < 7; pupil++) {
                bank.lend(pupil, 7, 0, 9 - pupil);
            }
            due("the first one", bank.richest(0), 7);
            due("the second one", bank.richest(1), 6);
            due("the last one", bank.richest(7), 0);
        });
        says("Returns the pupil;", () -> due("of one", bankOf(1).richest(0), 0));
        says("INVALID_ARGUMENT if rank is below 0;", () -> {
            eachDue("rank", INVALID, rank -> bankOf(2).richest(rank), -1, -2, LEAST);
            eachDue("rank without pupils", INVALID, rank -> new FavourRings().richest(rank), -1, LEAST);
        });
        says("NOT_FOUND if there are not so many.", () -> {
            eachDue("rank without pupils", NOT_FOUND, rank -> new FavourRings().richest(rank), 0, 1, MOST);
            due("the last one of two", bankOf(2).richest(1), 1);
            eachDue("rank of two", NOT_FOUND, rank -> bankOf(2).richest(rank), 2, 3, 7, 8, MOST);
            eachDue("rank of eight", NOT_FOUND, rank -> bankOf(8).richest(rank), 8, 9, MOST);
        });
    }

    private static void mean() {
        in("Promise 21");
        says("Returns the mean age of favours, as a float:", () -> {
            FavourRings bank = bankOf(2);
            bank.lend(0, 1, 3, 1);
            bank.weeks(1);
            bank.lend(1, 0, 3, 2);
            due("1 in 3", bank.mean(), Float.floatToIntBits(1f / 3f));
            bank.weeks(1);
            due("4 in 3", bank.mean(), Float.floatToIntBits(4f / 3f));
        });
        says("the ages of all of them (each favour has that of its lot) together, as a float, divided by how many they"
            + " are, as a float.", () -> {
            FavourRings bank = bankOf(8);
            bank.set(4, 99);
            for (int kind = 0; kind < 4; kind++) {
                bank.set(kind, 20);
            }
            int favours = 0;
            int ages = 0;
            for (int i = 0; i < 40; i++) {
                int many = 1 + i * 5 % 9;
                bank.lend(i % 8, (i + 3) % 8, i % 4, many);
                favours += many;
                if (i % 2 == 1 && i < 38) {
                    bank.weeks(1);
                    ages += favours;
                }
                due(ages + " in " + favours, bank.mean(), Float.floatToIntBits((float) ages / (float) favours));
            }
        });
        says("Returns the bits of the float;", () -> {
            FavourRings bank = bankOf(2);
            bank.set(3, 20);
            bank.lend(0, 1, 3, 1);
            due("0", bank.mean(), 0);
            for (int age = 1; age < 20; age++) {
                bank.weeks(1);
                due("" + age, bank.mean(), Float.floatToIntBits(age));
            }
            FavourRings least = bankOf(8);
            least.set(4, 99);
            least.lend(0, 1, 0, 1);
            least.weeks(1);
            for (int i = 1; i < 40; i++) {
                least.lend(i % 8, (i + 3) % 8, 0, 9);
            }
            due("1 in 352", least.mean(), Float.floatToIntBits(1f / 352f));
        });
        says("NOT_FOUND if there are none.", () -> {
            due("without pupils", new FavourRings().mean(), NOT_FOUND);
            FavourRings bank = triangle(2, 2, 2);
            due("of age 0", bank.mean(), 0);
            bank.clear(0);
            due("cleared", bank.mean(), NOT_FOUND);
        });
    }

    private static void count() {
        in("Promise 22");
        says("Returns a number.", () -> {
            FavourRings bank = new FavourRings();
            for (int what = 0; what <= 13; what++) {
                due("count(" + what + ")", bank.count(what), 0);
            }
            int[] first = {4, 6, 8, 10, 20, 3};
            for (int what = 20; what <= 25; what++) {
                due("count(" + what + ")", bank.count(what), first[what - 20]);
            }
        });
        says("what: 0: weeks that ended;", () -> {
            FavourRings bank = letWeeksEnd(bankOf(1), 999);
            due("the most", bank.count(0), 999);
            bank.undo();
            due("undone", bank.count(0), 980);
        });
        says("1: pupils;", () -> {
            for (int pupils = 0; pupils <= 8; pupils++) {
                due("pupils", bankOf(pupils).count(1), pupils);
            }
        });
        says("2: lots;", () -> {
            due("none", bankOf(2).count(2), 0);
            due("one", bankOfLots(1).count(2), 1);
            due("forty", bankOfLots(40).count(2), 40);
        });
        says("3: favours that are owed;", () -> {
            FavourRings bank = triangle(3, 2, 4);
            bank.lend(0, 1, 3, 5);
            due("all kinds", bank.count(3), 14);
            bank.fulfil(0, 1, 3, 2);
            due("without those that are done", bank.count(3), 12);
            bank.clear(0);
            due("without those that are cleared", bank.count(3), 6);
            bank.weeks(20);
            due("without those that spoiled", bank.count(3), 0);
            due("the most", fullOfFavours().count(3), 360);
        });
        says("INVALID_ARGUMENT if what is out of range.", () -> {
            FavourRings bank = triangle(3, 2, 4);
            invalid("what", bad -> bank.count(bad), -1, 14, 15, 16, 17, 18, 19, 26, 27, 40);
        });
        says("Returns the number;", () -> {
            FavourRings bank = triangle(3, 2, 4);
            int[] want = {0, 3, 3, 9, 9, 0, 0, 0, 0, 0, 0, 7, 4, 0};
            for (int what = 0; what < want.length; what++) {
                due("count(" + what + ")", bank.count(what), want[what]);
            }
        });
    }

    private static void countSoFar() {
        in("Promise 22");
        says("4: lent so far;", () -> {
            FavourRings bank = triangle(3, 2, 4);
            due("lent", bank.count(4), 9);
            bank.clear(0);
            bank.fulfil(0, 1, 0, 1);
            bank.weeks(4);
            due("also if they are gone", bank.count(4), 9);
            play(bank, "o0,1,0,1;");
            due("by orders too", bank.count(4), 10);
        });
        says("5: done so far;", () -> {
            FavourRings bank = triangle(3, 2, 4);
            bank.fulfil(0, 1, 0, 3);
            play(bank, "d1,2,0,1;");
            due("of two pupils", bank.count(5), 4);
            bank.weeks(4);
            due("not those that spoiled", bank.count(5), 4);
        });
        says("6: spoiled so far;", () -> {
            FavourRings bank = triangle(3, 2, 4);
            bank.guarantee(0, 2);
            bank.weeks(4);
            due("of two pupils, one has a guarantor", bank.count(6), 6);
            bank.weeks(4);
            due("of the guarantor too", bank.count(6), 9);
        });
        says("7: cleared so far;", () -> {
            FavourRings bank = triangle(3, 2, 4);
            bank.clear(0);
            due("of one ring", bank.count(7), 6);
            circle(bank, 1, 5, 0, 2);
            bank.clear(1);
            due("of two rings", bank.count(7), 16);
            bank.clear(1);
            due("no more", bank.count(7), 16);
        });
        says("8: taken over so far;", () -> {
            FavourRings bank = triangle(3, 2, 4);
            bank.guarantee(0, 2);
            bank.guarantee(2, 1);
            bank.weeks(4);
            due("favours of two lots", bank.count(8), 7);
            bank.weeks(4);
            due("also if they spoiled", bank.count(8), 7);
        });
        says("9: rings cleared so far;", () -> {
            FavourRings bank = triangle(3, 2, 4);
            bank.lend(1, 0, 0, 1);
            bank.clear(0);
            due("two", bank.count(9), 2);
            circle(bank, 1, 5, 0, 2);
            play(bank, "c1;c0;");
            due("three", bank.count(9), 3);
            bank.ifCleared(0, 1);
            due("no more", bank.count(9), 3);
        });
    }

    private static void countWhatThereIs() {
        in("Promise 22");
        says("10: 1 if there are holidays, otherwise 0;", () -> {
            FavourRings bank = new FavourRings();
            bank.holiday(true);
            due("there are", bank.count(10), 1);
            bank.holiday(false);
            due("there are none", bank.count(10), 0);
        });
        says("11: those who have no guarantor, as a set;", () -> {
            FavourRings bank = bankOf(8);
            for (int pupil = 0; pupil < 8; pupil++) {
                bank.guarantee(pupil, (pupil + 1) % 8);
                due("up to " + pupil, bank.count(11), 256 - (2 << pupil));
            }
            bank.guarantee(0, -1);
            bank.guarantee(7, -1);
            due("0 and 7", bank.count(11), 129);
            due("of one pupil", bankOf(1).count(11), 1);
        });
        says("12: states in the history;", () -> {
            due("none", new FavourRings().count(12), 0);
            for (int pupils = 1; pupils <= 8; pupils++) {
                due("after " + pupils, bankOf(pupils).count(12), Math.min(4, pupils));
            }
            FavourRings bank = bankOf(8);
            bank.undo();
            due("after undo", bank.count(12), 3);
        });
        says("13: the length of the text;", () -> {
            FavourRings bank = new FavourRings();
            due("empty", bank.count(13), 0);
            bank.type(' ');
            due("one", bank.count(13), 1);
            write(bank, "h;".repeat(30));
            due("sixty", bank.count(13), 60);
            bank.clearText();
            due("empty again", bank.count(13), 0);
        });
        says("20 to 25: the settings 0 to 5", () -> {
            FavourRings bank = new FavourRings();
            for (int what = 0; what < 6; what++) {
                bank.set(what, what + 12);
                due("the setting " + what, bank.count(20 + what), what + 12);
            }
            bank.set(4, 99);
            due("the greatest one", bank.count(24), 99);
        });
    }

    private static void undo() {
        in("Promise 23");
        says("Restores the latest state of the history, which is removed from it.", () -> {
            FavourRings bank = bankOf(2);
            bank.lend(0, 1, 0, 1);
            bank.lend(0, 1, 0, 2);
            bank.undo();
            due("without the latest", bank.owes(0, 1, 0), 1);
            bank.undo();
            due("without the one before", bank.owes(0, 1, 0), 0);
            bank.lend(0, 1, 0, 5);
            due("another one", bank.count(12), 3);
            bank.undo();
            due("without that", bank.owes(0, 1, 0), 0);
            bank.undo();
            due("one pupil", bank.count(1), 1);
        });
        says("Returns the number of states that are left in the history;", () -> {
            FavourRings bank = bankOf(8);
            for (int left = 3; left >= 0; left--) {
                due("undo()", bank.undo(), left);
                due("count(12)", bank.count(12), left);
            }
            due("of one", bankOf(1).undo(), 0);
        });
        says("NOT_POSSIBLE if it is empty.", () -> {
            FavourRings bank = new FavourRings();
            due("at first", bank.undo(), NOT_POSSIBLE);
            bank.pupil();
            due("the last one", bank.undo(), 0);
            due("empty", bank.undo(), NOT_POSSIBLE);
            due("and again", bank.undo(), NOT_POSSIBLE);
            due("a pupil comes after that", bank.pupil(), 0);
            due("which can be undone", bank.undo(), 0);
        });
    }

    private static void type() {
        in("Promise 24");
        says("Appends a character to the text.", () -> {
            FavourRings bank = new FavourRings();
            for (char c : "h;w2;".toCharArray()) {
                bank.type(c);
            }
            due("two orders", bank.play(), 2);
            due("weeks", bank.count(0), 2);
            bank.type('w');
            due("it is behind them", bank.fault(0), 5);
        });
        says("character: 32 to 126", () -> {
            FavourRings bank = new FavourRings();
            due("32", bank.type(32), 1);
            due("126", bank.type(126), 2);
        });
        says("Returns the length of the text;", () -> {
            FavourRings bank = new FavourRings();
            for (int length = 1; length <= 60; length++) {
                due("type", bank.type(length + 32), length);
            }
        });
        says("INVALID_ARGUMENT if character is out of range;", () -> {
            FavourRings bank = new FavourRings();
            invalid("type", bad -> bank.type(bad), 31, 127, 0, -1, 128, 255, 'h' + 256, 'h' - 256);
            due("nothing is typed", bank.count(13), 0);
        });
        says("LIMIT_REACHED if it has 60 characters.", () -> {
            FavourRings bank = new FavourRings();
            write(bank, "w1;".repeat(19) + "h;");
            due("the sixtieth", bank.type('x'), 60);
            due("one more", bank.type(';'), LIMIT);
            due("the length", bank.count(13), 60);
            due("the fault stays", bank.fault(0), 59);
            due("emptied", bank.clearText(), 60);
            due("there is room", bank.type(';'), 1);
        });
    }

    private static void clearText() {
        in("Promise 25");
        says("Empties the text.", () -> {
            FavourRings bank = new FavourRings();
            write(bank, "xyz");
            bank.clearText();
            due("the length", bank.count(13), 0);
            due("no fault", bank.fault(0), NOT_FOUND);
            due("no orders", bank.play(), 0);
            write(bank, "h;");
            due("nothing of the old one", bank.play(), 1);
        });
        says("Returns the length it had.", () -> {
            FavourRings bank = new FavourRings();
            due("empty", bank.clearText(), 0);
            bank.type('h');
            due("one", bank.clearText(), 1);
            due("empty again", bank.clearText(), 0);
            write(bank, "h;".repeat(30));
            due("sixty", bank.clearText(), 60);
        });
    }

    private static void fault() {
        in("Promise 26");
        says("Tells about the fault of the text.", () -> {
            FavourRings bank = bankOf(2);
            write(bank, "o0,1,0,3;d0,1,0,4;");
            int[] before = recorded(bank);
            due("its position", bank.fault(0), 9);
            sameDue("nothing is done", before, recorded(bank));
            due("no state", bank.count(12), 2);
            due("the text stays", bank.count(13), 18);
        });
        says("what: 0: its position;", () -> {
            FavourRings bank = bankOf(2);
            write(bank, "x");
            due("at the beginning", bank.fault(0), 0);
            write(bank, "h;".repeat(29) + "h");
            due("at the end", bank.fault(0), 58);
            write(bank, "h;".repeat(29) + " x");
            due("of a blank", bank.fault(0), 58);
        });
        says("1: its reason;", () -> {
            FavourRings bank = bankOf(2);
            write(bank, "w21");
            due("of this form it is not", bank.fault(1), 1);
            bank.type(';');
            due("it is not possible", bank.fault(1), 2);
        });
        says("2: its cause", () -> {
            FavourRings bank = bankOf(2);
            write(bank, "x");
            due("at once", bank.fault(2), 0);
            write(bank, "o00,01,00,01");
            due("as late as can be", bank.fault(2), 12);
            write(bank, "w0;");
            due("an error", bank.fault(2), INVALID);
        });
        says("Returns that;", () -> {
            FavourRings bank = bankOf(2);
            faultDue(bank, "h;d0,1,0,1;", 2, 2, NOT_POSSIBLE);
            bank.lend(0, 1, 0, 1);
            due("as things are now", bank.fault(0), NOT_FOUND);
        });
        says("INVALID_ARGUMENT if what is out of range;", () -> {
            FavourRings bank = bankOf(2);
            invalid("without a text, fault", bad -> bank.fault(bad), -1, 3);
            write(bank, "x");
            invalid("with a fault, fault", bad -> bank.fault(bad), -1, 3);
        });
        says("NOT_FOUND if the text has no fault (also if it is empty).", () -> {
            FavourRings bank = bankOf(2);
            eachDue("never typed, fault", NOT_FOUND, bank::fault, 0, 1, 2);
            noFaultDue(bank, "o0,1,0,1;d0,1,0,1;g0,1;c3;w20;h;");
            noFaultDue(bank, "h;".repeat(30));
            faultDue(bank, "x", 0, 1, 0);
            bank.clearText();
            eachDue("empty again, fault", NOT_FOUND, bank::fault, 0, 1, 2);
        });
    }

    private static void play() {
        in("Promise 27");
        says("Does all orders of the text,", () -> {
            FavourRings bank = bankOf(3);
            due("play", play(bank, "o0,1,0,5;o1,0,0,2;c0;d0,1,0,1;g2,0;w3;h;"), 7);
            int[] want = {3, 3, 1, 2, 7, 1, 0, 4, 0, 1, 1, 3};
            for (int what = 0; what < want.length; what++) {
                due("count(" + what + ")", bank.count(what), want[what]);
            }
            FavourRings full = new FavourRings();
            due("thirty", play(full, "h;".repeat(30)), 30);
            due("an even number", full.count(10), 0);
            due("nineteen weeks", play(full, "w1;".repeat(20)), 20);
            due("twenty weeks", full.count(0), 20);
        });
        says("which stays.", () -> {
            FavourRings bank = bankOf(2);
            play(bank, "o0,1,0,2;");
            due("the length", bank.count(13), 9);
            due("once more", bank.play(), 1);
            due("twice lent", bank.owes(0, 1, 0), 4);
            bank.undo();
            due("undo leaves it", bank.count(13), 9);
        });
        says("They are one change, also if there are none.", () -> {
            FavourRings bank = bankOf(2);
            play(bank, "o0,1,0,2;w1;h;w1;g0,1;");
            due("one state", bank.count(12), 3);
            due("undo", bank.undo(), 2);
            due("nothing of it is left", bank.count(0) + bank.count(4) + bank.count(10), 0);
            due("none", play(bank, ""), 0);
            due("one state for none", bank.count(12), 3);
            due("undo of none", bank.undo(), 2);
            due("pupils", bank.count(1), 2);
        });
        says("Returns how many there are in it;", () -> {
            FavourRings bank = bankOf(2);
            due("none", bank.play(), 0);
            due("one", play(bank, "h;"), 1);
            due("thirty", play(bank, "h;".repeat(30)), 30);
        });
        says("NOT_POSSIBLE if it has a fault.", () -> {
            FavourRings bank = bankOf(2);
            int[] before = recorded(bank);
            due("of the reason 1", play(bank, "o0,1,0,2;h;h"), NOT_POSSIBLE);
            due("of the reason 2", play(bank, "o0,1,0,2;h;w5;w0;"), NOT_POSSIBLE);
            due("of a limit", play(letWeeksEnd(bankOf(1), 980), "w19;w1;"), NOT_POSSIBLE);
            sameDue("nothing is done", before, recorded(bank));
            due("no state", bank.count(12), 2);
        });
    }
}
