import java.util.function.IntUnaryOperator;

/** What the tests share: asking, banks to begin with, and how a run of tests ends. */
abstract class Asking {
    static final int INVALID = -1000001;
    static final int NOT_POSSIBLE = -1000002;
    static final int LIMIT = -1000003;
    static final int NOT_FOUND = -1000004;
    static final int LEAST = Integer.MIN_VALUE;
    static final int MOST = Integer.MAX_VALUE;

    private static String about = "";
    private static int wrong = 0;
    private static int asked = 0;

    /** What a wrong answer is told under from now on. */
    static void askAbout(String words) {
        about = words;
    }

    static void due(String what, int got, int want) {
        asked++;
        if (got != want) {
            isWrong(what + " answered " + got + ", due is " + want);
        }
    }

    static void isWrong(String what) {
        wrong++;
        System.out.println(about.isEmpty() ? what : about + ": " + what);
    }

    static void eachDue(String what, int want, IntUnaryOperator call, int... values) {
        for (int value : values) {
            due(what + " " + value, call.applyAsInt(value), want);
        }
    }

    /** The values told, and those farthest outside. */
    static void invalid(String what, IntUnaryOperator call, int... values) {
        eachDue(what, INVALID, call, values);
        eachDue(what, INVALID, call, LEAST, LEAST + 1, MOST - 1, MOST, 1 << 28, 256, 65536, -100, -255);
    }

    static void sameDue(String what, int[] before, int[] after) {
        due(what + ", how many numbers", after.length, before.length);
        for (int i = 0; i < before.length && i < after.length; i++) {
            due(what + ", number " + i, after[i], before[i]);
        }
    }

    static void end() {
        System.out.println(wrong == 0 ? asked + " answers are as due" : wrong + " answers are not as due");
        if (wrong != 0) {
            System.exit(1);
        }
    }

    static FavourRings bankOf(int pupils) {
        FavourRings bank = new FavourRings();
        for (int i = 0; i < pupils; i++) {
            bank.pupil();
        }
        return bank;
    }

    /** Each of the pupils owes the next one as many of the kind, and the last one the first one. */
    static void circle(FavourRings bank, int kind, int many, int... pupils) {
        for (int i = 0; i < pupils.length; i++) {
            bank.lend(pupils[i], pupils[(i + 1) % pupils.length], kind, many);
        }
    }

    /** 0 owes 1, 1 owes 2, 2 owes 0, each the number told, of kind 0. */
    static FavourRings triangle(int a, int b, int c) {
        FavourRings bank = bankOf(3);
        bank.lend(0, 1, 0, a);
        bank.lend(1, 2, 0, b);
        bank.lend(2, 0, 0, c);
        return bank;
    }

    /** So many lots of one favour each, at most 40: 0 owes 2 up to 20, 1 the rest, and 2 owes nothing. */
    static FavourRings bankOfLots(int lots) {
        FavourRings bank = bankOf(3);
        for (int i = 0; i < lots; i++) {
            bank.lend(i < 20 ? 0 : 1, 2, 0, 1);
        }
        return bank;
    }

    /** 40 lots of 9 favours each: all that a bank can hold. */
    static FavourRings fullOfFavours() {
        FavourRings bank = bankOf(8);
        bank.set(4, 99);
        for (int i = 0; i < 40; i++) {
            bank.lend(i % 8, (i + 1 + i / 8) % 8, i % 4, 9);
        }
        return bank;
    }

    /** 1 owes 2, of kind 0: 3 favours of age 0, which were taken over, then 5 and then 7 of age 3. */
    static FavourRings youngestFirst() {
        FavourRings bank = bankOf(3);
        bank.guarantee(0, 1);
        bank.lend(0, 2, 0, 3);
        bank.weeks(1);
        bank.lend(1, 2, 0, 5);
        bank.lend(1, 2, 0, 7);
        bank.weeks(3);
        return bank;
    }

    static FavourRings letWeeksEnd(FavourRings bank, int weeks) {
        for (int left = weeks; left > 0; left -= 20) {
            bank.weeks(Math.min(20, left));
        }
        return bank;
    }

    static void write(FavourRings bank, String text) {
        bank.clearText();
        for (char c : text.toCharArray()) {
            bank.type(c);
        }
    }

    static int play(FavourRings bank, String text) {
        write(bank, text);
        return bank.play();
    }

    static void faultDue(FavourRings bank, String text, int place, int reason, int cause) {
        write(bank, text);
        due("fault(0) of " + text, bank.fault(0), place);
        due("fault(1) of " + text, bank.fault(1), reason);
        due("fault(2) of " + text, bank.fault(2), cause);
    }

    static void noFaultDue(FavourRings bank, String text) {
        faultDue(bank, text, NOT_FOUND, NOT_FOUND, NOT_FOUND);
    }

    static void lotDue(FavourRings bank, int place, int... want) {
        for (int what = 0; what < want.length; what++) {
            due("lot(" + place + ", " + what + ")", bank.lot(place, what), want[what]);
        }
    }

    /** How many favours the lots have, one lot after the other. */
    static void sizesDue(FavourRings bank, int... want) {
        for (int place = 0; place < want.length; place++) {
            due("favours of the lot " + place, bank.lot(place, 3), want[place]);
        }
        due("no lot " + want.length, bank.lot(want.length, 3), NOT_FOUND);
    }

    static void ringDue(FavourRings bank, int kind, int... want) {
        for (int place = 0; place < want.length; place++) {
            due("ring(" + kind + ", " + place + ")", bank.ring(kind, place), want[place]);
        }
        due("ring(" + kind + ", " + want.length + ")", bank.ring(kind, want.length), NOT_FOUND);
    }

    /** Both ways in which the balances are told. */
    static void balancesDue(FavourRings bank, int... want) {
        for (int pupil = 0; pupil < want.length; pupil++) {
            due("balance of " + pupil + " by the lots", bank.pupilOf(pupil, 2), 1000 + want[pupil]);
            due("balance of " + pupil + " by what came", bank.pupilOf(pupil, 3), 1000 + want[pupil]);
        }
    }

    /** All that a change records, as far as it can be asked for. */
    static int[] recorded(FavourRings bank) {
        int pupils = bank.count(1);
        int lots = bank.count(2);
        int[] all = new int[18 + 9 * pupils + 6 * lots];
        int end = 0;
        for (int what = 0; what < 26; what++) {
            if (what < 12 || what >= 20) {
                all[end++] = bank.count(what);
            }
        }
        for (int i = 0; i < 9 * pupils; i++) {
            all[end++] = bank.pupilOf(i / 9, i % 9);
        }
        for (int i = 0; i < 6 * lots; i++) {
            all[end++] = bank.lot(i / 6, i % 6);
        }
        return all;
    }
}
