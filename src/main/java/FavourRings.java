/** A bank of favours in a school, as ../shared/DOC.md promises it. */
public final class FavourRings {
    public static final int INVALID_ARGUMENT = -1000001;
    public static final int NOT_POSSIBLE = -1000002;
    public static final int LIMIT_REACHED = -1000003;
    public static final int NOT_FOUND = -1000004;

    private static final int MAX_PUPILS = 8;
    private static final int KINDS = 4;
    private static final int MAX_LOTS = 40;
    private static final int MAX_MANY = 9;
    private static final int MAX_WEEKS_AT_ONCE = 20;
    private static final int MAX_WEEKS = 999;
    private static final int MAX_STATES = 4;
    private static final int MAX_TEXT = 60;
    private static final int BALANCE_BASE = 1000;
    private static final int ANY = -1;

    // The numbers that count() has for what it tells; a bank keeps them at these places.
    private static final int WEEKS = 0;
    private static final int PUPILS = 1;
    private static final int LOTS = 2;
    private static final int OWED = 3;
    private static final int LENT = 4;
    private static final int DONE = 5;
    private static final int SPOILED = 6;
    private static final int CLEARED = 7;
    private static final int TAKEN_OVER = 8;
    private static final int RINGS = 9;
    private static final int HOLIDAYS = 10;
    private static final int WITHOUT_GUARANTOR = 11;
    private static final int STATES = 12;
    private static final int TEXT_LENGTH = 13;
    private static final int SETTINGS = 20;
    private static final int COUNTS = 26;

    private static final int SETTINGS_KNOWN = 6;
    private static final int BOUND = 4;
    private static final int TOO_MANY_SPOILED = 5;

    private static final int PUPIL_WHATS = 9;
    private static final int LOT_WHATS = 6;

    private final Bank bank;
    private final Bank trial;
    private final History history;
    private final Rings rings;
    private final Orders orders;

    public FavourRings() {
        bank = new Bank();
        trial = new Bank();
        history = new History();
        rings = new Rings();
        orders = new Orders();
    }

    // ---- pupils, favours

    public int pupil() {
        return settled(freshTrial().addPupil());
    }

    public int lend(int debtor, int creditor, int kind, int many) {
        return settled(freshTrial().lendFavours(debtor, creditor, kind, many));
    }

    public int fulfil(int debtor, int creditor, int kind, int many) {
        return settled(freshTrial().fulfilFavours(debtor, creditor, kind, many));
    }

    public int guarantee(int pupil, int guarantor) {
        return settled(freshTrial().giveGuarantor(pupil, guarantor));
    }

    // ---- weeks, rings

    public int weeks(int many) {
        return settled(freshTrial().endWeeks(many));
    }

    public int holiday(boolean isOn) {
        return settled(freshTrial().turnHolidays(isOn));
    }

    public int clear(int kind) {
        return settled(rings.clearKind(freshTrial(), kind));
    }

    public int set(int what, int value) {
        return settled(freshTrial().changeSetting(what, value));
    }

    // ---- what there is

    public int pupilOf(int pupil, int what) {
        if (!bank.isPupil(pupil) || what < 0 || what >= PUPIL_WHATS) {
            return INVALID_ARGUMENT;
        }
        return bank.tellOfPupil(pupil, what);
    }

    public int owes(int debtor, int creditor, int kind) {
        if (!bank.isPupil(debtor) || !bank.isPupil(creditor) || !isKind(kind)) {
            return INVALID_ARGUMENT;
        }
        return bank.sumOwed(debtor, creditor, kind);
    }

    public int lot(int place, int what) {
        if (place < 0 || what < 0 || what >= LOT_WHATS) {
            return INVALID_ARGUMENT;
        }
        return place < bank.number(LOTS) ? bank.tellOfLot(place, what) : NOT_FOUND;
    }

    // ---- what would be

    public int why(int debtor, int many) {
        if (!bank.isPupil(debtor) || !isMany(many)) {
            return INVALID_ARGUMENT;
        }
        return bank.reasonAgainst(debtor, many);
    }

    public int ring(int kind, int place) {
        if (!isKind(kind) || place < 0) {
            return INVALID_ARGUMENT;
        }
        if (!rings.findNext(bank, kind) || place >= rings.nextLength()) {
            return NOT_FOUND;
        }
        return rings.nextPupil(place);
    }

    public int amount(int kind) {
        if (!isKind(kind)) {
            return INVALID_ARGUMENT;
        }
        return rings.findNext(bank, kind) ? rings.nextAmount() : NOT_FOUND;
    }

    public int ifCleared(int kind, int what) {
        if (!isKind(kind) || what < 0 || what > 2) {
            return INVALID_ARGUMENT;
        }
        int favours = rings.clearKind(freshTrial(), kind);
        if (what == 0) {
            return favours;
        }
        return what == 1 ? trial.number(RINGS) - bank.number(RINGS) : trial.number(LOTS);
    }

    public int chain(int debtor, int creditor, int kind) {
        if (!bank.isPair(debtor, creditor) || !isKind(kind)) {
            return INVALID_ARGUMENT;
        }
        int steps = rings.stepsBetween(bank, debtor, creditor, kind);
        return steps > 0 ? steps : NOT_FOUND;
    }

    public int deepest(int kind) {
        if (!isKind(kind)) {
            return INVALID_ARGUMENT;
        }
        int found = NOT_FOUND;
        int most = 0;
        for (int pupil = 0; pupil < bank.number(PUPILS); pupil++) {
            int owed = bank.sumOwed(pupil, ANY, kind);
            if (owed > most) {
                most = owed;
                found = pupil;
            }
        }
        return found;
    }

    public int spoilsIn(int pupil) {
        if (!bank.isPupil(pupil)) {
            return INVALID_ARGUMENT;
        }
        int soonest = bank.weeksUntilNextSpoils(pupil);
        return soonest > 0 ? soonest : NOT_FOUND;
    }

    public int richest(int rank) {
        if (rank < 0) {
            return INVALID_ARGUMENT;
        }
        for (int pupil = 0; pupil < bank.number(PUPILS); pupil++) {
            if (bank.rankOf(pupil) == rank) {
                return pupil;
            }
        }
        return NOT_FOUND;
    }

    public int mean() {
        int favours = bank.sumOwed(ANY, ANY, ANY);
        if (favours <= 0) {
            return NOT_FOUND;
        }
        return bitsOf((float) bank.sumOfAges() / (float) favours);
    }

    public int count(int what) {
        if (what < 0 || what > TEXT_LENGTH && what < SETTINGS || what >= COUNTS) {
            return INVALID_ARGUMENT;
        }
        switch (what) {
            case OWED:
                return bank.sumOwed(ANY, ANY, ANY);
            case WITHOUT_GUARANTOR:
                return bank.setWithoutGuarantor();
            case STATES:
                return history.size();
            case TEXT_LENGTH:
                return orders.length();
            default:
                return bank.number(what);
        }
    }

    public int undo() {
        return history.restoreLatest(bank);
    }

    // ---- texts

    public int type(int character) {
        return orders.append(character);
    }

    public int clearText() {
        return orders.empty();
    }

    public int fault(int what) {
        if (what < 0 || what > 2) {
            return INVALID_ARGUMENT;
        }
        if (orders.doAll(freshTrial(), rings)) {
            return NOT_FOUND;
        }
        if (what == 0) {
            return orders.faultPlace();
        }
        return what == 1 ? orders.faultReason() : orders.faultCause();
    }

    public int play() {
        return settled(orders.doAll(freshTrial(), rings) ? orders.ordersDone() : NOT_POSSIBLE);
    }

    // ---- helpers

    private Bank freshTrial() {
        trial.copyFrom(bank);
        return trial;
    }

    /** A change is tried on the trial bank, so that an error leaves no trace; only errors are below 0. */
    private int settled(int answer) {
        if (answer >= 0) {
            history.keep(bank);
            bank.copyFrom(trial);
        }
        return answer;
    }

    private static boolean isKind(int kind) {
        return kind >= 0 && kind < KINDS;
    }

    private static boolean isMany(int many) {
        return many >= 1 && many <= MAX_MANY;
    }

    private static int at(int[] row, int place) {
        return place >= 0 && place < row.length ? row[place] : 0;
    }

    private static void put(int[] row, int place, int value) {
        if (place >= 0 && place < row.length) {
            row[place] = value;
        }
    }

    private static void add(int[] row, int place, int by) {
        if (place >= 0 && place < row.length) {
            row[place] += by;
        }
    }

    private static void copyRow(int[] from, int[] to) {
        System.arraycopy(from, 0, to, 0, Math.min(from.length, to.length));
    }

    private static int firstOfSetting(int what) {
        switch (what) {
            case BOUND:
                return 20;
            case TOO_MANY_SPOILED:
                return 3;
            default:
                return 4 + 2 * what;
        }
    }

    private static int mostOfSetting(int what) {
        return what == BOUND ? 99 : 20;
    }

    /** The language has no call for the bits of a float; a mean age is 0 or a normal number. */
    private static int bitsOf(float value) {
        if (!(value > 0f)) {
            return 0;
        }
        float rest = value;
        int exponent = 127;
        for (int turn = 0; turn < 127 && rest >= 2f; turn++) {
            rest = rest / 2f;
            exponent++;
        }
        for (int turn = 0; turn < 126 && rest < 1f; turn++) {
            rest = rest * 2f;
            exponent--;
        }
        return (exponent << 23) + (int) ((rest - 1f) * 8388608f);
    }

    /** All that a change records: the numbers, a row for each thing of the pupils and of the lots. */
    private static final class Bank {
        private final int[] numbers;
        private final int[] came;
        private final int[] done;
        private final int[] spoiled;
        private final int[] guarantors;
        private final int[] takenOver;
        private final int[] cleared;
        private final int[] debtors;
        private final int[] creditors;
        private final int[] kinds;
        private final int[] sizes;
        private final int[] ages;
        private final int[] passed;

        Bank() {
            numbers = new int[COUNTS];
            came = new int[MAX_PUPILS];
            done = new int[MAX_PUPILS];
            spoiled = new int[MAX_PUPILS];
            guarantors = new int[MAX_PUPILS];
            takenOver = new int[MAX_PUPILS];
            cleared = new int[MAX_PUPILS];
            debtors = new int[MAX_LOTS];
            creditors = new int[MAX_LOTS];
            kinds = new int[MAX_LOTS];
            sizes = new int[MAX_LOTS];
            ages = new int[MAX_LOTS];
            passed = new int[MAX_LOTS];
            for (int what = 0; what < SETTINGS_KNOWN; what++) {
                put(numbers, SETTINGS + what, firstOfSetting(what));
            }
        }

        void copyFrom(Bank other) {
            copyRow(other.numbers, numbers);
            copyRow(other.came, came);
            copyRow(other.done, done);
            copyRow(other.spoiled, spoiled);
            copyRow(other.guarantors, guarantors);
            copyRow(other.takenOver, takenOver);
            copyRow(other.cleared, cleared);
            copyRow(other.debtors, debtors);
            copyRow(other.creditors, creditors);
            copyRow(other.kinds, kinds);
            copyRow(other.sizes, sizes);
            copyRow(other.ages, ages);
            copyRow(other.passed, passed);
        }

        int number(int what) {
            return what >= 0 && what < numbers.length ? numbers[what] : 0;
        }

        boolean hasHolidays() {
            return number(HOLIDAYS) != 0;
        }

        // ---- pupils

        boolean isPupil(int pupil) {
            return pupil >= 0 && pupil < number(PUPILS);
        }

        boolean isPair(int one, int other) {
            return isPupil(one) && isPupil(other) && one != other;
        }

        /** The row holds the guarantor and 1, so that a new pupil's 0 means none. */
        int guarantorOf(int pupil) {
            return pupil >= 0 && pupil < guarantors.length ? guarantors[pupil] - 1 : -1;
        }

        int tellOfPupil(int pupil, int what) {
            switch (what) {
                case 0:
                    return sumOwed(pupil, ANY, ANY);
                case 1:
                    return sumOwed(ANY, pupil, ANY);
                case 2:
                    return BALANCE_BASE + balanceByLots(pupil);
                case 3:
                    return BALANCE_BASE + at(came, pupil);
                case 4:
                    return at(done, pupil);
                case 5:
                    return at(spoiled, pupil);
                case 6:
                    return guarantorOf(pupil) >= 0 ? guarantorOf(pupil) : NOT_FOUND;
                case 7:
                    return at(takenOver, pupil);
                default:
                    return at(cleared, pupil);
            }
        }

        int setWithoutGuarantor() {
            int found = 0;
            for (int pupil = 0; pupil < number(PUPILS); pupil++) {
                if (guarantorOf(pupil) < 0) {
                    found |= 1 << pupil;
                }
            }
            return found;
        }

        int addPupil() {
            if (number(PUPILS) >= MAX_PUPILS) {
                return LIMIT_REACHED;
            }
            add(numbers, PUPILS, 1);
            return number(PUPILS) - 1;
        }

        int giveGuarantor(int pupil, int guarantor) {
            if (!isPupil(pupil) || guarantor != -1 && !isPair(pupil, guarantor)) {
                return INVALID_ARGUMENT;
            }
            int before = at(guarantors, pupil);
            put(guarantors, pupil, guarantor + 1);
            return before;
        }

        int balanceByLots(int pupil) {
            return sumOwed(ANY, pupil, ANY) - sumOwed(pupil, ANY, ANY);
        }

        /** How many pupils come ahead of this one by their balances. */
        int rankOf(int pupil) {
            int own = balanceByLots(pupil);
            int ahead = 0;
            for (int other = 0; other < number(PUPILS); other++) {
                int balance = balanceByLots(other);
                if (balance > own || balance == own && other < pupil) {
                    ahead++;
                }
            }
            return ahead;
        }

        // ---- lots

        int tellOfLot(int place, int what) {
            switch (what) {
                case 0:
                    return at(debtors, place);
                case 1:
                    return at(creditors, place);
                case 2:
                    return at(kinds, place);
                case 3:
                    return at(sizes, place);
                case 4:
                    return at(ages, place);
                default:
                    return at(passed, place);
            }
        }

        boolean isLotOf(int place, int debtor, int creditor, int kind) {
            if (place < 0 || place >= MAX_LOTS) {
                return false;
            }
            return (debtor == ANY || debtor == debtors[place])
                && (creditor == ANY || creditor == creditors[place])
                && (kind == ANY || kind == kinds[place]);
        }

        int sumOwed(int debtor, int creditor, int kind) {
            int sum = 0;
            for (int place = 0; place < number(LOTS); place++) {
                if (isLotOf(place, debtor, creditor, kind)) {
                    sum += at(sizes, place);
                }
            }
            return sum;
        }

        int sumOfAges() {
            int sum = 0;
            for (int place = 0; place < number(LOTS); place++) {
                sum += at(sizes, place) * at(ages, place);
            }
            return sum;
        }

        int weeksLeft(int place) {
            return number(SETTINGS + at(kinds, place)) - at(ages, place);
        }

        /** 0 if nothing is owed. A setting may be below an age, but a lot still has its week. */
        int weeksUntilNextSpoils(int debtor) {
            int soonest = 0;
            for (int place = 0; place < number(LOTS); place++) {
                if (isLotOf(place, debtor, ANY, ANY)) {
                    int wait = Math.max(1, weeksLeft(place));
                    soonest = soonest == 0 ? wait : Math.min(soonest, wait);
                }
            }
            return soonest;
        }

        void addLot(int debtor, int creditor, int kind, int many) {
            int place = number(LOTS);
            put(debtors, place, debtor);
            put(creditors, place, creditor);
            put(kinds, place, kind);
            put(sizes, place, many);
            put(ages, place, 0);
            put(passed, place, 0);
            add(numbers, LOTS, 1);
        }

        void dropEmptyLots() {
            int left = 0;
            for (int place = 0; place < number(LOTS); place++) {
                if (at(sizes, place) > 0) {
                    put(debtors, left, at(debtors, place));
                    put(creditors, left, at(creditors, place));
                    put(kinds, left, at(kinds, place));
                    put(sizes, left, at(sizes, place));
                    put(ages, left, at(ages, place));
                    put(passed, left, at(passed, place));
                    left++;
                }
            }
            put(numbers, LOTS, left);
        }

        int firstToTake(int debtor, int creditor, int kind) {
            int found = -1;
            for (int place = 0; place < number(LOTS); place++) {
                if (isLotOf(place, debtor, creditor, kind) && at(sizes, place) > 0
                    && (found < 0 || at(ages, place) > at(ages, found))) {
                    found = place;
                }
            }
            return found;
        }

        void takeFavours(int debtor, int creditor, int kind, int many) {
            int left = many;
            for (int turn = 0; turn < MAX_LOTS && left > 0; turn++) {
                int place = firstToTake(debtor, creditor, kind);
                int taken = Math.min(left, at(sizes, place));
                add(sizes, place, -taken);
                left -= taken;
            }
            dropEmptyLots();
        }

        // ---- favours

        int reasonAgainst(int debtor, int many) {
            if (sumOwed(debtor, ANY, ANY) + many > number(SETTINGS + BOUND)) {
                return 1;
            }
            boolean isBad = at(spoiled, debtor) >= number(SETTINGS + TOO_MANY_SPOILED);
            return isBad && guarantorOf(debtor) < 0 ? 2 : 0;
        }

        int lendFavours(int debtor, int creditor, int kind, int many) {
            if (!isPair(debtor, creditor) || !isKind(kind) || !isMany(many)) {
                return INVALID_ARGUMENT;
            }
            if (reasonAgainst(debtor, many) != 0) {
                return NOT_POSSIBLE;
            }
            if (number(LOTS) >= MAX_LOTS) {
                return LIMIT_REACHED;
            }
            addLot(debtor, creditor, kind, many);
            add(came, debtor, -many);
            add(came, creditor, many);
            add(numbers, LENT, many);
            return sumOwed(debtor, creditor, kind);
        }

        int fulfilFavours(int debtor, int creditor, int kind, int many) {
            if (!isPair(debtor, creditor) || !isKind(kind) || !isMany(many)) {
                return INVALID_ARGUMENT;
            }
            if (sumOwed(debtor, creditor, kind) < many) {
                return NOT_POSSIBLE;
            }
            takeFavours(debtor, creditor, kind, many);
            add(came, debtor, many);
            add(came, creditor, -many);
            add(done, debtor, many);
            add(numbers, DONE, many);
            return sumOwed(debtor, creditor, kind);
        }

        /** What came stays: a ring takes from each of its pupils as much as it gives. */
        void countCleared(int debtor, int many) {
            add(cleared, debtor, many);
            add(numbers, CLEARED, many);
        }

        void countRing() {
            add(numbers, RINGS, 1);
        }

        // ---- weeks and settings

        int endWeeks(int many) {
            if (many < 1 || many > MAX_WEEKS_AT_ONCE) {
                return INVALID_ARGUMENT;
            }
            if (number(WEEKS) + many > MAX_WEEKS) {
                return LIMIT_REACHED;
            }
            int before = number(SPOILED);
            for (int week = 0; week < many; week++) {
                endWeek();
            }
            return number(SPOILED) - before;
        }

        void endWeek() {
            add(numbers, WEEKS, 1);
            if (hasHolidays()) {
                return;
            }
            for (int place = 0; place < number(LOTS); place++) {
                add(ages, place, 1);
                if (weeksLeft(place) <= 0 && !passToGuarantor(place)) {
                    spoilLot(place);
                }
            }
            dropEmptyLots();
        }

        boolean passToGuarantor(int place) {
            int debtor = at(debtors, place);
            int guarantor = guarantorOf(debtor);
            if (guarantor < 0 || guarantor == at(creditors, place) || at(passed, place) != 0) {
                return false;
            }
            int many = at(sizes, place);
            put(debtors, place, guarantor);
            put(ages, place, 0);
            put(passed, place, 1);
            add(came, debtor, many);
            add(came, guarantor, -many);
            add(takenOver, guarantor, many);
            add(numbers, TAKEN_OVER, many);
            return true;
        }

        void spoilLot(int place) {
            int debtor = at(debtors, place);
            int many = at(sizes, place);
            put(sizes, place, 0);
            add(came, debtor, many);
            add(came, at(creditors, place), -many);
            add(spoiled, debtor, many);
            add(numbers, SPOILED, many);
        }

        int turnHolidays(boolean isOn) {
            int before = number(HOLIDAYS);
            put(numbers, HOLIDAYS, isOn ? 1 : 0);
            return before;
        }

        int changeSetting(int what, int value) {
            if (what < 0 || what >= SETTINGS_KNOWN || value < 1 || value > mostOfSetting(what)) {
                return INVALID_ARGUMENT;
            }
            int before = number(SETTINGS + what);
            put(numbers, SETTINGS + what, value);
            return before;
        }
    }

    /** The states that undo can bring back, the oldest one first. */
    private static final class History {
        private final Bank[] states;
        private int size;

        History() {
            states = new Bank[MAX_STATES];
            for (int place = 0; place < states.length; place++) {
                states[place] = new Bank();
            }
        }

        int size() {
            return size;
        }

        void keep(Bank bank) {
            if (size >= MAX_STATES) {
                dropOldest();
            }
            if (size >= 0 && size < states.length && states[size] != null) {
                states[size].copyFrom(bank);
                size++;
            }
        }

        void dropOldest() {
            for (int place = 1; place < states.length; place++) {
                if (states[place - 1] != null && states[place] != null) {
                    states[place - 1].copyFrom(states[place]);
                }
            }
            size--;
        }

        int restoreLatest(Bank bank) {
            int latest = size - 1;
            if (latest < 0 || latest >= states.length || states[latest] == null) {
                return NOT_POSSIBLE;
            }
            bank.copyFrom(states[latest]);
            size = latest;
            return size;
        }
    }

    /** Finds ways and rings among those who owe one another a kind. */
    private static final class Rings {
        private final int[] owed;
        private final int[] steps;
        private final int[] queue;
        private final int[] members;
        private int length;

        Rings() {
            owed = new int[MAX_PUPILS * MAX_PUPILS];
            steps = new int[MAX_PUPILS];
            queue = new int[MAX_PUPILS];
            members = new int[MAX_PUPILS];
        }

        int nextLength() {
            return length;
        }

        int nextPupil(int place) {
            return at(members, place);
        }

        int nextAmount() {
            int least = 0;
            for (int place = 0; place < length; place++) {
                int here = owedBetween(nextPupil(place), pupilBehind(place));
                least = place == 0 ? here : Math.min(least, here);
            }
            return least;
        }

        /** 0 if there is no way. */
        int stepsBetween(Bank bank, int debtor, int creditor, int kind) {
            readOwed(bank, kind);
            measureSteps(creditor, 0);
            return at(steps, debtor);
        }

        /** Each ring ends what one of its pupils owes the next one, so that few turns are needed. */
        int clearKind(Bank bank, int kind) {
            if (!isKind(kind)) {
                return INVALID_ARGUMENT;
            }
            int favours = 0;
            for (int turn = 0; turn < 1000 && findNext(bank, kind); turn++) {
                int many = nextAmount();
                for (int place = 0; place < length; place++) {
                    bank.takeFavours(nextPupil(place), pupilBehind(place), kind, many);
                    bank.countCleared(nextPupil(place), many);
                }
                bank.countRing();
                favours += many * length;
            }
            return favours;
        }

        boolean findNext(Bank bank, int kind) {
            readOwed(bank, kind);
            length = 0;
            int first = -1;
            for (int pupil = 0; pupil < MAX_PUPILS; pupil++) {
                measureSteps(pupil, pupil);
                int found = shortestFrom(pupil);
                if (found > 0 && (first < 0 || found < length)) {
                    first = pupil;
                    length = found;
                }
            }
            if (first < 0) {
                return false;
            }
            measureSteps(first, first);
            put(members, 0, first);
            for (int place = 1; place < length; place++) {
                put(members, place, lowestBehind(nextPupil(place - 1), length - place));
            }
            return true;
        }

        void readOwed(Bank bank, int kind) {
            for (int pair = 0; pair < owed.length; pair++) {
                owed[pair] = 0;
            }
            for (int place = 0; place < bank.number(LOTS); place++) {
                if (bank.isLotOf(place, ANY, ANY, kind)) {
                    int pair = at(bank.debtors, place) * MAX_PUPILS + at(bank.creditors, place);
                    add(owed, pair, at(bank.sizes, place));
                }
            }
        }

        int owedBetween(int debtor, int creditor) {
            int pair = debtor * MAX_PUPILS + creditor;
            return pair >= 0 && pair < owed.length ? owed[pair] : 0;
        }

        /** Steps to the target from each pupil, by no pupil below the lowest; 0 where no way is. */
        void measureSteps(int target, int lowest) {
            for (int pupil = 0; pupil < steps.length; pupil++) {
                steps[pupil] = 0;
            }
            put(queue, 0, target);
            int end = 1;
            for (int head = 0; head < MAX_PUPILS && head < end; head++) {
                int reached = at(queue, head);
                for (int pupil = lowest; pupil < MAX_PUPILS; pupil++) {
                    if (pupil != target && at(steps, pupil) == 0 && owedBetween(pupil, reached) > 0) {
                        put(steps, pupil, at(steps, reached) + 1);
                        put(queue, end, pupil);
                        end++;
                    }
                }
            }
        }

        /** The length of the shortest ring that begins with this pupil, or 0. */
        int shortestFrom(int first) {
            int shortest = 0;
            for (int pupil = first + 1; pupil < MAX_PUPILS; pupil++) {
                int whole = at(steps, pupil) + 1;
                boolean isRing = whole > 1 && owedBetween(first, pupil) > 0;
                if (isRing && (shortest == 0 || whole < shortest)) {
                    shortest = whole;
                }
            }
            return shortest;
        }

        /** In a shortest ring each pupil is as many steps ahead of the first one as are left. */
        int lowestBehind(int debtor, int stepsLeft) {
            for (int pupil = 0; pupil < MAX_PUPILS; pupil++) {
                if (at(steps, pupil) == stepsLeft && owedBetween(debtor, pupil) > 0) {
                    return pupil;
                }
            }
            return -1;
        }

        int pupilBehind(int place) {
            return at(members, place + 1 < length ? place + 1 : 0);
        }
    }

    /** The text, and what its orders do to a bank. */
    private static final class Orders {
        private final int[] text;
        private final int[] numbers;
        private int length;
        private int place;
        private int done;
        private int faultPlace;
        private int faultReason;
        private int faultCause;

        Orders() {
            text = new int[MAX_TEXT];
            numbers = new int[4];
        }

        int length() {
            return length;
        }

        int ordersDone() {
            return done;
        }

        int faultPlace() {
            return faultPlace;
        }

        int faultReason() {
            return faultReason;
        }

        int faultCause() {
            return faultCause;
        }

        int append(int character) {
            if (character < 32 || character > 126) {
                return INVALID_ARGUMENT;
            }
            if (length >= MAX_TEXT) {
                return LIMIT_REACHED;
            }
            put(text, length, character);
            length++;
            return length;
        }

        int empty() {
            int before = length;
            length = 0;
            return before;
        }

        /** Does the orders up to the first fault; whether there is none. */
        boolean doAll(Bank bank, Rings rings) {
            done = 0;
            int start = 0;
            for (int turn = 0; turn < MAX_TEXT && start < length; turn++) {
                if (!readOrder(start)) {
                    return noteFault(start, 1, place - start);
                }
                int answer = doOrder(bank, rings, signAt(start));
                if (answer < 0) {
                    return noteFault(start, 2, answer);
                }
                done++;
                start = place;
            }
            return true;
        }

        boolean noteFault(int start, int reason, int cause) {
            faultPlace = start;
            faultReason = reason;
            faultCause = cause;
            return false;
        }

        int doOrder(Bank bank, Rings rings, int sign) {
            int one = at(numbers, 0);
            int two = at(numbers, 1);
            switch (sign) {
                case 'o':
                    return bank.lendFavours(one, two, at(numbers, 2), at(numbers, 3));
                case 'd':
                    return bank.fulfilFavours(one, two, at(numbers, 2), at(numbers, 3));
                case 'g':
                    return bank.giveGuarantor(one, two);
                case 'c':
                    return rings.clearKind(bank, one);
                case 'w':
                    return bank.endWeeks(one);
                default:
                    return bank.turnHolidays(!bank.hasHolidays());
            }
        }

        /** Leaves the place behind the order, or where it breaks off. */
        boolean readOrder(int start) {
            place = start;
            int many = numbersAfter(signAt(start));
            if (many < 0) {
                return false;
            }
            place++;
            for (int which = 0; which < many; which++) {
                if (which > 0 && !passSign(',') || !readNumber(which)) {
                    return false;
                }
            }
            return passSign(';');
        }

        static int numbersAfter(int sign) {
            switch (sign) {
                case 'o':
                case 'd':
                    return 4;
                case 'g':
                    return 2;
                case 'c':
                case 'w':
                    return 1;
                case 'h':
                    return 0;
                default:
                    return -1;
            }
        }

        boolean readNumber(int which) {
            int digits = 0;
            int value = 0;
            while (digits < 2 && isDigit(signAt(place))) {
                value = value * 10 + signAt(place) - '0';
                digits++;
                place++;
            }
            put(numbers, which, value);
            return digits > 0;
        }

        boolean passSign(int sign) {
            if (signAt(place) != sign) {
                return false;
            }
            place++;
            return true;
        }

        /** 0 behind the text, which is no sign that can be typed. */
        int signAt(int where) {
            return where < length ? at(text, where) : 0;
        }

        static boolean isDigit(int sign) {
            return sign >= '0' && sign <= '9';
        }
    }
}
