import java.util.ArrayList;
import java.util.List;
import java.util.function.IntSupplier;
import java.util.regex.Matcher;
import java.util.regex.Pattern;
import java.util.stream.IntStream;

/**
 * Long runs of calls, each answer compared with a second model, which searches plainly and keeps copies.
 * A run is of one object, and ends with its 512th call: what later calls answer is free.
 */
public final class ModelTests {
    private static final int INVALID = -1000001;
    private static final int NOT_POSSIBLE = -1000002;
    private static final int LIMIT = -1000003;
    private static final int NOT_FOUND = -1000004;
    private static final int CALLS = 512;
    /** As many calls as a step can make: a text typed anew, its faults, play, and the questions behind it. */
    private static final int STEP = 150;

    private static final class Lot {
        int debtor, creditor, kind, many, age, taken;

        Lot copy() {
            Lot c = new Lot();
            c.debtor = debtor;
            c.creditor = creditor;
            c.kind = kind;
            c.many = many;
            c.age = age;
            c.taken = taken;
            return c;
        }
    }

    private static final class State {
        List<Lot> lots = new ArrayList<>();
        int pupils, weeks, lent, rings;
        boolean holidays;
        int[] guarantor = {-1, -1, -1, -1, -1, -1, -1, -1};
        int[] gave = new int[8], got = new int[8];
        int[] done = new int[8], spoiled = new int[8], taken = new int[8], cleared = new int[8];
        int[] setting = {4, 6, 8, 10, 20, 3};

        State copy() {
            State c = new State();
            for (Lot lot : lots) {
                c.lots.add(lot.copy());
            }
            c.pupils = pupils;
            c.weeks = weeks;
            c.lent = lent;
            c.rings = rings;
            c.holidays = holidays;
            c.guarantor = guarantor.clone();
            c.gave = gave.clone();
            c.got = got.clone();
            c.done = done.clone();
            c.spoiled = spoiled.clone();
            c.taken = taken.clone();
            c.cleared = cleared.clone();
            c.setting = setting.clone();
            return c;
        }

        boolean is(int pupil) {
            return pupil >= 0 && pupil < pupils;
        }

        int owes(int debtor, int creditor, int kind) {
            return lots.stream().filter(l -> l.debtor == debtor && l.creditor == creditor && l.kind == kind)
                .mapToInt(l -> l.many).sum();
        }

        int owesAll(int debtor) {
            return lots.stream().filter(l -> l.debtor == debtor).mapToInt(l -> l.many).sum();
        }

        int owedAll(int creditor) {
            return lots.stream().filter(l -> l.creditor == creditor).mapToInt(l -> l.many).sum();
        }

        int why(int debtor, int many) {
            if (owesAll(debtor) + many > setting[4]) {
                return 1;
            }
            return spoiled[debtor] >= setting[5] && guarantor[debtor] == -1 ? 2 : 0;
        }

        int lend(int debtor, int creditor, int kind, int many) {
            if (!is(debtor) || !is(creditor) || debtor == creditor || kind < 0 || kind > 3 || many < 1 || many > 9) {
                return INVALID;
            }
            if (why(debtor, many) > 0) {
                return NOT_POSSIBLE;
            }
            if (lots.size() == 40) {
                return LIMIT;
            }
            Lot lot = new Lot();
            lot.debtor = debtor;
            lot.creditor = creditor;
            lot.kind = kind;
            lot.many = many;
            lots.add(lot);
            gave[creditor] += many;
            got[debtor] += many;
            lent += many;
            return owes(debtor, creditor, kind);
        }

        /** One favour after the other, each from the lot that comes first. */
        void take(int debtor, int creditor, int kind, int many) {
            for (int i = 0; i < many; i++) {
                Lot first = null;
                for (Lot l : lots) {
                    if (l.debtor == debtor && l.creditor == creditor && l.kind == kind
                        && (first == null || l.age > first.age)) {
                        first = l;
                    }
                }
                first.many--;
                if (first.many == 0) {
                    lots.remove(first);
                }
            }
        }

        int fulfil(int debtor, int creditor, int kind, int many) {
            if (!is(debtor) || !is(creditor) || debtor == creditor || kind < 0 || kind > 3 || many < 1 || many > 9) {
                return INVALID;
            }
            if (owes(debtor, creditor, kind) < many) {
                return NOT_POSSIBLE;
            }
            take(debtor, creditor, kind, many);
            gave[debtor] += many;
            got[creditor] += many;
            done[debtor] += many;
            return owes(debtor, creditor, kind);
        }

        int guarantee(int pupil, int other) {
            if (!is(pupil) || other < -1 || other >= pupils || pupil == other) {
                return INVALID;
            }
            int before = guarantor[pupil];
            guarantor[pupil] = other;
            return before + 1;
        }

        int weeks(int many) {
            if (many < 1 || many > 20) {
                return INVALID;
            }
            if (weeks + many > 999) {
                return LIMIT;
            }
            int sum = 0;
            for (int i = 0; i < many; i++) {
                sum += week();
            }
            return sum;
        }

        int week() {
            weeks++;
            if (holidays) {
                return 0;
            }
            lots.forEach(l -> l.age++);
            int sum = 0;
            for (Lot l : new ArrayList<>(lots)) {
                if (l.age < setting[l.kind]) {
                    continue;
                }
                gave[l.debtor] += l.many;
                int g = guarantor[l.debtor];
                if (g != -1 && g != l.creditor && l.taken == 0) {
                    got[g] += l.many;
                    taken[g] += l.many;
                    l.debtor = g;
                    l.age = 0;
                    l.taken = 1;
                } else {
                    got[l.creditor] += l.many;
                    spoiled[l.debtor] += l.many;
                    sum += l.many;
                    lots.remove(l);
                }
            }
            return sum;
        }

        int holiday(boolean on) {
            int before = holidays ? 1 : 0;
            holidays = on;
            return before;
        }

        /** Of all rings the best, by trying every row of pupils. */
        List<Integer> ring(int kind) {
            boolean[][] edge = new boolean[8][8];
            for (Lot l : lots) {
                if (l.kind == kind) {
                    edge[l.debtor][l.creditor] = true;
                }
            }
            for (int length = 2; length <= 8; length++) {
                for (int first = 0; first < 8; first++) {
                    List<Integer> row = new ArrayList<>(List.of(first));
                    if (extend(edge, row, length)) {
                        return row;
                    }
                }
            }
            return null;
        }

        static boolean extend(boolean[][] edge, List<Integer> row, int length) {
            int last = row.get(row.size() - 1);
            if (row.size() == length) {
                return edge[last][row.get(0)];
            }
            for (int next = row.get(0) + 1; next < 8; next++) {
                if (edge[last][next] && !row.contains(next)) {
                    row.add(next);
                    if (extend(edge, row, length)) {
                        return true;
                    }
                    row.remove(row.size() - 1);
                }
            }
            return false;
        }

        int amount(List<Integer> ring, int kind) {
            int least = 1000;
            for (int i = 0; i < ring.size(); i++) {
                least = Math.min(least, owes(ring.get(i), ring.get((i + 1) % ring.size()), kind));
            }
            return least;
        }

        int clear(int kind) {
            if (kind < 0 || kind > 3) {
                return INVALID;
            }
            int sum = 0;
            for (List<Integer> ring = ring(kind); ring != null; ring = ring(kind)) {
                int many = amount(ring, kind);
                for (int i = 0; i < ring.size(); i++) {
                    take(ring.get(i), ring.get((i + 1) % ring.size()), kind, many);
                    cleared[ring.get(i)] += many;
                    sum += many;
                }
                rings++;
            }
            return sum;
        }

        int set(int what, int value) {
            if (what < 0 || what > 5 || value < 1 || value > (what == 4 ? 99 : 20)) {
                return INVALID;
            }
            int before = setting[what];
            setting[what] = value;
            return before;
        }

        int pupilOf(int pupil, int what) {
            if (!is(pupil) || what < 0 || what > 8) {
                return INVALID;
            }
            int[] all = {owesAll(pupil), owedAll(pupil), 1000 + owedAll(pupil) - owesAll(pupil),
                1000 + gave[pupil] - got[pupil], done[pupil], spoiled[pupil],
                guarantor[pupil] == -1 ? NOT_FOUND : guarantor[pupil], taken[pupil], cleared[pupil]};
            return all[what];
        }

        int lot(int place, int what) {
            if (place < 0 || what < 0 || what > 5) {
                return INVALID;
            }
            if (place >= lots.size()) {
                return NOT_FOUND;
            }
            Lot l = lots.get(place);
            return new int[] {l.debtor, l.creditor, l.kind, l.many, l.age, l.taken}[what];
        }

        int chain(int debtor, int creditor, int kind) {
            if (!is(debtor) || !is(creditor) || debtor == creditor || kind < 0 || kind > 3) {
                return INVALID;
            }
            int[][] far = new int[8][8];
            for (int[] row : far) {
                java.util.Arrays.fill(row, 100);
            }
            lots.stream().filter(l -> l.kind == kind).forEach(l -> far[l.debtor][l.creditor] = 1);
            for (int via = 0; via < 8; via++) {
                for (int a = 0; a < 8; a++) {
                    for (int b = 0; b < 8; b++) {
                        far[a][b] = Math.min(far[a][b], far[a][via] + far[via][b]);
                    }
                }
            }
            return far[debtor][creditor] >= 100 ? NOT_FOUND : far[debtor][creditor];
        }

        int deepest(int kind) {
            if (kind < 0 || kind > 3) {
                return INVALID;
            }
            int[] owed = new int[8];
            lots.stream().filter(l -> l.kind == kind).forEach(l -> owed[l.debtor] += l.many);
            int best = 0;
            for (int p = 7; p >= 0; p--) {
                best = owed[p] >= owed[best] ? p : best;
            }
            return owed[best] == 0 ? NOT_FOUND : best;
        }

        /** Lets weeks end in a copy without guarantors, until something of the pupil's is gone. */
        int spoilsIn(int pupil) {
            if (!is(pupil)) {
                return INVALID;
            }
            if (owesAll(pupil) == 0) {
                return NOT_FOUND;
            }
            State c = copy();
            c.holidays = false;
            java.util.Arrays.fill(c.guarantor, -1);
            int before = c.owesAll(pupil);
            for (int week = 1;; week++) {
                c.week();
                if (c.owesAll(pupil) != before) {
                    return week;
                }
            }
        }

        int richest(int rank) {
            if (rank < 0) {
                return INVALID;
            }
            List<Integer> order = new ArrayList<>();
            for (int p = 0; p < pupils; p++) {
                order.add(p);
            }
            order.sort((a, b) -> pupilOf(b, 2) - pupilOf(a, 2));
            return rank < order.size() ? order.get(rank) : NOT_FOUND;
        }

        int mean() {
            int many = 0;
            int ages = 0;
            for (Lot l : lots) {
                many += l.many;
                ages += l.many * l.age;
            }
            return many == 0 ? NOT_FOUND : Float.floatToIntBits((float) ages / (float) many);
        }
    }

    private static final class Model {
        static final Pattern ORDER =
            Pattern.compile("(?:[od]\\d{1,2},\\d{1,2},\\d{1,2},\\d{1,2}|g\\d{1,2},\\d{1,2}|[cw]\\d{1,2}|h);");
        State state = new State();
        List<State> history = new ArrayList<>();
        String text = "";
        int[] fault;
        int orders;

        int change(int answer, State before) {
            if (answer < 0) {
                state = before;
                return answer;
            }
            history.add(before);
            if (history.size() > 4) {
                history.remove(0);
            }
            return answer;
        }

        int undo() {
            if (history.isEmpty()) {
                return NOT_POSSIBLE;
            }
            state = history.remove(history.size() - 1);
            return history.size();
        }

        int type(int character) {
            if (character < 32 || character > 126) {
                return INVALID;
            }
            if (text.length() == 60) {
                return LIMIT;
            }
            text += (char) character;
            return text.length();
        }

        int clearText() {
            int before = text.length();
            text = "";
            return before;
        }

        void run(State on) {
            fault = null;
            orders = 0;
            String rest = text;
            while (!rest.isEmpty()) {
                int at = text.length() - rest.length();
                Matcher m = ORDER.matcher(rest);
                if (!m.lookingAt()) {
                    fault = new int[] {at, 1, breaksOff(rest)};
                    return;
                }
                String order = rest.substring(0, m.end() - 1);
                int answer = order(on, order);
                if (answer < 0) {
                    fault = new int[] {at, 2, answer};
                    return;
                }
                orders++;
                rest = rest.substring(m.end());
            }
        }

        /** The longest beginning that can still become an order. */
        static int breaksOff(String rest) {
            int length = 0;
            for (int end = 1; end <= rest.length(); end++) {
                Matcher m = ORDER.matcher(rest.substring(0, end));
                if (m.matches() || m.hitEnd()) {
                    length = end;
                }
            }
            return length;
        }

        static int order(State on, String order) {
            String[] parts = order.length() == 1 ? new String[0] : order.substring(1).split(",");
            int[] n = new int[4];
            for (int i = 0; i < parts.length; i++) {
                n[i] = Integer.parseInt(parts[i]);
            }
            switch (order.charAt(0)) {
                case 'o': return on.lend(n[0], n[1], n[2], n[3]);
                case 'd': return on.fulfil(n[0], n[1], n[2], n[3]);
                case 'g': return on.guarantee(n[0], n[1]);
                case 'c': return on.clear(n[0]);
                case 'w': return on.weeks(n[0]);
                default: return on.holiday(!on.holidays);
            }
        }

        int fault(int what) {
            if (what < 0 || what > 2) {
                return INVALID;
            }
            run(state.copy());
            return fault == null ? NOT_FOUND : fault[what];
        }

        int play() {
            State before = state.copy();
            run(state);
            return change(fault == null ? orders : NOT_POSSIBLE, before);
        }

        int count(int what) {
            State s = state;
            if (what >= 20 && what <= 25) {
                return s.setting[what - 20];
            }
            int owed = 0;
            int free = 0;
            int[] sums = new int[4];
            for (int p = 0; p < s.pupils; p++) {
                owed += s.owesAll(p);
                free |= s.guarantor[p] == -1 ? 1 << p : 0;
                sums[0] += s.done[p];
                sums[1] += s.spoiled[p];
                sums[2] += s.cleared[p];
                sums[3] += s.taken[p];
            }
            int[] all = {s.weeks, s.pupils, s.lots.size(), owed, s.lent, sums[0], sums[1], sums[2], sums[3],
                s.rings, s.holidays ? 1 : 0, free, history.size(), text.length()};
            return what < 0 || what >= all.length ? INVALID : all[what];
        }
    }

    private long seed;
    private final int run;
    private final List<String> told = new ArrayList<>();
    private final FavourRings real = new FavourRings();
    private final Model model = new Model();
    /** In such a run most pupils owe one another onwards only, so that long rings come, and many as short. */
    private final boolean isRound;
    /** In such a run most calls lend, so that there are 40 lots. */
    private final boolean isFull;
    /** Such a run begins with so many weeks that their bound comes near. */
    private final boolean isLate;
    private final int stride;
    private final int reach;
    private int calls = 0;
    private int odds = 1;
    private boolean isWrong = false;

    private ModelTests(int run) {
        this.run = run;
        seed = run * 7919L + 17;
        isRound = run % 3 == 1;
        isFull = run % 5 == 2;
        isLate = run % 11 == 5;
        stride = 2 * dice(4) + 1;
        reach = 1 + dice(4);
    }

    private int dice(int sides) {
        seed = seed * 6364136223846793005L + 1442695040888963407L;
        return (int) ((seed >>> 33) % sides);
    }

    /** Mostly from low to high, sometimes a little or far outside. */
    private int number(int low, int high) {
        int luck = dice(60);
        if (luck == 0) {
            return low - 1;
        }
        if (luck == 1) {
            return high + 1;
        }
        if (luck == 2) {
            int[] far = {Integer.MIN_VALUE, Integer.MAX_VALUE, -1000, 1000, 1 << 28, -(1 << 28), 0x2aaaaaab};
            return far[dice(far.length)];
        }
        return low + dice(high - low + 1);
    }

    private int pupil() {
        return number(0, Math.max(0, model.state.pupils - 1));
    }

    /** Told behind each call of the object, so that it counts them. */
    private void due(String call, int got, int want) {
        calls++;
        told.add(call + " = " + got);
        if (got != want && !isWrong) {
            isWrong = true;
            System.out.println("run " + run + ": " + call + " answered " + got + ", due is " + want + " after " + told);
        }
    }

    /** One question of as many as the odds tell is asked, so that the calls last. */
    private void ask(String call, IntSupplier got, IntSupplier want) {
        if (calls < CALLS && dice(odds) == 0) {
            due(call, got.getAsInt(), want.getAsInt());
        }
    }

    private void change() {
        State before = model.state.copy();
        int luck = isFull && dice(5) > 0 ? dice(45) : dice(100);
        int a = pupil();
        int b = pupil();
        int kind = dice(3) > 0 ? run % 4 : number(0, 3);
        int many = number(1, dice(3) > 0 ? 4 : 9);
        if (luck < 45) {
            b = isRound && dice(20) > 0 ? (a + stride * (1 + dice(reach)) & 7) : b;
            due("lend " + a + " " + b + " " + kind + " " + many, real.lend(a, b, kind, many),
                model.change(model.state.lend(a, b, kind, many), before));
        } else if (luck < 58) {
            Lot lot = model.state.lots.isEmpty() || dice(5) == 0 ? null
                : model.state.lots.get(dice(model.state.lots.size()));
            a = lot == null ? a : lot.debtor;
            b = lot == null ? b : lot.creditor;
            kind = lot == null ? kind : lot.kind;
            due("fulfil " + a + " " + b + " " + kind + " " + many, real.fulfil(a, b, kind, many),
                model.change(model.state.fulfil(a, b, kind, many), before));
        } else if (luck < 66) {
            b = dice(4) == 0 ? -1 : b;
            due("guarantee " + a + " " + b, real.guarantee(a, b), model.change(model.state.guarantee(a, b), before));
        } else if (luck < 80) {
            int w = dice(10) > 0 ? number(1, 3) : number(1, 20);
            due("weeks " + w, real.weeks(w), model.change(model.state.weeks(w), before));
        } else if (luck < 83) {
            boolean on = dice(3) == 0;
            due("holiday " + on, real.holiday(on), model.change(model.state.holiday(on), before));
        } else if (luck < (isRound ? 84 : 88)) {
            due("clear " + kind, real.clear(kind), model.change(model.state.clear(kind), before));
        } else if (luck < 94) {
            int what = number(0, 5);
            int value = what == 4 ? number(30, 99) : what == 5 && dice(4) > 0 ? 20 : number(1, 20);
            due("set " + what + " " + value, real.set(what, value), model.change(model.state.set(what, value), before));
        } else if (luck < 97) {
            for (int times = dice(4) == 0 ? 5 : 1; times > 0; times--) {
                due("undo", real.undo(), model.undo());
            }
        } else {
            addPupil();
        }
    }

    private void addPupil() {
        State before = model.state.copy();
        int answer = model.state.pupils == 8 ? LIMIT : model.state.pupils++;
        due("pupil", real.pupil(), model.change(answer, before));
    }

    private String anOrder() {
        char sign = "oooddgcwwh".charAt(dice(10));
        int many = sign == 'o' || sign == 'd' ? 4 : sign == 'g' ? 2 : sign == 'h' ? 0 : 1;
        int[] most = sign == 'c' ? new int[] {3} : sign == 'w' ? new int[] {dice(5) == 0 ? 20 : 4}
            : new int[] {Math.max(0, model.state.pupils - 1), Math.max(0, model.state.pupils - 1), 3, 9};
        StringBuilder order = new StringBuilder().append(sign);
        for (int i = 0; i < many; i++) {
            int value = i == 2 && dice(3) > 0 ? run % 4 : dice(most[i] + 1 + (dice(30) == 0 ? 2 : 0));
            order.append(i > 0 ? "," : "").append(dice(6) == 0 && value < 10 ? "0" : "").append(value);
        }
        order.append(';');
        if (dice(25) == 0) {
            int place = dice(order.length());
            String[] mess = {"", ",", ";", "0", "11", " ", "o", "h"};
            order.replace(place, place + dice(2), mess[dice(mess.length)]);
        }
        return order.toString();
    }

    private void text() {
        if (dice(3) > 0) {
            due("clearText", real.clearText(), model.clearText());
        }
        for (int i = dice(isFull ? 2 : 7); i >= 0; i--) {
            for (char c : anOrder().toCharArray()) {
                due("type " + c, real.type(c), model.type(c));
            }
        }
        int odd = number(32, 126);
        if (dice(12) == 0) {
            due("type " + odd, real.type(odd), model.type(odd));
        }
        for (int what = 0; what < 3; what++) {
            due("fault " + what + " of " + model.text, real.fault(what), model.fault(what));
        }
        if (dice(6) == 0) {
            int wrong = dice(2) == 0 ? -1 : 3;
            due("fault " + wrong + " of " + model.text, real.fault(wrong), model.fault(wrong));
        }
        due("play " + model.text, real.play(), model.play());
    }

    private void askSome(int ofSoMany) {
        odds = ofSoMany;
        State s = model.state;
        IntStream.rangeClosed(-1, 27).forEach(what ->
            ask("count " + what, () -> real.count(what), () -> model.count(what)));
        IntStream.rangeClosed(-1, s.pupils).forEach(pupil -> askPupil(s, pupil));
        IntStream.rangeClosed(-1, s.lots.size()).forEach(place ->
            IntStream.rangeClosed(-1, 6).forEach(what ->
                ask("lot " + place + " " + what, () -> real.lot(place, what), () -> s.lot(place, what))));
        IntStream.rangeClosed(-1, 4).forEach(kind -> askKind(s, kind));
        ask("mean", real::mean, s::mean);
    }

    private void askPupil(State s, int pupil) {
        IntStream.rangeClosed(-1, 9).forEach(what ->
            ask("pupilOf " + pupil + " " + what, () -> real.pupilOf(pupil, what), () -> s.pupilOf(pupil, what)));
        IntStream.rangeClosed(0, 10).forEach(many ->
            ask("why " + pupil + " " + many, () -> real.why(pupil, many),
                () -> !s.is(pupil) || many < 1 || many > 9 ? INVALID : s.why(pupil, many)));
        ask("spoilsIn " + pupil, () -> real.spoilsIn(pupil), () -> s.spoilsIn(pupil));
        ask("richest " + pupil, () -> real.richest(pupil), () -> s.richest(pupil));
    }

    private void askKind(State s, int kind) {
        IntStream.rangeClosed(-1, 8).forEach(place ->
            ask("ring " + kind + " " + place, () -> real.ring(kind, place), () -> ring(s, kind, place)));
        ask("amount " + kind, () -> real.amount(kind), () -> amount(s, kind));
        ask("deepest " + kind, () -> real.deepest(kind), () -> s.deepest(kind));
        IntStream.rangeClosed(-1, 3).forEach(what ->
            ask("ifCleared " + kind + " " + what, () -> real.ifCleared(kind, what), () -> ifCleared(s, kind, what)));
        IntStream.range(0, s.pupils).forEach(a ->
            IntStream.range(0, s.pupils).forEach(b -> askPair(s, a, b, kind)));
    }

    private void askPair(State s, int a, int b, int kind) {
        ask("owes " + a + " " + b + " " + kind, () -> real.owes(a, b, kind),
            () -> isKind(kind) && s.is(a) && s.is(b) ? s.owes(a, b, kind) : INVALID);
        ask("chain " + a + " " + b + " " + kind, () -> real.chain(a, b, kind), () -> s.chain(a, b, kind));
    }

    private static boolean isKind(int kind) {
        return kind >= 0 && kind <= 3;
    }

    private static int ring(State s, int kind, int place) {
        if (!isKind(kind) || place < 0) {
            return INVALID;
        }
        List<Integer> ring = s.ring(kind);
        return ring == null || place >= ring.size() ? NOT_FOUND : ring.get(place);
    }

    private static int amount(State s, int kind) {
        if (!isKind(kind)) {
            return INVALID;
        }
        List<Integer> ring = s.ring(kind);
        return ring == null ? NOT_FOUND : s.amount(ring, kind);
    }

    private static int ifCleared(State s, int kind, int what) {
        if (!isKind(kind) || what < 0 || what > 2) {
            return INVALID;
        }
        State c = s.copy();
        return new int[] {c.clear(kind), c.rings - s.rings, c.lots.size()}[what];
    }

    /** A question with an argument that may be far outside. */
    private void askOne() {
        odds = 1;
        State s = model.state;
        int a = pupil();
        int b = pupil();
        int kind = dice(3) > 0 ? run % 4 : number(0, 3);
        int what = number(0, 8);
        switch (dice(6)) {
            case 0:
                askPair(s, a, b, kind);
                break;
            case 1:
                ask("ring " + kind + " " + what, () -> real.ring(kind, what), () -> ring(s, kind, what));
                ask("amount " + kind, () -> real.amount(kind), () -> amount(s, kind));
                break;
            case 2:
                ask("ifCleared " + kind + " " + what / 2, () -> real.ifCleared(kind, what / 2),
                    () -> ifCleared(s, kind, what / 2));
                ask("deepest " + kind, () -> real.deepest(kind), () -> s.deepest(kind));
                break;
            case 3:
                ask("pupilOf " + a + " " + what, () -> real.pupilOf(a, what), () -> s.pupilOf(a, what));
                break;
            case 4:
                ask("spoilsIn " + a, () -> real.spoilsIn(a), () -> s.spoilsIn(a));
                break;
            default:
                ask("richest " + a, () -> real.richest(a), () -> s.richest(a));
                ask("mean", real::mean, s::mean);
        }
    }

    private boolean isRight() {
        for (int i = isRound || isFull ? 8 : run % 9; i > 0; i--) {
            addPupil();
        }
        for (int weeks = isLate ? 49 : 0; weeks > 0; weeks--) {
            State before = model.state.copy();
            due("weeks 20", real.weeks(20), model.change(model.state.weeks(20), before));
        }
        for (int step = 0; calls <= CALLS - STEP && !isWrong; step++) {
            if (dice(isFull ? 40 : 14) == 0) {
                text();
            } else {
                change();
            }
            if (dice(isFull ? 4 : 2) == 0) {
                askOne();
            }
            if (step % 10 == 9) {
                askSome(isFull ? 150 : 60);
            }
        }
        askSome(10);
        return !isWrong && calls <= CALLS;
    }

    public static void main(String[] args) {
        int runs = args.length > 0 ? Integer.parseInt(args[0]) : 4000;
        int bad = 0;
        for (int run = 0; run < runs && bad < 5; run++) {
            bad += new ModelTests(run).isRight() ? 0 : 1;
        }
        System.out.println(bad == 0 ? runs + " runs are as the model's" : bad + " runs are not as the model's");
        if (bad != 0) {
            System.exit(1);
        }
    }
}
