import java.util.Arrays;

/** Berths on a quay with a tide, cranes on one rail, gangs by shifts and ships with contracts. */
public final class QuayBerths {
    public static final int NONE = -1;

    private static final int NOT_SO = -2;
    private static final int TAPE_BYTES = 1200;
    private static final int FEED_BYTES = 20;

    private static final int SLOTS = 336;
    private static final int DAYS = 7;
    private static final int DAY_SLOTS = 48;
    private static final int DAY_SHIFTS = 3;
    private static final int SHIFTS = 21;
    private static final int SHIFT_SLOTS = 16;

    private static final int MOST_SECTIONS = 8;
    private static final int MOST_CRANES = 8;
    private static final int MOST_TIDES = 30;
    private static final int MOST_SHIPS = 14;
    private static final int MOST_WATER = 300;
    private static final int NAME_LETTERS = 8;
    private static final int NUMBER_DIGITS = 4;

    private static final int QUAY = 0;
    private static final int GAP = 1;
    private static final int KEEL = 2;
    private static final int CHANNEL = 3;
    private static final int RATE = 4;
    private static final int LOSS = 5;
    private static final int SETTINGS = 6;
    private static final int SECTION = 6;
    private static final int CRANE = 7;
    private static final int TIDE = 8;
    private static final int GANGS = 9;
    private static final int SHIP = 10;
    private static final int LINE_KINDS = 11;

    private static final int[] NUMBERS_OF = {1, 1, 1, 1, 1, 1, 2, 2, 2, 3, 9};
    private static final int[] FIRST_NUMBER_OF = {0, 1, 2, 3, 4, 5, 6, 8, 10, 12, 15};
    private static final int[] LEAST_NUMBER = {
        50, 0, 0, 0, 1, 0, 0, 0, 0, 0, 0, 0, 0, 0, 0, 1, 0, 0, 0, 0, 0, 0, 1, 1};
    private static final int[] GREATEST_NUMBER = {
        999, 50, 30, 300, 99, 10, 999, 300, 999, 999, 335, 99, 6, 2, 9,
        400, 300, 300, 9999, 335, 999, 3, 8, 8};
    private static final int[] WITHOUT_A_LINE = {300, 0, 0, 100, 12, 0};
    private static final int DEPTH_WITHOUT_SECTION = 100;

    private static final int CAN_NOT_STAND = 1;
    private static final int OUT_OF_BOUNDS = 2;
    private static final int TOLD_ALREADY = 3;
    private static final int ONE_TOO_MANY = 4;

    private static final int CONTRACT = 9;
    private static final int LONG = 0;
    private static final int DRAFT = 1;
    private static final int OUT = 2;
    private static final int BOXES = 3;
    private static final int FROM = 4;
    private static final int DUE = 5;
    private static final int RANK = 6;
    private static final int LEAST = 7;
    private static final int MOST = 8;
    private static final int SHIP_FACTS = 18;

    private static final int RANKS = 4;
    private static final int RULES = 4;
    private static final int MOST_ACTS = 12;
    private static final int MARKS = 4;
    private static final int FIRST_SHIPS = 4;
    private static final int TENS = 10;
    private static final int MOST_PLACES = 100;
    private static final int SAVED = 42;
    private static final int WRITTEN_BYTES = 266;
    private static final int FAR_OUT = 100000;

    private final byte[] tape;
    private int tapeLength;
    private final Told told;
    private final Told heard;
    private final Reader reader;
    private final Waters waters;
    private final Stays stays;
    private final Dealer dealer;
    private final Laws laws;
    private final Search search;
    private final Ranking ranking;
    private final FirstFour firstFour;
    private final History history;
    private final Written written;
    private final int[] before;

    public QuayBerths() {
        tape = new byte[TAPE_BYTES];
        told = new Told();
        heard = new Told();
        told.forget();
        reader = new Reader(tape, heard);
        waters = new Waters(told);
        stays = new Stays(told, waters);
        dealer = new Dealer(told, stays);
        laws = new Laws(told, waters, stays, dealer);
        search = new Search(told, waters, laws, dealer);
        ranking = new Ranking(told);
        firstFour = new FirstFour(told, stays, search);
        history = new History();
        written = new Written();
        before = new int[SAVED];
    }

    public int feed(int a, int b, int c, int d, int e) {
        if (tapeLength + FEED_BYTES > TAPE_BYTES) {
            return NONE;
        }
        takeBytes(a);
        takeBytes(b);
        takeBytes(c);
        takeBytes(d);
        takeBytes(e);
        return tapeLength;
    }

    private void takeBytes(int four) {
        for (int shift = 24; shift >= 0 && tapeLength < TAPE_BYTES; shift -= 8) {
            tape[tapeLength] = (byte) (four >> shift);
            tapeLength++;
        }
    }

    public int text(int k) {
        if (k < 0 || k > tapeLength) {
            return NOT_SO;
        }
        tapeLength = 0;
        int lines = reader.readText(k);
        if (lines == NONE) {
            return NONE;
        }
        told.takeOver(heard);
        waters.reckon();
        stays.clear();
        history.forget();
        firstFour.known = false;
        return lines;
    }

    public int fault(int what) {
        switch (what) {
            case 0:
                return reader.fault;
            case 1:
                return reader.place;
            default:
                return NONE;
        }
    }

    // ---- what is told

    public int count(int what) {
        if (what >= 0 && what < SETTINGS) {
            return told.setting[what];
        }
        switch (what) {
            case 6:
                return told.sections;
            case 7:
                return told.cranes;
            case 8:
                return told.tides;
            case 9:
                return told.ships;
            case 10:
                return stays.howMany();
            case 11:
                return history.acts;
            case 12:
                return history.marksMade();
            case 13:
                return tapeLength;
            case 14:
                return costOfAll();
            case 15:
                return stays.busyIn(0, SLOTS);
            default:
                return NONE;
        }
    }

    private int costOfAll() {
        int sum = 0;
        for (int one = 0; one < told.ships; one++) {
            if (stays.has(one)) {
                sum += stays.costOf(one);
            }
        }
        return sum;
    }

    public int depth(int metre) {
        return isMetre(metre) ? told.depthOf(metre) : NONE;
    }

    public int shallow(int from, int to) {
        if (!isMetre(from) || !isMetre(to) || to < from) {
            return NONE;
        }
        return told.shallowest(from, to);
    }

    public int level(int slot) {
        return isSlot(slot) ? waters.levels[slot] : NONE;
    }

    public int gangs(int day, int shift) {
        return isShift(day, shift) ? told.gangsIn(day * DAY_SHIFTS + shift) : NONE;
    }

    public int crane(int crane, int what) {
        if (!isCrane(crane)) {
            return NONE;
        }
        switch (what) {
            case 0:
                return told.craneFirst[crane];
            case 1:
                return told.craneLast[crane];
            default:
                return NONE;
        }
    }

    public int ship(int ship, int what) {
        if (!isShip(ship) || what < 0 || what >= SHIP_FACTS) {
            return NONE;
        }
        if (what < CONTRACT) {
            return told.contractOf(ship, what);
        }
        return stays.has(ship) ? stayFact(ship, what) : NOT_SO;
    }

    private int stayFact(int one, int what) {
        switch (what) {
            case 9:
                return stays.metre[one];
            case 10:
                return stays.start[one];
            case 11:
                return stays.cranes[one];
            case 12:
                return stays.work[one];
            case 13:
                return stays.leave[one];
            case 14:
                return stays.start[one] - told.contractOf(one, FROM);
            case 15:
                return stays.leave[one] - stays.start[one] - stays.work[one];
            case 16:
                return stays.lateOf(one);
            case 17:
                return stays.costOf(one);
            default:
                return NONE;
        }
    }

    public int letter(int ship, int i) {
        if (!isShip(ship) || i < 0 || i >= NAME_LETTERS) {
            return NONE;
        }
        int sign = told.nameByte(ship, i);
        return sign == 0 ? 0 : sign - 'a' + 1;
    }

    public int moves(int k) {
        return isCraneNumber(k) ? told.movesWith(k) : NONE;
    }

    // ---- tide

    public int open(int water, int slot) {
        if (!isWater(water) || !isSlot(slot)) {
            return NONE;
        }
        return waters.isOpen(water, slot) ? 1 : 0;
    }

    public int next(int water, int slot) {
        if (!isWater(water) || !isSlot(slot)) {
            return NONE;
        }
        int first = waters.firstOpen(water, slot);
        return first == NONE ? NOT_SO : first;
    }

    public int shut(int water, int what) {
        if (!isWater(water) || what < 0 || what > 1) {
            return NONE;
        }
        int longest = 0;
        int first = NOT_SO;
        int row = 0;
        for (int slot = 0; slot < SLOTS; slot++) {
            row = waters.isOpen(water, slot) ? 0 : row + 1;
            if (row > longest) {
                longest = row;
                first = slot - row + 1;
            }
        }
        return what == 0 ? longest : first;
    }

    public int tide(int from, int to, int what) {
        if (!isSlot(from) || !isSlot(to) || to < from || what < 0 || what > 3) {
            return NONE;
        }
        int high = from;
        int low = from;
        for (int slot = from; slot <= to; slot++) {
            if (waters.levels[slot] > waters.levels[high]) {
                high = slot;
            }
            if (waters.levels[slot] < waters.levels[low]) {
                low = slot;
            }
        }
        int wanted = what < 2 ? high : low;
        return what % 2 == 0 ? waters.levels[wanted] : wanted;
    }

    // ---- a stay

    public int breaks(int ship, int x, int t, int k) {
        if (!isShip(ship)) {
            return NONE;
        }
        stays.takeUp(ship);
        int law = laws.firstBroken(ship, x, t, k);
        stays.layBack(ship);
        return law;
    }

    public int inWay(int ship, int x, int t, int k) {
        if (!isShip(ship)) {
            return NONE;
        }
        if (!laws.fits(ship, x) || laws.ofTime(ship, t, k) != 0) {
            return 0;
        }
        int bits = 0;
        for (int other = 0; other < told.ships; other++) {
            if (laws.crowds(other, ship, x, t)) {
                bits |= 1 << other;
            }
        }
        return bits;
    }

    public int earliest(int ship, int k, int what) {
        if (!isShip(ship) || !isCraneNumber(k) || what < 0 || what > 2) {
            return NONE;
        }
        stays.takeUp(ship);
        boolean found = search.find(ship, k, k);
        stays.layBack(ship);
        if (!found) {
            return NOT_SO;
        }
        switch (what) {
            case 0:
                return search.slot;
            case 1:
                return search.metre;
            default:
                return search.leave;
        }
    }

    public int put(int ship, int x, int t, int k) {
        if (!isShip(ship) || stays.has(ship)) {
            return NONE;
        }
        int law = laws.firstBroken(ship, x, t, k);
        if (law != 0) {
            return refusal(law);
        }
        stays.save(before);
        stays.lay(ship, x, t, k);
        keepAct();
        return stays.leave[ship];
    }

    private static int refusal(int law) {
        return -1 - law;
    }

    private void keepAct() {
        history.keep(before);
        firstFour.known = false;
    }

    public int itself(int ship) {
        if (!isShip(ship) || stays.has(ship)) {
            return NONE;
        }
        stays.save(before);
        if (!layByItself(ship)) {
            return NOT_SO;
        }
        keepAct();
        return stays.start[ship];
    }

    private boolean layByItself(int one) {
        if (!search.find(one, told.contractOf(one, MOST), told.contractOf(one, LEAST))) {
            return false;
        }
        stays.lay(one, search.metre, search.slot, search.cranes);
        return true;
    }

    public boolean away(int ship) {
        if (!isShip(ship) || !stays.has(ship)) {
            return false;
        }
        stays.save(before);
        stays.lift(ship);
        keepAct();
        return true;
    }

    public int move(int ship, int x, int t) {
        if (!isShip(ship) || !stays.has(ship) || (x == 0 && t == 0)) {
            return NONE;
        }
        int toMetre = sum(stays.metre[ship], x);
        int toSlot = sum(stays.start[ship], t);
        int k = stays.cranes[ship];
        stays.save(before);
        stays.takeUp(ship);
        int law = laws.firstBroken(ship, toMetre, toSlot, k);
        if (law != 0) {
            stays.layBack(ship);
            return refusal(law);
        }
        stays.lay(ship, toMetre, toSlot, k);
        keepAct();
        return stays.leave[ship];
    }

    /** Wrapped around, a far later slot would seem a far earlier one and break another law. */
    private static int sum(int one, int other) {
        long exact = (long) one + other;
        return (int) Math.max(-FAR_OUT, Math.min(FAR_OUT, exact));
    }

    public int swap(int one, int other) {
        if (!isShip(one) || !isShip(other) || one == other || !stays.has(one) || !stays.has(other)) {
            return NONE;
        }
        int oneMetre = stays.metre[one];
        int oneSlot = stays.start[one];
        int otherMetre = stays.metre[other];
        int otherSlot = stays.start[other];
        int oneCranes = stays.cranes[one];
        int otherCranes = stays.cranes[other];
        stays.save(before);
        stays.lift(one);
        stays.lift(other);
        int law = layLawful(one, otherMetre, otherSlot, oneCranes);
        if (law == 0) {
            law = layLawful(other, oneMetre, oneSlot, otherCranes);
        }
        if (law != 0) {
            stays.load(before);
            return refusal(law);
        }
        keepAct();
        return stays.leave[one];
    }

    private int layLawful(int one, int x, int t, int k) {
        int law = laws.firstBroken(one, x, t, k);
        if (law == 0) {
            stays.lay(one, x, t, k);
        }
        return law;
    }

    public int squeeze() {
        stays.save(before);
        int earlier = 0;
        int slot = NONE;
        int last = NONE;
        for (int turn = 0; turn < told.ships; turn++) {
            int one = nextByOldSlot(slot, last);
            if (one == NONE) {
                break;
            }
            slot = before[one * 3 + 1];
            last = one;
            if (drawEarlier(one)) {
                earlier++;
            }
        }
        if (earlier == 0) {
            return NONE;
        }
        keepAct();
        return earlier;
    }

    /** The next ship by (slot, number) of the saved stays: ships that were drawn earlier don't come twice. */
    private int nextByOldSlot(int slot, int last) {
        int found = NONE;
        int foundSlot = SLOTS;
        for (int one = 0; one < told.ships; one++) {
            int old = before[one * 3 + 1];
            boolean behind = old > slot || (old == slot && one > last);
            if (before[one * 3 + 2] > 0 && behind && old < foundSlot) {
                found = one;
                foundSlot = old;
            }
        }
        return found;
    }

    private boolean drawEarlier(int one) {
        int x = stays.metre[one];
        int k = stays.cranes[one];
        int own = stays.start[one];
        stays.takeUp(one);
        for (int t = told.contractOf(one, FROM); t < own; t++) {
            if (layLawful(one, x, t, k) == 0) {
                return true;
            }
        }
        stays.layBack(one);
        return false;
    }

    public int places(int ship, int t, int k, int i) {
        if (!isShip(ship) || i < NONE) {
            return NONE;
        }
        stays.takeUp(ship);
        int found = 0;
        int answer = NOT_SO;
        int top = told.setting[QUAY] - told.contractOf(ship, LONG);
        for (int x = 0; x <= top; x += TENS) {
            if (laws.firstBroken(ship, x, t, k) == 0) {
                if (found == i) {
                    answer = x;
                }
                found++;
            }
        }
        stays.layBack(ship);
        return i == NONE ? found : answer;
    }

    public int hopeless() {
        stays.save(before);
        stays.clear();
        int bits = 0;
        for (int one = 0; one < told.ships; one++) {
            if (!search.find(one, told.contractOf(one, MOST), told.contractOf(one, LEAST))) {
                bits |= 1 << one;
            }
        }
        stays.load(before);
        return bits;
    }

    public int slack(int ship) {
        if (!isShip(ship)) {
            return NONE;
        }
        if (!stays.has(ship)) {
            return NOT_SO;
        }
        int x = stays.metre[ship];
        int own = stays.start[ship];
        int k = stays.cranes[ship];
        stays.takeUp(ship);
        int t = SLOTS - 1;
        while (t > own && laws.firstBroken(ship, x, t, k) != 0) {
            t--;
        }
        stays.layBack(ship);
        return t - own;
    }

    public int along(int ship, int what) {
        if (!isShip(ship) || what < 0 || what > 1) {
            return NONE;
        }
        if (!stays.has(ship)) {
            return NOT_SO;
        }
        int x = stays.metre[ship];
        int t = stays.start[ship];
        int k = stays.cranes[ship];
        int step = what == 0 ? -1 : 1;
        stays.takeUp(ship);
        for (int far = 0; far < told.setting[QUAY]; far++) {
            if (laws.firstBroken(ship, x + step, t, k) != 0) {
                break;
            }
            x += step;
        }
        stays.layBack(ship);
        return x;
    }

    // ---- all

    public int order(int rule, int i) {
        if (!isRule(rule) || i < 0) {
            return NONE;
        }
        return i < told.ships ? ranking.shipAt(rule, i) : NOT_SO;
    }

    public int all(int rule) {
        if (!isRule(rule)) {
            return NONE;
        }
        if (stays.howMany() == told.ships) {
            return NOT_SO;
        }
        stays.save(before);
        int laid = 0;
        for (int i = 0; i < told.ships; i++) {
            int one = ranking.shipAt(rule, i);
            if (one != NONE && !stays.has(one) && layByItself(one)) {
                laid++;
            }
        }
        keepAct();
        return laid;
    }

    public int best(int what) {
        if (what < 0 || what > FIRST_SHIPS + 1 || stays.howMany() == told.ships) {
            return NONE;
        }
        firstFour.reckon();
        switch (what) {
            case 0:
                return firstFour.leftOut;
            case 1:
                return firstFour.cost;
            default:
                return what - 2 < firstFour.ships ? firstFour.chosen[what - 2] : NOT_SO;
        }
    }

    public int four() {
        firstFour.reckon();
        if (firstFour.leftOut >= firstFour.ships) {
            return NONE;
        }
        stays.save(before);
        int laid = 0;
        for (int i = 0; i < firstFour.ships; i++) {
            if (layByItself(firstFour.chosen[i])) {
                laid++;
            }
        }
        keepAct();
        return laid;
    }

    // ---- who lies where

    public int at(int slot, int metre) {
        if (!isSlot(slot) || !isMetre(metre)) {
            return NONE;
        }
        for (int one = 0; one < told.ships; one++) {
            if (stays.liesIn(one, slot) && metre >= stays.metre[one] && metre <= stays.lastMetre[one]) {
                return one;
            }
        }
        return NOT_SO;
    }

    public int lies(int slot, int i) {
        if (!isSlot(slot) || i < NONE) {
            return NONE;
        }
        stays.lineUp();
        int found = 0;
        int answer = NOT_SO;
        for (int place = 0; place < stays.rowLength; place++) {
            int one = stays.row[place];
            if (stays.liesIn(one, slot)) {
                if (found == i) {
                    answer = one;
                }
                found++;
            }
        }
        return i == NONE ? found : answer;
    }

    public int free(int slot, int what) {
        if (!isSlot(slot) || what < 0 || what > 1) {
            return NONE;
        }
        stays.lineUp();
        int longest = 0;
        int first = NOT_SO;
        int from = 0;
        for (int place = 0; place <= stays.rowLength; place++) {
            boolean end = place == stays.rowLength;
            if (end || stays.liesIn(stays.row[place], slot)) {
                int to = end ? told.setting[QUAY] : stays.metre[stays.row[place]];
                if (to - from > longest) {
                    longest = to - from;
                    first = from;
                }
                from = end ? to : stays.lastMetre[stays.row[place]] + 1;
            }
        }
        return what == 0 ? longest : first;
    }

    public int works(int crane, int slot) {
        if (!isCrane(crane) || !isSlot(slot)) {
            return NONE;
        }
        stays.lineUp();
        dealer.deal(slot, NONE);
        int one = dealer.taker[crane];
        return one == NONE ? NOT_SO : one;
    }

    public int hours(int crane) {
        if (!isCrane(crane)) {
            return NONE;
        }
        stays.lineUp();
        int sum = 0;
        for (int slot = 0; slot < SLOTS; slot++) {
            if (stays.busy[slot] > 0) {
                dealer.deal(slot, NONE);
                sum += dealer.taker[crane] == NONE ? 0 : 1;
            }
        }
        return sum;
    }

    public int left(int ship, int slot) {
        if (!isShip(ship) || !isSlot(slot)) {
            return NONE;
        }
        return told.contractOf(ship, BOXES) - stays.movedAhead(ship, slot);
    }

    public int shift(int day, int shift, int what) {
        if (!isShift(day, shift)) {
            return NONE;
        }
        int number = day * DAY_SHIFTS + shift;
        int from = number * SHIFT_SLOTS;
        int to = from + SHIFT_SLOTS;
        switch (what) {
            case 0:
                return movedIn(number);
            case 1:
                return stays.busiestIn(from, to);
            case 2:
                return stays.busyIn(from, to);
            case 3:
                return SHIFT_SLOTS * told.gangsIn(number) - stays.busyIn(from, to);
            default:
                return NONE;
        }
    }

    private int movedIn(int shiftNumber) {
        int from = shiftNumber * SHIFT_SLOTS;
        int sum = 0;
        for (int one = 0; one < told.ships; one++) {
            sum += stays.movedAhead(one, from + SHIFT_SLOTS) - stays.movedAhead(one, from);
        }
        return sum;
    }

    public int busiest(int what) {
        if (what < 0 || what > 1) {
            return NONE;
        }
        int found = 0;
        int most = 0;
        for (int number = 0; number < SHIFTS; number++) {
            int moved = movedIn(number);
            if (moved > most) {
                found = number;
                most = moved;
            }
        }
        return what == 0 ? found : most;
    }

    public int without(int crane) {
        if (!isCrane(crane)) {
            return NONE;
        }
        stays.lineUp();
        int sum = 0;
        for (int slot = 0; slot < SLOTS; slot++) {
            if (stays.busy[slot] > 0 && !dealer.deal(slot, crane)) {
                sum++;
            }
        }
        return sum;
    }

    public int used(int day) {
        if (day < 0 || day >= DAYS) {
            return NONE;
        }
        int sum = 0;
        for (int one = 0; one < told.ships; one++) {
            sum += told.contractOf(one, LONG) * stays.slotsIn(one, day * DAY_SLOTS, (day + 1) * DAY_SLOTS);
        }
        return sum * 100 / (Math.max(1, told.setting[QUAY]) * DAY_SLOTS);
    }

    // ---- by ranks, by leaving

    public int rank(int rank, int what) {
        if (rank < 0 || rank >= RANKS || what < 0 || what > 4) {
            return NONE;
        }
        int sum = 0;
        int greatest = 0;
        for (int one = 0; one < told.ships; one++) {
            if (told.contractOf(one, RANK) == rank && (what == 0 || stays.has(one))) {
                sum += rankShare(one, what);
                greatest = Math.max(greatest, stays.lateOf(one));
            }
        }
        return what == 3 ? greatest : sum;
    }

    private int rankShare(int one, int what) {
        switch (what) {
            case 2:
                return stays.lateOf(one);
            case 4:
                return stays.costOf(one);
            default:
                return 1;
        }
    }

    public int leaver(int i) {
        if (i < 0) {
            return NONE;
        }
        for (int one = 0; one < told.ships; one++) {
            if (stays.has(one) && leaversAhead(one) == i) {
                return one;
            }
        }
        return NOT_SO;
    }

    private int leaversAhead(int one) {
        int ahead = 0;
        for (int other = 0; other < told.ships; other++) {
            boolean sooner = stays.leave[other] < stays.leave[one]
                || (stays.leave[other] == stays.leave[one] && other < one);
            if (stays.has(other) && sooner) {
                ahead++;
            }
        }
        return ahead;
    }

    public int meet(int one, int other) {
        if (!isShip(one) || !isShip(other) || one == other) {
            return NONE;
        }
        return stays.has(one) ? stays.slotsIn(other, stays.start[one], stays.leave[one]) : 0;
    }

    // ---- written

    public int write() {
        written.length = 0;
        for (int one = 0; one < told.ships; one++) {
            if (stays.has(one)) {
                for (int i = 0; i < NAME_LETTERS && told.nameByte(one, i) != 0; i++) {
                    written.add(told.nameByte(one, i));
                }
                written.addNumber(stays.metre[one]);
                written.addNumber(stays.start[one]);
                written.addNumber(stays.cranes[one]);
                written.add(';');
            }
        }
        return written.length;
    }

    public int octet(int i) {
        return i >= 0 && i < written.length ? written.bytes[i] : NONE;
    }

    // ---- undone, marks

    public int differs(int mark) {
        if (!history.isMade(mark)) {
            return NONE;
        }
        int bits = 0;
        for (int one = 0; one < told.ships; one++) {
            if (!stays.isAsSaved(one, history.marks[mark])) {
                bits |= 1 << one;
            }
        }
        return bits;
    }

    public int undo() {
        if (!history.takeLatest(before)) {
            return NONE;
        }
        stays.load(before);
        firstFour.known = false;
        return history.acts;
    }

    public int mark(int mark) {
        if (mark < 0 || mark >= MARKS) {
            return NONE;
        }
        stays.save(history.marks[mark]);
        history.made |= 1 << mark;
        return stays.howMany();
    }

    public int back(int mark) {
        if (!history.isMade(mark)) {
            return NONE;
        }
        stays.load(history.marks[mark]);
        history.acts = 0;
        firstFour.known = false;
        return stays.howMany();
    }

    private boolean isShip(int ship) {
        return ship >= 0 && ship < told.ships;
    }

    private boolean isCrane(int crane) {
        return crane >= 0 && crane < told.cranes;
    }

    private boolean isMetre(int metre) {
        return metre >= 0 && metre < told.setting[QUAY];
    }

    private static boolean isSlot(int slot) {
        return slot >= 0 && slot < SLOTS;
    }

    private static boolean isShift(int day, int shift) {
        return day >= 0 && day < DAYS && shift >= 0 && shift < DAY_SHIFTS;
    }

    private static boolean isWater(int water) {
        return water >= 0 && water <= MOST_WATER;
    }

    private static boolean isCraneNumber(int k) {
        return k >= 1 && k <= MOST_CRANES;
    }

    private static boolean isRule(int rule) {
        return rule >= 0 && rule < RULES;
    }

    /** What a TEXT tells. */
    private static final class Told {
        final int[] setting = new int[SETTINGS];
        int settingsTold;
        int sections;
        final int[] sectionFrom = new int[MOST_SECTIONS];
        final int[] sectionDepth = new int[MOST_SECTIONS];
        int cranes;
        final int[] craneFirst = new int[MOST_CRANES];
        final int[] craneLast = new int[MOST_CRANES];
        int tides;
        final int[] tideSlot = new int[MOST_TIDES];
        final int[] tideLevel = new int[MOST_TIDES];
        final int[] gangsTold = new int[SHIFTS];
        int ships;
        final int[] contract = new int[MOST_SHIPS * CONTRACT];
        final int[] name = new int[MOST_SHIPS * NAME_LETTERS];

        void forget() {
            System.arraycopy(WITHOUT_A_LINE, 0, setting, 0, SETTINGS);
            settingsTold = 0;
            sections = 0;
            cranes = 0;
            tides = 0;
            Arrays.fill(gangsTold, NONE);
            ships = 0;
        }

        void takeOver(Told other) {
            System.arraycopy(other.setting, 0, setting, 0, SETTINGS);
            settingsTold = other.settingsTold;
            sections = other.sections;
            System.arraycopy(other.sectionFrom, 0, sectionFrom, 0, MOST_SECTIONS);
            System.arraycopy(other.sectionDepth, 0, sectionDepth, 0, MOST_SECTIONS);
            cranes = other.cranes;
            System.arraycopy(other.craneFirst, 0, craneFirst, 0, MOST_CRANES);
            System.arraycopy(other.craneLast, 0, craneLast, 0, MOST_CRANES);
            tides = other.tides;
            System.arraycopy(other.tideSlot, 0, tideSlot, 0, MOST_TIDES);
            System.arraycopy(other.tideLevel, 0, tideLevel, 0, MOST_TIDES);
            System.arraycopy(other.gangsTold, 0, gangsTold, 0, SHIFTS);
            ships = other.ships;
            System.arraycopy(other.contract, 0, contract, 0, MOST_SHIPS * CONTRACT);
            System.arraycopy(other.name, 0, name, 0, MOST_SHIPS * NAME_LETTERS);
        }

        boolean isSetAlready(int kind) {
            return kind < SETTINGS && (settingsTold >> kind & 1) != 0;
        }

        boolean isFull(int kind) {
            switch (kind) {
                case SECTION:
                    return sections >= MOST_SECTIONS;
                case CRANE:
                    return cranes >= MOST_CRANES;
                case TIDE:
                    return tides >= MOST_TIDES;
                case SHIP:
                    return ships >= MOST_SHIPS;
                default:
                    return false;
            }
        }

        /** Whether number i of a LINE, the numbers ahead of it as they are, tells once more what was told. */
        boolean isToldAlready(int kind, int i, int[] number) {
            switch (kind) {
                case SECTION:
                    return i == 0 && holds(sectionFrom, sections, number[0]);
                case TIDE:
                    return i == 0 && holds(tideSlot, tides, number[0]);
                case GANGS:
                    return i == 1 && gangsTold[number[0] * DAY_SHIFTS + number[1]] != NONE;
                default:
                    return false;
            }
        }

        private static boolean holds(int[] row, int length, int wanted) {
            for (int i = 0; i < length; i++) {
                if (row[i] == wanted) {
                    return true;
                }
            }
            return false;
        }

        /** The ship that is being told has its name's place already, but counts only when its LINE ends. */
        void nameNextShip(byte[] bytes, int begin, int letters) {
            if (ships < MOST_SHIPS) {
                for (int i = 0; i < NAME_LETTERS; i++) {
                    name[ships * NAME_LETTERS + i] = i < letters ? bytes[begin + i] : 0;
                }
            }
        }

        boolean isNextNameToldAlready() {
            for (int one = 0; one < ships; one++) {
                int same = 0;
                while (same < NAME_LETTERS && nameByte(one, same) == nameByte(ships, same)) {
                    same++;
                }
                if (same == NAME_LETTERS) {
                    return true;
                }
            }
            return false;
        }

        void take(int kind, int[] number) {
            if (kind < SETTINGS) {
                setting[kind] = number[0];
                settingsTold |= 1 << kind;
            } else if (kind == SECTION) {
                sectionFrom[sections] = number[0];
                sectionDepth[sections] = number[1];
                sections++;
            } else if (kind == CRANE) {
                craneFirst[cranes] = number[0];
                craneLast[cranes] = number[1];
                cranes++;
            } else if (kind == TIDE) {
                tideSlot[tides] = number[0];
                tideLevel[tides] = number[1];
                tides++;
            } else if (kind == GANGS) {
                gangsTold[number[0] * DAY_SHIFTS + number[1]] = number[2];
            } else {
                System.arraycopy(number, 0, contract, ships * CONTRACT, CONTRACT);
                ships++;
            }
        }

        int contractOf(int one, int what) {
            return contract[one * CONTRACT + what];
        }

        int nameByte(int one, int i) {
            return one < MOST_SHIPS ? name[one * NAME_LETTERS + i] : 0;
        }

        int gangsIn(int shiftNumber) {
            return gangsTold[shiftNumber] == NONE ? cranes : gangsTold[shiftNumber];
        }

        int depthOf(int metre) {
            int from = NONE;
            int answer = DEPTH_WITHOUT_SECTION;
            for (int i = 0; i < sections; i++) {
                if (sectionFrom[i] <= metre && sectionFrom[i] > from) {
                    from = sectionFrom[i];
                    answer = sectionDepth[i];
                }
            }
            return answer;
        }

        /** The depth changes only where a section begins. */
        int shallowest(int first, int last) {
            int least = depthOf(first);
            for (int i = 0; i < sections; i++) {
                if (sectionFrom[i] > first && sectionFrom[i] <= last) {
                    least = Math.min(least, sectionDepth[i]);
                }
            }
            return least;
        }

        int movesWith(int k) {
            return Math.max(k, k * setting[RATE] * (100 - setting[LOSS] * (k - 1)) / 100);
        }

        int workWith(int one, int k) {
            int perSlot = Math.max(1, movesWith(k));
            return Math.max(1, (contractOf(one, BOXES) + perSlot - 1) / perSlot);
        }

        int waterNeededBy(int one) {
            return setting[KEEL] + Math.max(contractOf(one, DRAFT), contractOf(one, OUT));
        }
    }

    /** Reads a TEXT from the tape, byte by byte from the left, up to its first fault. */
    private static final class Reader {
        private final byte[] tape;
        private final Told heard;
        private final int[] number = new int[CONTRACT];
        private int length;
        private int at;
        int fault;
        int place = NONE;

        Reader(byte[] tape, Told heard) {
            this.tape = tape;
            this.heard = heard;
        }

        int readText(int bytes) {
            length = Math.min(bytes, tape.length);
            at = 0;
            fault = 0;
            place = NONE;
            heard.forget();
            int lines = 0;
            for (int turn = 0; turn <= length; turn++) {
                skipBlanks();
                if (at >= length) {
                    break;
                }
                if (!readLine()) {
                    return NONE;
                }
                lines++;
            }
            return lines;
        }

        private boolean refuse(int fault, int place) {
            this.fault = fault;
            this.place = place;
            return false;
        }

        private boolean readLine() {
            int begin = at;
            int kind = lineKind(begin, passRow('a', 'z'));
            if (kind == NONE) {
                return refuse(CAN_NOT_STAND, begin);
            }
            if (heard.isSetAlready(kind)) {
                return refuse(TOLD_ALREADY, begin);
            }
            if (heard.isFull(kind)) {
                return refuse(ONE_TOO_MANY, begin);
            }
            if (kind == SHIP && !readName()) {
                return false;
            }
            for (int i = 0; i < NUMBERS_OF[kind]; i++) {
                if (!readNumber(kind, i)) {
                    return false;
                }
            }
            skipBlanks();
            if (at >= length || tape[at] != ';') {
                return refuse(CAN_NOT_STAND, at);
            }
            at++;
            heard.take(kind, number);
            return true;
        }

        private boolean readName() {
            skipBlanks();
            int begin = at;
            int letters = passRow('a', 'z');
            if (letters < 1 || letters > NAME_LETTERS || lineKind(begin, letters) != NONE) {
                return refuse(CAN_NOT_STAND, begin);
            }
            heard.nameNextShip(tape, begin, letters);
            return !heard.isNextNameToldAlready() || refuse(TOLD_ALREADY, begin);
        }

        private boolean readNumber(int kind, int i) {
            int behind = at;
            skipBlanks();
            int begin = at;
            int digits = passRow('0', '9');
            if (begin == behind || digits < 1 || digits > NUMBER_DIGITS) {
                return refuse(CAN_NOT_STAND, begin);
            }
            int value = 0;
            for (int place = begin; place < at; place++) {
                value = value * 10 + tape[place] - '0';
            }
            if (value < leastNumber(kind, i) || value > GREATEST_NUMBER[FIRST_NUMBER_OF[kind] + i]) {
                return refuse(OUT_OF_BOUNDS, begin);
            }
            number[i] = value;
            return !heard.isToldAlready(kind, i, number) || refuse(TOLD_ALREADY, begin);
        }

        private int leastNumber(int kind, int i) {
            if (kind == CRANE && i == 1) {
                return number[0];
            }
            if (kind == SHIP && i == MOST) {
                return number[LEAST];
            }
            return LEAST_NUMBER[FIRST_NUMBER_OF[kind] + i];
        }

        private void skipBlanks() {
            while (at < length && (tape[at] == ' ' || tape[at] == '\n')) {
                at++;
            }
        }

        private int passRow(char first, char last) {
            int begin = at;
            while (at < length && tape[at] >= first && tape[at] <= last) {
                at++;
            }
            return at - begin;
        }

        private int lineKind(int begin, int letters) {
            for (int kind = 0; kind < LINE_KINDS; kind++) {
                if (isWord(wordOf(kind), begin, letters)) {
                    return kind;
                }
            }
            return NONE;
        }

        private boolean isWord(String word, int begin, int letters) {
            if (word.length() != letters) {
                return false;
            }
            for (int i = 0; i < letters; i++) {
                if (word.charAt(i) != tape[begin + i]) {
                    return false;
                }
            }
            return true;
        }

        private static String wordOf(int kind) {
            switch (kind) {
                case QUAY:
                    return "quay";
                case GAP:
                    return "gap";
                case KEEL:
                    return "keel";
                case CHANNEL:
                    return "channel";
                case RATE:
                    return "rate";
                case LOSS:
                    return "loss";
                case SECTION:
                    return "section";
                case CRANE:
                    return "crane";
                case TIDE:
                    return "tide";
                case GANGS:
                    return "gangs";
                default:
                    return "ship";
            }
        }
    }

    /** The tide, slot by slot, and when it opens the channel. */
    private static final class Waters {
        private final Told told;
        final int[] levels = new int[SLOTS];

        Waters(Told told) {
            this.told = told;
        }

        void reckon() {
            for (int slot = 0; slot < SLOTS; slot++) {
                levels[slot] = levelAt(slot);
            }
        }

        private int levelAt(int slot) {
            int earlier = NONE;
            int later = NONE;
            for (int i = 0; i < told.tides; i++) {
                int there = told.tideSlot[i];
                if (there <= slot && (earlier == NONE || there > told.tideSlot[earlier])) {
                    earlier = i;
                }
                if (there > slot && (later == NONE || there < told.tideSlot[later])) {
                    later = i;
                }
            }
            if (earlier == NONE) {
                return later == NONE ? 0 : told.tideLevel[later];
            }
            return later == NONE ? told.tideLevel[earlier] : between(earlier, later, slot);
        }

        private int between(int earlier, int later, int slot) {
            int span = Math.max(1, told.tideSlot[later] - told.tideSlot[earlier]);
            int difference = told.tideLevel[later] - told.tideLevel[earlier];
            int since = slot - told.tideSlot[earlier];
            // a falling tide is cut down as well, not towards 0
            return told.tideLevel[earlier] + Math.floorDiv(difference * since, span);
        }

        boolean isOpen(int water, int slot) {
            return told.setting[CHANNEL] + levels[slot] >= water + told.setting[KEEL];
        }

        int firstOpen(int water, int from) {
            for (int slot = from; slot < SLOTS; slot++) {
                if (isOpen(water, slot)) {
                    return slot;
                }
            }
            return NONE;
        }

        int lowest(int from, int end) {
            int least = levels[from];
            for (int slot = from; slot < end; slot++) {
                least = Math.min(least, levels[slot]);
            }
            return least;
        }
    }

    /** Where the ships lie: a ship with 0 cranes has no stay. */
    private static final class Stays {
        private final Told told;
        private final Waters waters;
        final int[] metre = new int[MOST_SHIPS];
        final int[] lastMetre = new int[MOST_SHIPS];
        final int[] start = new int[MOST_SHIPS];
        final int[] cranes = new int[MOST_SHIPS];
        final int[] work = new int[MOST_SHIPS];
        final int[] leave = new int[MOST_SHIPS];
        final int[] busy = new int[SLOTS];
        final int[] row = new int[MOST_SHIPS];
        int rowLength;
        private int heldMetre;
        private int heldStart;
        private int heldCranes;

        Stays(Told told, Waters waters) {
            this.told = told;
            this.waters = waters;
        }

        boolean has(int one) {
            return cranes[one] > 0;
        }

        int howMany() {
            int sum = 0;
            for (int one = 0; one < told.ships; one++) {
                sum += has(one) ? 1 : 0;
            }
            return sum;
        }

        /** Cranes are dealt to a proposed stay as to others, but it is not among the busy ones yet. */
        void propose(int one, int x, int t, int k, int slots) {
            metre[one] = x;
            lastMetre[one] = x + told.contractOf(one, LONG) - 1;
            start[one] = t;
            cranes[one] = k;
            work[one] = slots;
        }

        void withdraw(int one) {
            cranes[one] = 0;
        }

        void lay(int one, int x, int t, int k) {
            propose(one, x, t, k, told.workWith(one, k));
            leave[one] = waters.firstOpen(told.contractOf(one, OUT), t + work[one]);
            addBusy(one, k);
        }

        void lift(int one) {
            addBusy(one, -cranes[one]);
            cranes[one] = 0;
        }

        private void addBusy(int one, int k) {
            int end = Math.min(SLOTS, start[one] + work[one]);
            for (int slot = start[one]; slot < end; slot++) {
                busy[slot] += k;
            }
        }

        /** A ship's own stay is not counted while another one for it is looked at. */
        void takeUp(int one) {
            heldMetre = metre[one];
            heldStart = start[one];
            heldCranes = cranes[one];
            if (heldCranes > 0) {
                lift(one);
            }
        }

        void layBack(int one) {
            if (heldCranes > 0) {
                lay(one, heldMetre, heldStart, heldCranes);
            }
        }

        void clear() {
            Arrays.fill(cranes, 0);
            Arrays.fill(busy, 0);
        }

        void save(int[] into) {
            for (int one = 0; one < MOST_SHIPS; one++) {
                into[one * 3] = metre[one];
                into[one * 3 + 1] = start[one];
                into[one * 3 + 2] = cranes[one];
            }
        }

        void load(int[] from) {
            clear();
            for (int one = 0; one < told.ships; one++) {
                if (from[one * 3 + 2] > 0) {
                    lay(one, from[one * 3], from[one * 3 + 1], from[one * 3 + 2]);
                }
            }
        }

        boolean isAsSaved(int one, int[] saved) {
            if (cranes[one] != saved[one * 3 + 2]) {
                return false;
            }
            return !has(one) || (metre[one] == saved[one * 3] && start[one] == saved[one * 3 + 1]);
        }

        /** All ships with stays by metre: those of one slot stand in the row as along the quay. */
        void lineUp() {
            rowLength = 0;
            for (int one = 0; one < told.ships; one++) {
                if (has(one)) {
                    int place = rowLength;
                    while (place > 0 && metre[row[place - 1]] > metre[one]) {
                        row[place] = row[place - 1];
                        place--;
                    }
                    row[place] = one;
                    rowLength++;
                }
            }
        }

        boolean liesIn(int one, int slot) {
            return has(one) && slot >= start[one] && slot < leave[one];
        }

        int slotsIn(int one, int from, int end) {
            if (!has(one)) {
                return 0;
            }
            return Math.max(0, Math.min(end, leave[one]) - Math.max(from, start[one]));
        }

        int movedAhead(int one, int slot) {
            if (!has(one) || slot <= start[one]) {
                return 0;
            }
            int slots = Math.min(work[one], slot - start[one]);
            return Math.min(told.contractOf(one, BOXES), slots * told.movesWith(cranes[one]));
        }

        int lateOf(int one) {
            return has(one) ? Math.max(0, leave[one] - told.contractOf(one, DUE)) : 0;
        }

        int costOf(int one) {
            return lateOf(one) * (8 >> told.contractOf(one, RANK));
        }

        int busyIn(int from, int end) {
            int sum = 0;
            for (int slot = from; slot < end; slot++) {
                sum += busy[slot];
            }
            return sum;
        }

        int busiestIn(int from, int end) {
            int most = 0;
            for (int slot = from; slot < end; slot++) {
                most = Math.max(most, busy[slot]);
            }
            return most;
        }
    }

    /** Deals cranes to the ships at work; the ships have to be lined up. */
    private static final class Dealer {
        private final Told told;
        private final Stays stays;
        final int[] taker = new int[MOST_CRANES];

        Dealer(Told told, Stays stays) {
            this.told = told;
            this.stays = stays;
        }

        boolean deal(int slot, int missing) {
            Arrays.fill(taker, NONE);
            int crane = 0;
            for (int place = 0; place < stays.rowLength; place++) {
                int one = stays.row[place];
                if (slot < stays.start[one] || slot >= stays.start[one] + stays.work[one]) {
                    continue;
                }
                int wanted = stays.cranes[one];
                for (; wanted > 0 && crane < told.cranes; crane++) {
                    if (crane != missing && reaches(crane, stays.metre[one], stays.lastMetre[one])) {
                        taker[crane] = one;
                        wanted--;
                    }
                }
                if (wanted > 0) {
                    return false;
                }
            }
            return true;
        }

        private boolean reaches(int crane, int first, int last) {
            return told.craneFirst[crane] <= last && told.craneLast[crane] >= first;
        }

        int reaching(int first, int last) {
            int sum = 0;
            for (int crane = 0; crane < told.cranes; crane++) {
                sum += reaches(crane, first, last) ? 1 : 0;
            }
            return sum;
        }

        /**
         * Only where a ship's work begins can dealing become impossible: when one ends, the cranes behind
         * it are taken no later than before.
         */
        boolean suffices(int one, int x, int t, int k, int slots) {
            stays.propose(one, x, t, k, slots);
            stays.lineUp();
            boolean enough = true;
            for (int place = 0; place < stays.rowLength && enough; place++) {
                int slot = stays.start[stays.row[place]];
                enough = slot < t || slot >= t + slots || deal(slot, NONE);
            }
            stays.withdraw(one);
            return enough;
        }
    }

    /** The laws of a stay; the ship's own stay has to be taken up first. */
    private static final class Laws {
        private final Told told;
        private final Waters waters;
        private final Stays stays;
        private final Dealer dealer;
        int work;
        int leave;

        Laws(Told told, Waters waters, Stays stays, Dealer dealer) {
            this.told = told;
            this.waters = waters;
            this.stays = stays;
            this.dealer = dealer;
        }

        int firstBroken(int one, int x, int t, int k) {
            if (!fits(one, x)) {
                return 1;
            }
            int law = ofTime(one, t, k);
            if (law != 0) {
                return law;
            }
            int bed = told.shallowest(x, x + told.contractOf(one, LONG) - 1);
            if (bed + waters.lowest(t, leave) < told.waterNeededBy(one)) {
                return 6;
            }
            if (pastObstacle(one, x, t) > x) {
                return 7;
            }
            if (firstShort(t, k) != NONE) {
                return 8;
            }
            return dealer.suffices(one, x, t, k, work) ? 0 : 9;
        }

        boolean fits(int one, int x) {
            return x >= 0 && x <= told.setting[QUAY] - told.contractOf(one, LONG);
        }

        /** Laws 2 to 5, which hold or are broken wherever the ship lies; work and leave are known if they hold. */
        int ofTime(int one, int t, int k) {
            if (t < told.contractOf(one, FROM)) {
                return 2;
            }
            if (k < told.contractOf(one, LEAST) || k > told.contractOf(one, MOST)) {
                return 3;
            }
            if (t >= SLOTS || !waters.isOpen(told.contractOf(one, DRAFT), t)) {
                return 4;
            }
            work = told.workWith(one, k);
            leave = waters.firstOpen(told.contractOf(one, OUT), t + work);
            return leave == NONE ? 5 : 0;
        }

        /** Whether another ship's stay and one that ends by leave break law 7. */
        boolean crowds(int other, int one, int x, int t) {
            if (other == one || !stays.has(other) || stays.start[other] >= leave || t >= stays.leave[other]) {
                return false;
            }
            int gap = told.setting[GAP];
            int last = x + told.contractOf(one, LONG) - 1;
            return x <= stays.lastMetre[other] + gap && stays.metre[other] <= last + gap;
        }

        /** The first metre behind a ship that is in the way, x itself if none is. */
        int pastObstacle(int one, int x, int t) {
            for (int other = 0; other < told.ships; other++) {
                if (crowds(other, one, x, t)) {
                    return stays.lastMetre[other] + told.setting[GAP] + 1;
                }
            }
            return x;
        }

        int firstShort(int t, int k) {
            int end = Math.min(SLOTS, t + work);
            for (int slot = t; slot < end; slot++) {
                if (stays.busy[slot] + k > told.gangsIn(slot / SHIFT_SLOTS)) {
                    return slot;
                }
            }
            return NONE;
        }
    }

    /** Looks for the earliest place of a ship that has no stay, or whose stay was taken up. */
    private static final class Search {
        private final Told told;
        private final Waters waters;
        private final Laws laws;
        private final Dealer dealer;
        private final int[] bed = new int[MOST_PLACES];
        int metre;
        int slot;
        int cranes;
        int leave;

        Search(Told told, Waters waters, Laws laws, Dealer dealer) {
            this.told = told;
            this.waters = waters;
            this.laws = laws;
            this.dealer = dealer;
        }

        boolean find(int one, int most, int least) {
            for (int k = most; k >= least; k--) {
                if (!survey(one, k)) {
                    continue;
                }
                for (int t = told.contractOf(one, FROM); t < SLOTS; t++) {
                    if (laws.ofTime(one, t, k) != 0) {
                        continue;
                    }
                    int shortSlot = laws.firstShort(t, k);
                    if (shortSlot != NONE) {
                        // every stay that begins up to that slot works in it, too
                        t = shortSlot;
                        continue;
                    }
                    int x = firstMetre(one, t, k);
                    if (x != NONE) {
                        metre = x;
                        slot = t;
                        cranes = k;
                        leave = laws.leave;
                        return true;
                    }
                }
            }
            return false;
        }

        /** The bed's depth at each place, NONE where too few cranes reach in any slot: whether one has hope. */
        private boolean survey(int one, int k) {
            int length = told.contractOf(one, LONG);
            boolean hope = false;
            for (int place = 0; place < MOST_PLACES; place++) {
                int x = place * TENS;
                boolean reached = laws.fits(one, x) && dealer.reaching(x, x + length - 1) >= k;
                bed[place] = reached ? told.shallowest(x, x + length - 1) : NONE;
                hope = hope || reached;
            }
            return hope;
        }

        private int firstMetre(int one, int t, int k) {
            int lowest = waters.lowest(t, laws.leave);
            int needed = told.waterNeededBy(one);
            for (int place = 0; place < MOST_PLACES; place++) {
                if (bed[place] == NONE || bed[place] + lowest < needed) {
                    continue;
                }
                int x = place * TENS;
                int past = laws.pastObstacle(one, x, t);
                if (past > x) {
                    // on to the last place that is still in the way of the same ship
                    place = (past - 1) / TENS;
                } else if (dealer.suffices(one, x, t, k, laws.work)) {
                    return x;
                }
            }
            return NONE;
        }
    }

    /** The ships by the rules of an order. */
    private static final class Ranking {
        private final Told told;

        Ranking(Told told) {
            this.told = told;
        }

        int shipAt(int rule, int i) {
            for (int one = 0; one < told.ships; one++) {
                if (shipsAhead(rule, one) == i) {
                    return one;
                }
            }
            return NONE;
        }

        private int shipsAhead(int rule, int one) {
            int key = keyOf(rule, one);
            int ahead = 0;
            for (int other = 0; other < told.ships; other++) {
                int otherKey = keyOf(rule, other);
                if (otherKey < key || (otherKey == key && other < one)) {
                    ahead++;
                }
            }
            return ahead;
        }

        private int keyOf(int rule, int one) {
            switch (rule) {
                case 0:
                    return told.contractOf(one, RANK) * SLOTS + told.contractOf(one, FROM);
                case 1:
                    return told.contractOf(one, FROM) * RANKS + told.contractOf(one, RANK);
                case 2:
                    return told.contractOf(one, DUE);
                default:
                    return -told.contractOf(one, LONG);
            }
        }
    }

    /** The best order of the first four ships without a stay. */
    private static final class FirstFour {
        private final Told told;
        private final Stays stays;
        private final Search search;
        boolean known;
        int ships;
        int leftOut;
        int cost;
        final int[] chosen = new int[FIRST_SHIPS];
        private final int[] first = new int[FIRST_SHIPS];
        private final int[] trial = new int[FIRST_SHIPS];
        private final boolean[] hopeful = new boolean[FIRST_SHIPS];

        FirstFour(Told told, Stays stays, Search search) {
            this.told = told;
            this.stays = stays;
            this.search = search;
        }

        void reckon() {
            if (known) {
                return;
            }
            ships = 0;
            for (int one = 0; one < told.ships && ships < FIRST_SHIPS; one++) {
                if (!stays.has(one)) {
                    first[ships] = one;
                    // one that finds no place now finds none beside more ships either
                    hopeful[ships] = search.find(one, told.contractOf(one, MOST), told.contractOf(one, LEAST));
                    ships++;
                }
            }
            leftOut = FIRST_SHIPS + 1;
            cost = 0;
            tryFrom(0, 0, 0, 0);
            known = true;
        }

        /** Orders come as by numbers, so that a later one must be better to be chosen. */
        private void tryFrom(int depth, int taken, int out, int sum) {
            if (out > leftOut || (out == leftOut && sum >= cost)) {
                return;
            }
            if (depth >= ships || depth >= FIRST_SHIPS) {
                leftOut = out;
                cost = sum;
                System.arraycopy(trial, 0, chosen, 0, FIRST_SHIPS);
                return;
            }
            for (int i = 0; i < ships; i++) {
                if ((taken >> i & 1) != 0) {
                    continue;
                }
                int one = first[i];
                trial[depth] = one;
                if (hopeful[i] && search.find(one, told.contractOf(one, MOST), told.contractOf(one, LEAST))) {
                    stays.lay(one, search.metre, search.slot, search.cranes);
                    tryFrom(depth + 1, taken | 1 << i, out, sum + stays.costOf(one));
                    stays.lift(one);
                } else {
                    tryFrom(depth + 1, taken | 1 << i, out + 1, sum);
                }
            }
        }
    }

    /** The stays ahead of each act that can be undone, and the stays by marks. */
    private static final class History {
        private final int[][] kept = new int[MOST_ACTS][SAVED];
        private int oldest;
        int acts;
        final int[][] marks = new int[MARKS][SAVED];
        int made;

        void forget() {
            acts = 0;
            made = 0;
        }

        void keep(int[] saved) {
            int place = (oldest + acts) % MOST_ACTS;
            System.arraycopy(saved, 0, kept[place], 0, SAVED);
            if (acts == MOST_ACTS) {
                oldest = (oldest + 1) % MOST_ACTS;
            } else {
                acts++;
            }
        }

        boolean takeLatest(int[] into) {
            if (acts == 0) {
                return false;
            }
            acts--;
            System.arraycopy(kept[(oldest + acts) % MOST_ACTS], 0, into, 0, SAVED);
            return true;
        }

        boolean isMade(int mark) {
            return mark >= 0 && mark < MARKS && (made >> mark & 1) != 0;
        }

        int marksMade() {
            return Integer.bitCount(made);
        }
    }

    /** The bytes that were written last. */
    private static final class Written {
        final byte[] bytes = new byte[WRITTEN_BYTES];
        int length;

        void add(int sign) {
            if (length < WRITTEN_BYTES) {
                bytes[length] = (byte) sign;
                length++;
            }
        }

        void addNumber(int number) {
            add(' ');
            if (number >= 100) {
                add('0' + number / 100);
            }
            if (number >= 10) {
                add('0' + number / 10 % 10);
            }
            add('0' + number % 10);
        }
    }
}
