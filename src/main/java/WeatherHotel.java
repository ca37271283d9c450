import java.util.Arrays;

/**
 * A hotel that gives its guests the weather of days that were told.
 * ../shared/DOC.md has the promises; the words in capitals are explained there.
 */
public final class WeatherHotel {
    public static final int NONE = -1;

    private static final int DAYS = 12;
    private static final int KINDS = 3;
    private static final int RAIN = 0;
    private static final int HOURS = 24;
    private static final int FLOORS = 4;
    private static final int ROOMS = 10;
    private static final int STAYS = 10;
    private static final int SETS = 1 << STAYS;

    // A row has RAIN of all HOURS, then WARMTH, then LIGHT: a slot is KIND * HOURS + HOUR.
    private static final int SLOTS = KINDS * HOURS;

    private static final int MOST_TAPE = 200;
    private static final int FED = 20;
    private static final int MOST_DAY_TEXT = 120;
    private static final int MOST_LAW_TEXT = 160;
    private static final int MOST_PARTS = 14;
    private static final int MOST_CLAUSES = 12;
    private static final int MOST_OPEN = 6;
    private static final int MOST_AMOUNT = 99;
    private static final int MOST_NUMBER = 999;
    private static final int MOST_WATER = 9999;
    private static final int MOST_SHIFT = 3;
    private static final int MOST_ROW = 3;
    private static final int MOST_DRAWS = 20;
    private static final int MOST_SEED = 65535;

    private static final int FAULT_SIGN = 1;
    private static final int FAULT_DIGIT = 2;
    private static final int FAULT_HOUR = 3;
    private static final int FAULT_MANY = 4;
    private static final int FAULT_OPEN = 5;

    private static final int CAUSE_PIPES = 3;
    private static final int CAUSE_CELLAR = 7;

    private final Tape tape;
    private final Days days;
    private final House house;
    private final Register guests;
    private final Register kept;
    private boolean isKept;
    private final Law valid;
    private final Law draft;
    private final LawReader lawReader;
    private final Load load;
    private final Chooser chooser;
    private final Service service;
    private final Mover mover;

    public WeatherHotel() {
        tape = new Tape();
        TextReader text = new TextReader(tape);
        days = new Days(text);
        house = new House();
        guests = new Register();
        kept = new Register();
        valid = new Law();
        draft = new Law();
        lawReader = new LawReader(text, draft);
        load = new Load(house, guests, days);
        chooser = new Chooser(house, guests, load);
        service = new Service(house, guests, valid, load);
        mover = new Mover(house, guests, load);
    }

    public int feed(int a, int b, int c, int d, int e) {
        if (tape.size() + FED > MOST_TAPE) {
            return NONE;
        }
        tape.append(a);
        tape.append(b);
        tape.append(c);
        tape.append(d);
        tape.append(e);
        return tape.size();
    }

    public int day(int d, int n) {
        if (!isBelow(d, DAYS) || n < 1 || n > MOST_DAY_TEXT || n > tape.size()) {
            return NONE;
        }
        int answer = days.tell(d, n);
        tape.clear();
        return answer;
    }

    public int dayIs(int d, int kind, int hour) {
        if (!days.isTold(d) || !isBelow(kind, KINDS) || !isBelow(hour, HOURS)) {
            return NONE;
        }
        return days.rowOf(d)[kind * HOURS + hour];
    }

    public int room(int floor) {
        if (!isBelow(floor, FLOORS) || house.rooms >= ROOMS) {
            return NONE;
        }
        house.floorOf[house.rooms] = floor;
        house.rooms++;
        return house.rooms - 1;
    }

    public boolean plant(int kind, int most, int pence) {
        if (!isBelow(kind, KINDS) || !isUpTo(most, MOST_NUMBER) || !isUpTo(pence, MOST_NUMBER)) {
            return false;
        }
        house.most[kind] = most;
        house.pence[kind] = pence;
        return true;
    }

    public boolean pipes(int floor, int most) {
        if (!isBelow(floor, FLOORS) || !isUpTo(most, MOST_NUMBER)) {
            return false;
        }
        house.pipeMost[floor] = most;
        return true;
    }

    public boolean cellar(int water, int comes) {
        if (!isUpTo(water, MOST_WATER) || !isUpTo(comes, MOST_AMOUNT)) {
            return false;
        }
        house.water = water;
        house.comes = comes;
        return true;
    }

    public boolean stay(int b, int room, int d, int price) {
        if (!isBelow(b, STAYS) || !isBelow(room, house.rooms)
                || !days.isTold(d) || !isUpTo(price, MOST_NUMBER)) {
            return false;
        }
        int holder = guests.holderOf(room);
        if (holder != NONE && holder != b) {
            return false;
        }
        guests.write(b, room, d, price);
        return true;
    }

    public boolean leave(int b) {
        if (!guests.has(b)) {
            return false;
        }
        guests.stays &= ~(1 << b);
        return true;
    }

    public boolean shift(int b, int hours) {
        if (!guests.has(b) || hours < -MOST_SHIFT || hours > MOST_SHIFT) {
            return false;
        }
        guests.shifted[b] = hours;
        return true;
    }

    public int law(int n) {
        if (n < 1 || n > MOST_LAW_TEXT || n > tape.size()) {
            return NONE;
        }
        int answer = lawReader.read(n);
        if (answer > 0) {
            valid.copyFrom(draft);
        }
        tape.clear();
        return answer;
    }

    public int wants(int kind, int hour) {
        if (!isBelow(kind, KINDS) || !isBelow(hour, HOURS)) {
            return NONE;
        }
        load.begin();
        load.turnTo(guests.stays);
        return load.sum[kind * HOURS + hour];
    }

    public int gets(int b, int kind, int hour) {
        if (!guests.has(b) || !isBelow(kind, KINDS) || !isBelow(hour, HOURS)) {
            return NONE;
        }
        service.serveAll();
        return service.given[b][kind * HOURS + hour];
    }

    public int served(int what) {
        boolean ofOne = guests.has(what - 10);
        if (!isBelow(what, 3) && !ofOne) {
            return NONE;
        }
        service.serveAll();
        if (ofOne) {
            return service.missed[what - 10];
        }
        if (what == 0) {
            return service.harm;
        }
        return what == 1 ? service.water : service.missedOfAll();
    }

    public int can(int stays, int what) {
        if (!areStays(stays, STAYS) || !isBelow(what, 3)) {
            return -3;
        }
        load.begin();
        load.turnTo(stays);
        boolean fits = load.fits();
        if (what == 0) {
            return fits ? 1 : 0;
        }
        if (fits) {
            return -2;
        }
        return what == 1 ? load.badHour : load.badCause;
    }

    public int best(int what) {
        if (!isBelow(what, 2)) {
            return NONE;
        }
        load.begin();
        int set = chooser.bestOf(guests.stays);
        return what == 0 ? guests.pricesOf(set) : set;
    }

    public int smallest() {
        load.begin();
        return chooser.smallestMisfit();
    }

    public int costs(int b) {
        if (!guests.has(b)) {
            return -1000000;
        }
        load.begin();
        int others = guests.stays & ~(1 << b);
        int withoutIt = guests.pricesOf(chooser.bestOf(others));
        int besideIt = guests.pricesOf(chooser.bestOf(guests.stays) & others);
        return withoutIt - besideIt;
    }

    public int rooms(int stays, int n, int what) {
        if (!areStays(stays, 6) || n != Integer.bitCount(stays) || n > tape.size()
                || what != 10 && !isIn(stays, what)) {
            return NONE;
        }
        int told = roomsOnTape(stays, n);
        tape.clear();
        if (told == NONE) {
            return -3;
        }
        load.begin();
        boolean found = mover.findRooms(stays, told);
        if (what != 10) {
            return found ? mover.roomFor[what] : -2;
        }
        if (found) {
            mover.moveIn(stays);
        }
        return found ? 1 : 0;
    }

    public int shifting(int stays, int k, int what) {
        if (!areStays(stays, 5) || k < 1 || k > 2
                || what != 10 && what != 11 && !isIn(stays, what)) {
            return NONE;
        }
        load.begin();
        if (!mover.findShifts(stays, k)) {
            return -2;
        }
        if (what == 11) {
            mover.shiftAll(stays);
        }
        return what < 10 ? mover.shiftFor[what] + MOST_SHIFT : mover.fewestHours;
    }

    public int larger(int what) {
        if (!isBelow(what, 2 + KINDS)) {
            return NONE;
        }
        load.begin();
        chooser.chooseLarger();
        if (what == 0) {
            return chooser.gain;
        }
        return what == 1 ? chooser.gainSet : chooser.more[what - 2];
    }

    public long fair(int stays, int b, int what) {
        if (!areStays(stays, 8) || !isIn(stays, b) || !isBelow(what, 2)) {
            return -1;
        }
        load.begin();
        chooser.shareOut(stays, b);
        return what == 0 ? chooser.above : chooser.below;
    }

    public int drought(int stays, int what) {
        if (!areStays(stays, 6)) {
            return -3;
        }
        if (what != NONE && !isBelow(what, Integer.bitCount(stays))) {
            return -2;
        }
        load.begin();
        service.orderForDrought(stays);
        return what == NONE ? service.leastHarm[0] : service.droughtStayAt(what);
    }

    public int meter(int n, int what) {
        boolean asked = what == NONE || what == 3 || isBelow(what, n);
        if (n < 1 || n > MOST_ROW || !asked || tape.size() < 2 * HOURS) {
            return -3;
        }
        days.readMeter(tape, n);
        tape.clear();
        if (what == NONE) {
            return days.rowCount;
        }
        if (days.rowCount == 0) {
            return -2;
        }
        return what == 3 ? days.inAllRows : days.firstRow[what];
    }

    public boolean seed(int x) {
        if (!isUpTo(x, MOST_SEED)) {
            return false;
        }
        guests.x = x;
        return true;
    }

    public int draw(int n) {
        if (n < 1 || n > MOST_DRAWS) {
            return NONE;
        }
        for (int i = 0; i < n; i++) {
            drawOne();
        }
        service.serveAll();
        return service.harm;
    }

    public int keep() {
        kept.copyFrom(guests);
        isKept = true;
        return Integer.bitCount(guests.stays);
    }

    public boolean undo() {
        if (!isKept) {
            return false;
        }
        guests.copyFrom(kept);
        return true;
    }

    public int check(int d, int kind, int n) {
        if (!days.isTold(d) || !isBelow(kind, KINDS) || !isUpTo(n, HOURS) || 4 * n > tape.size()) {
            return -2;
        }
        int wrong = NONE;
        for (int hour = 0; hour < n && wrong == NONE; hour++) {
            if (tape.numberAt(4 * hour) != days.rowOf(d)[kind * HOURS + hour]) {
                wrong = hour;
            }
        }
        tape.clear();
        return wrong;
    }

    public int count(int what) {
        switch (what) {
            case 0:
                return days.told;
            case 1:
                return house.rooms;
            case 2:
                return guests.stays;
            case 3:
                return valid.clauses;
            case 4:
                return tape.size();
            case 5:
                return guests.x;
            default:
                return countOfOne(what);
        }
    }

    private int countOfOne(int what) {
        if (what < 10 || what >= 60) {
            return NONE;
        }
        int which = what % 10;
        if (what >= 50) {
            return which < house.rooms ? house.floorOf[which] : NONE;
        }
        if (!guests.has(which)) {
            return NONE;
        }
        if (what < 20) {
            return guests.room[which];
        }
        if (what < 30) {
            return guests.dayOf[which];
        }
        return what < 40 ? guests.price[which] : guests.shifted[which] + MOST_SHIFT;
    }

    private void drawOne() {
        guests.x = (25173 * guests.x + 13849) % 65536;
        int b = guests.x % STAYS;
        int d = guests.x / 10 % DAYS;
        if (guests.has(b) && days.isTold(d)) {
            guests.dayOf[b] = d;
        }
    }

    /** ROOMS as bits: only which they are matters, as they are given out from the lowest on. */
    private int roomsOnTape(int stays, int n) {
        int told = 0;
        for (int i = 0; i < n; i++) {
            int room = tape.byteAt(i);
            if (!isBelow(room, house.rooms) || isIn(told, room)) {
                return NONE;
            }
            int holder = guests.holderOf(room);
            if (holder != NONE && !isIn(stays, holder)) {
                return NONE;
            }
            told |= 1 << room;
        }
        return told;
    }

    private boolean areStays(int set, int most) {
        return set > 0 && isPart(set, guests.stays) && Integer.bitCount(set) <= most;
    }

    private static boolean isBelow(int value, int bound) {
        return value >= 0 && value < bound;
    }

    private static boolean isUpTo(int value, int most) {
        return value >= 0 && value <= most;
    }

    /** Sets of STAYS, DAYS, ROOMS and FLOORS are bits; none has more than twelve. */
    private static boolean isIn(int set, int which) {
        return isBelow(which, DAYS) && (set >> which & 1) != 0;
    }

    private static boolean isPart(int set, int whole) {
        return (set & ~whole) == 0;
    }

    /** The bytes that were fed and not yet used. */
    private static final class Tape {
        private final int[] bytes = new int[MOST_TAPE];
        private int length;

        int size() {
            return length;
        }

        void clear() {
            length = 0;
        }

        void append(int number) {
            for (int bits = 24; bits >= 0 && length < bytes.length; bits -= 8) {
                bytes[length] = number >> bits & 255;
                length++;
            }
        }

        /** 0 beyond the end, so that no place can be a wrong index. */
        int byteAt(int place) {
            return isBelow(place, length) ? bytes[place] : 0;
        }

        int pairAt(int place) {
            return byteAt(place) << 8 | byteAt(place + 1);
        }

        int numberAt(int place) {
            return pairAt(place) << 16 | pairAt(place + 2);
        }
    }

    /** Goes through a text on the tape and remembers its first fault. */
    private static final class TextReader {
        private static final int END = -1;

        private final Tape tape;
        private int length;
        private int place;
        private int sign;
        private int fault;

        TextReader(Tape tape) {
            this.tape = tape;
        }

        void open(int textLength) {
            length = Math.min(textLength, tape.length);
            place = -1;
            fault = 0;
            step();
        }

        void step() {
            place++;
            sign = place < length ? tape.bytes[place] : END;
        }

        boolean atEnd() {
            return sign == END;
        }

        boolean atDigit() {
            return sign >= '0' && sign <= '9';
        }

        /** Keeps the fault as the calls answer it. */
        void failAt(int number, int faultPlace) {
            fault = -1000 * number - faultPlace;
        }

        /** Always false, so that a reader can hand it on. */
        boolean failHere(int number) {
            fault = -1000 * number - place;
            return false;
        }

        boolean take(char expected) {
            if (sign != expected) {
                return failHere(FAULT_SIGN);
            }
            step();
            return true;
        }

        /** The place of the sign that comes among some, NONE if it is none of them. */
        int among(String signs) {
            return atEnd() ? NONE : signs.indexOf((char) sign);
        }

        /** NONE if no digit comes: a fault then. Digits beyond the most are left to the caller. */
        int number(int mostDigits) {
            if (!atDigit()) {
                failHere(FAULT_SIGN);
                return NONE;
            }
            int value = 0;
            for (int i = 0; i < mostDigits && atDigit(); i++) {
                value = 10 * value + sign - '0';
                step();
            }
            return value;
        }
    }

    /** The told DAYS, and which of them a meter's readings come from. */
    private static final class Days {
        private static final String KIND_LETTERS = "rwl";

        private final TextReader text;
        private final int[][] amounts = new int[DAYS][SLOTS];
        private final int[] draftRow = new int[SLOTS];
        private int told;

        private final int[] restOfRain = new int[HOURS];
        private final int[] row = new int[MOST_ROW];
        private final int[] firstRow = new int[MOST_ROW];
        private int rowCount;
        private int inAllRows;

        Days(TextReader text) {
            this.text = text;
        }

        boolean isTold(int d) {
            return isIn(told, d);
        }

        /** Only for a DAY from 0 to 11. */
        int[] rowOf(int d) {
            return amounts[d];
        }

        int tell(int d, int length) {
            int parts = readParts(length);
            if (parts > 0) {
                System.arraycopy(draftRow, 0, amounts[d], 0, SLOTS);
                told |= 1 << d;
            }
            return parts;
        }

        private int readParts(int length) {
            text.open(length);
            Arrays.fill(draftRow, 0);
            for (int parts = 0; parts <= MOST_PARTS; parts++) {
                if (!readPart(parts)) {
                    return text.fault;
                }
                if (text.atEnd()) {
                    return parts + 1;
                }
                if (!text.take(';')) {
                    return text.fault;
                }
            }
            return text.fault;
        }

        private boolean readPart(int partsAhead) {
            int kind = text.among(KIND_LETTERS);
            if (kind == NONE) {
                return text.failHere(FAULT_SIGN);
            }
            if (partsAhead >= MOST_PARTS) {
                return text.failHere(FAULT_MANY);
            }
            text.step();
            int amount = text.number(2);
            if (amount == NONE || !text.take('(')) {
                return false;
            }
            int from = readHour(0, HOURS - 1);
            if (from == NONE || !text.take('-')) {
                return false;
            }
            int to = readHour(from + 1, HOURS);
            if (to == NONE || !text.take(')')) {
                return false;
            }
            for (int slot = kind * HOURS + from; slot < kind * HOURS + to; slot++) {
                draftRow[slot] = Math.min(MOST_AMOUNT, draftRow[slot] + amount);
            }
            return true;
        }

        private int readHour(int least, int most) {
            int start = text.place;
            int hour = text.number(2);
            if (hour != NONE && (hour < least || hour > most)) {
                text.failAt(FAULT_HOUR, start);
                return NONE;
            }
            return hour;
        }

        void readMeter(Tape tape, int n) {
            for (int hour = 0; hour < HOURS; hour++) {
                restOfRain[hour] = tape.pairAt(2 * hour);
            }
            rowCount = 0;
            inAllRows = told;
            fillRow(0, 0, n);
        }

        private void fillRow(int place, int lowest, int n) {
            if (place >= n) {
                if (isRestGone()) {
                    noteRow(n);
                }
                return;
            }
            for (int d = lowest; d < DAYS; d++) {
                if (isTold(d) && isWithinRest(d)) {
                    row[place] = d;
                    changeRest(d, -1);
                    fillRow(place + 1, d, n);
                    changeRest(d, 1);
                }
            }
        }

        private boolean isWithinRest(int d) {
            for (int hour = 0; hour < HOURS; hour++) {
                if (amounts[d][hour] > restOfRain[hour]) {
                    return false;
                }
            }
            return true;
        }

        private boolean isRestGone() {
            for (int hour = 0; hour < HOURS; hour++) {
                if (restOfRain[hour] != 0) {
                    return false;
                }
            }
            return true;
        }

        private void changeRest(int d, int times) {
            for (int hour = 0; hour < HOURS; hour++) {
                restOfRain[hour] += times * amounts[d][hour];
            }
        }

        private void noteRow(int n) {
            int inRow = 0;
            for (int i = 0; i < n; i++) {
                inRow |= 1 << row[i];
                if (rowCount == 0) {
                    firstRow[i] = row[i];
                }
            }
            inAllRows &= inRow;
            rowCount++;
        }
    }

    /** ROOMS, PLANT, PIPES and CELLAR. */
    private static final class House {
        private final int[] floorOf = new int[ROOMS];
        private int rooms;
        private final int[] most = new int[KINDS];
        private final int[] pence = new int[KINDS];
        private final int[] pipeMost = new int[FLOORS];
        private int water = MOST_WATER;
        private int comes;

        House() {
            Arrays.fill(pipeMost, MOST_NUMBER);
        }

        int afterInflow(int level) {
            return Math.min(MOST_WATER, level + comes);
        }
    }

    /** What is KEPT and UNDONE: STAYS and X. */
    private static final class Register {
        private int stays;
        private final int[] room = new int[STAYS];
        private final int[] dayOf = new int[STAYS];
        private final int[] price = new int[STAYS];
        private final int[] shifted = new int[STAYS];
        private int x = 1;

        boolean has(int b) {
            return isIn(stays, b);
        }

        void write(int b, int itsRoom, int itsDay, int itsPrice) {
            stays |= 1 << b;
            room[b] = itsRoom;
            dayOf[b] = itsDay;
            price[b] = itsPrice;
            shifted[b] = 0;
        }

        int holderOf(int wantedRoom) {
            for (int b = 0; b < STAYS; b++) {
                if (has(b) && room[b] == wantedRoom) {
                    return b;
                }
            }
            return NONE;
        }

        int pricesOf(int set) {
            int together = 0;
            for (int b = 0; b < STAYS; b++) {
                if (isIn(set, b)) {
                    together += price[b];
                }
            }
            return together;
        }

        void copyFrom(Register other) {
            stays = other.stays;
            x = other.x;
            System.arraycopy(other.room, 0, room, 0, STAYS);
            System.arraycopy(other.dayOf, 0, dayOf, 0, STAYS);
            System.arraycopy(other.price, 0, price, 0, STAYS);
            System.arraycopy(other.shifted, 0, shifted, 0, STAYS);
        }
    }

    /** THE LAW as steps for a stack: what is asked often is read from its text once. */
    private static final class Law {
        private static final String LETTERS = "srfdctkng";
        private static final int NUMBER = 'N';
        private static final int LETTER = 'L';
        private static final int MOST_SOON = 999;
        private static final int SOON_UNTOLD = 0;
        private static final int MOST_HARM = 99;
        private static final int HARM_UNTOLD = 1;

        // No step stands for less than one sign of the text.
        private final int[] steps = new int[MOST_LAW_TEXT];
        private final int[] args = new int[MOST_LAW_TEXT];
        private int length;
        private final int[] clauseLetter = new int[MOST_CLAUSES];
        private final int[] sumStart = new int[MOST_CLAUSES];
        private final int[] conditionStart = new int[MOST_CLAUSES];
        private final int[] clauseEnd = new int[MOST_CLAUSES];
        private int clauses;

        private final int[] letters = new int[9];
        private final int[] stack = new int[MOST_LAW_TEXT];
        private int depth;
        private boolean refused;

        void clear() {
            length = 0;
            clauses = 0;
        }

        void copyFrom(Law other) {
            System.arraycopy(other.steps, 0, steps, 0, MOST_LAW_TEXT);
            System.arraycopy(other.args, 0, args, 0, MOST_LAW_TEXT);
            length = other.length;
            System.arraycopy(other.clauseLetter, 0, clauseLetter, 0, MOST_CLAUSES);
            System.arraycopy(other.sumStart, 0, sumStart, 0, MOST_CLAUSES);
            System.arraycopy(other.conditionStart, 0, conditionStart, 0, MOST_CLAUSES);
            System.arraycopy(other.clauseEnd, 0, clauseEnd, 0, MOST_CLAUSES);
            clauses = other.clauses;
        }

        void addClause(int letter, int sumAt, int conditionAt) {
            if (clauses < MOST_CLAUSES) {
                clauseLetter[clauses] = letter;
                sumStart[clauses] = sumAt;
                conditionStart[clauses] = conditionAt;
                clauseEnd[clauses] = length;
                clauses++;
            }
        }

        void addStep(int step, int arg) {
            if (length < MOST_LAW_TEXT) {
                steps[length] = step;
                args[length] = arg;
                length++;
            }
        }

        /** A step that may leave its C or PART early; it leads over the next one of its kind to the end. */
        int addExit(int step, int exitAhead) {
            endExit(exitAhead);
            addStep(step, length);
            return length - 1;
        }

        void endExit(int exit) {
            if (isBelow(exit, length)) {
                args[exit] = length;
            }
        }

        void askAbout(int b, Register guests, House house) {
            letters[0] = b;
            letters[1] = guests.room[b];
            letters[2] = house.floorOf[guests.room[b]];
            letters[3] = guests.dayOf[b];
            letters[4] = guests.price[b];
        }

        void askAt(int hour, int kind, int wanted, int missed) {
            letters[5] = hour;
            letters[6] = kind;
            letters[7] = wanted;
            letters[8] = missed;
        }

        /** Of p or m clauses, for what was asked about last. */
        int answerBy(char letter) {
            int most = letter == 'p' ? MOST_SOON : MOST_HARM;
            for (int c = 0; c < clauses; c++) {
                if (clauseLetter[c] == letter && reckon(conditionStart[c], clauseEnd[c]) != 0) {
                    return Math.max(0, Math.min(most, reckon(sumStart[c], conditionStart[c])));
                }
            }
            return letter == 'p' ? SOON_UNTOLD : HARM_UNTOLD;
        }

        /** 0 if it is REFUSED: that is an E of 0 and a C that does not hold. */
        private int reckon(int from, int to) {
            depth = 0;
            refused = false;
            for (int at = from; at < to && !refused; at++) {
                int step = steps[at];
                if (step == NUMBER) {
                    push(args[at]);
                } else if (step == LETTER) {
                    push(letters[args[at]]);
                } else if (step == '!') {
                    push(1 - pop());
                } else if (step == '&' || step == '|') {
                    int holds = pop();
                    if (holds == (step == '|' ? 1 : 0)) {
                        push(holds);
                        at = Math.max(at, args[at] - 1);
                    }
                } else {
                    int right = pop();
                    push(join(step, pop(), right));
                }
            }
            return refused ? 0 : pop();
        }

        private int join(int step, int left, int right) {
            switch (step) {
                case '+':
                    return left + right;
                case '-':
                    return left - right;
                case '*':
                    return left * right;
                case '<':
                    return left < right ? 1 : 0;
                case '>':
                    return left > right ? 1 : 0;
                case '=':
                    return left == right ? 1 : 0;
                default:
                    break;
            }
            if (right == 0) {
                refused = true;
                return 0;
            }
            return step == '/' ? left / right : left % right;
        }

        private void push(int value) {
            if (depth < stack.length) {
                stack[depth] = value;
                depth++;
            }
        }

        private int pop() {
            if (depth < 1) {
                return 0;
            }
            depth--;
            return stack[depth];
        }
    }

    /** Reads THE LAW's text; open counts ( [ ! that are open in one another. */
    private static final class LawReader {
        private final TextReader text;
        private final Law law;

        LawReader(TextReader text, Law law) {
            this.text = text;
            this.law = law;
        }

        int read(int length) {
            text.open(length);
            law.clear();
            for (int clauses = 0; clauses <= MOST_CLAUSES; clauses++) {
                if (!readClause(clauses)) {
                    return text.fault;
                }
                if (text.atEnd()) {
                    return clauses + 1;
                }
                if (!text.take(';')) {
                    return text.fault;
                }
            }
            return text.fault;
        }

        private boolean readClause(int clausesAhead) {
            int letter = text.sign;
            if (text.among("pm") == NONE) {
                return text.failHere(FAULT_SIGN);
            }
            if (clausesAhead >= MOST_CLAUSES) {
                return text.failHere(FAULT_MANY);
            }
            text.step();
            int sumAt = law.length;
            if (!readSum(0)) {
                return false;
            }
            int conditionAt = law.length;
            if (!text.take('(') || !readCondition(1) || !text.take(')')) {
                return false;
            }
            law.addClause(letter, sumAt, conditionAt);
            return true;
        }

        private boolean readCondition(int open) {
            int exit = NONE;
            for (int i = 0; i < MOST_LAW_TEXT; i++) {
                if (!readPieces(open)) {
                    return false;
                }
                if (text.sign != '|') {
                    break;
                }
                text.step();
                exit = law.addExit('|', exit);
            }
            law.endExit(exit);
            return true;
        }

        private boolean readPieces(int open) {
            int exit = NONE;
            for (int i = 0; i < MOST_LAW_TEXT; i++) {
                if (!readPiece(open)) {
                    return false;
                }
                if (text.sign != '&') {
                    break;
                }
                text.step();
                exit = law.addExit('&', exit);
            }
            law.endExit(exit);
            return true;
        }

        private boolean readPiece(int open) {
            if (text.sign == '!') {
                if (!mayOpen(open) || !readPiece(open + 1)) {
                    return false;
                }
                law.addStep('!', 0);
                return true;
            }
            if (text.sign == '(') {
                return mayOpen(open) && readCondition(open + 1) && text.take(')');
            }
            return readComparison(open);
        }

        private boolean readComparison(int open) {
            if (!readSum(open)) {
                return false;
            }
            int step = text.sign;
            if (text.among("<>=") == NONE) {
                return text.failHere(FAULT_SIGN);
            }
            text.step();
            if (!readSum(open)) {
                return false;
            }
            law.addStep(step, 0);
            return true;
        }

        private boolean readSum(int open) {
            if (!readTerm(open)) {
                return false;
            }
            for (int i = 0; i < MOST_LAW_TEXT && text.among("+-") != NONE; i++) {
                int step = text.sign;
                text.step();
                if (!readTerm(open)) {
                    return false;
                }
                law.addStep(step, 0);
            }
            return true;
        }

        private boolean readTerm(int open) {
            if (!readFactor(open)) {
                return false;
            }
            for (int i = 0; i < MOST_LAW_TEXT && text.among("*/%") != NONE; i++) {
                int step = text.sign;
                text.step();
                if (!readFactor(open)) {
                    return false;
                }
                law.addStep(step, 0);
            }
            return true;
        }

        private boolean readFactor(int open) {
            if (text.sign == '[') {
                return mayOpen(open) && readSum(open + 1) && text.take(']');
            }
            int letter = text.among(Law.LETTERS);
            if (letter != NONE) {
                text.step();
                law.addStep(Law.LETTER, letter);
                return true;
            }
            int number = text.number(5);
            if (number == NONE) {
                return false;
            }
            if (text.atDigit()) {
                return text.failHere(FAULT_DIGIT);
            }
            law.addStep(Law.NUMBER, number);
            return true;
        }

        private boolean mayOpen(int open) {
            if (open >= MOST_OPEN) {
                return text.failHere(FAULT_OPEN);
            }
            text.step();
            return true;
        }
    }

    /**
     * What a set of STAYS wants together. A search goes from set to set by what differs,
     * and as fewer STAYS never want more, what doesn't fit needs no further STAYS tried.
     */
    private static final class Load {
        private final House house;
        private final Register guests;
        private final Days days;
        private final int[][] wanted = new int[STAYS][SLOTS];
        private final int[] floorOf = new int[STAYS];
        private final int[] sum = new int[SLOTS];
        private final int[] floorRain = new int[FLOORS * HOURS];
        private int set;
        private int badHour;
        private int badCause;

        Load(House house, Register guests, Days days) {
            this.house = house;
            this.guests = guests;
            this.days = days;
        }

        /** Takes all STAYS as they are now, none of them in the set yet. */
        void begin() {
            set = 0;
            Arrays.fill(sum, 0);
            Arrays.fill(floorRain, 0);
            for (int b = 0; b < STAYS; b++) {
                if (guests.has(b)) {
                    setFloor(b, house.floorOf[guests.room[b]]);
                    setShift(b, guests.shifted[b]);
                }
            }
        }

        /** Only while the STAY is not in the set. */
        void setFloor(int b, int floor) {
            floorOf[b] = floor;
        }

        /** Only while the STAY is not in the set. */
        void setShift(int b, int shift) {
            int[] day = days.rowOf(guests.dayOf[b]);
            for (int hour = 0; hour < HOURS; hour++) {
                int later = Math.floorMod(hour + shift, HOURS);
                for (int kind = 0; kind < KINDS; kind++) {
                    wanted[b][kind * HOURS + later] = day[kind * HOURS + hour];
                }
            }
        }

        void turnTo(int stays) {
            int differing = set ^ stays;
            for (int b = 0; b < STAYS; b++) {
                if (isIn(differing, b)) {
                    change(b, isIn(stays, b) ? 1 : -1);
                }
            }
            set = stays;
        }

        void include(int b) {
            turnTo(set | 1 << b);
        }

        void exclude(int b) {
            turnTo(set & ~(1 << b));
        }

        private void change(int b, int times) {
            int[] row = wanted[b];
            int floorStart = floorOf[b] * HOURS;
            for (int slot = 0; slot < SLOTS; slot++) {
                sum[slot] += times * row[slot];
            }
            for (int hour = 0; hour < HOURS; hour++) {
                floorRain[floorStart + hour] += times * row[hour];
            }
        }

        boolean fits() {
            return fitsFrom(0);
        }

        boolean fitsButForPlant() {
            return fitsFrom(CAUSE_PIPES);
        }

        private boolean fitsFrom(int firstCause) {
            int water = house.water;
            for (int hour = 0; hour < HOURS; hour++) {
                water = house.afterInflow(water);
                int cause = causeAt(hour, water, firstCause);
                if (cause != NONE) {
                    badHour = hour;
                    badCause = cause;
                    return false;
                }
                water -= sum[RAIN * HOURS + hour];
            }
            return true;
        }

        private int causeAt(int hour, int water, int firstCause) {
            for (int kind = firstCause; kind < KINDS; kind++) {
                if (sum[kind * HOURS + hour] > house.most[kind]) {
                    return kind;
                }
            }
            for (int floor = 0; floor < FLOORS; floor++) {
                if (floorRain[floor * HOURS + hour] > house.pipeMost[floor]) {
                    return CAUSE_PIPES + floor;
                }
            }
            return sum[RAIN * HOURS + hour] > water ? CAUSE_CELLAR : NONE;
        }

        int peakOf(int kind) {
            int peak = 0;
            for (int hour = 0; hour < HOURS; hour++) {
                peak = Math.max(peak, sum[kind * HOURS + hour]);
            }
            return peak;
        }

        /** How much RAIN the PIPES would let through if there were enough. */
        int throughPipes(int hour) {
            int through = 0;
            for (int floor = 0; floor < FLOORS; floor++) {
                through += Math.min(house.pipeMost[floor], floorRain[floor * HOURS + hour]);
            }
            return through;
        }
    }

    /** Searches over all sets of STAYS; the load must have begun. */
    private static final class Chooser {
        private final House house;
        private final Register guests;
        private final Load load;
        private int gain;
        private int gainSet;
        private final int[] more = new int[KINDS];
        private long above;
        private long below;

        Chooser(House house, Register guests, Load load) {
            this.house = house;
            this.guests = guests;
            this.load = load;
        }

        int bestOf(int all) {
            int best = 0;
            int bestPrices = 0;
            for (int set = 1; set < SETS; set++) {
                if (isPart(set, all)) {
                    int prices = guests.pricesOf(set);
                    if (isBetter(prices, set, bestPrices, best) && fits(set)) {
                        best = set;
                        bestPrices = prices;
                    }
                }
            }
            return best;
        }

        /** Sets come from the least on, so a like one that comes later is not better. */
        private static boolean isBetter(int value, int set, int bestValue, int best) {
            return value > bestValue
                    || value == bestValue && Integer.bitCount(set) < Integer.bitCount(best);
        }

        private boolean fits(int set) {
            load.turnTo(set);
            return load.fits();
        }

        int smallestMisfit() {
            int all = guests.stays;
            if (fits(all)) {
                return 0;
            }
            int smallest = all;
            for (int set = 1; set < SETS; set++) {
                if (isPart(set, all) && Integer.bitCount(set) < Integer.bitCount(smallest) && !fits(set)) {
                    smallest = set;
                }
            }
            return smallest;
        }

        void chooseLarger() {
            gain = 0;
            gainSet = 0;
            for (int set = 1; set < SETS; set++) {
                if (isPart(set, guests.stays)) {
                    int prices = guests.pricesOf(set);
                    if (isBetter(prices, set, gain, gainSet)) {
                        tryLarger(set, prices);
                    }
                }
            }
            load.turnTo(gainSet);
            for (int kind = 0; kind < KINDS; kind++) {
                more[kind] = moreOf(kind);
            }
        }

        private void tryLarger(int set, int prices) {
            load.turnTo(set);
            int brings = prices;
            for (int kind = 0; kind < KINDS; kind++) {
                brings -= moreOf(kind) * house.pence[kind];
            }
            if (isBetter(brings, set, gain, gainSet) && load.fitsButForPlant()) {
                gain = brings;
                gainSet = set;
            }
        }

        private int moreOf(int kind) {
            return Math.max(0, load.peakOf(kind) - house.most[kind]);
        }

        void shareOut(int stays, int b) {
            int n = Integer.bitCount(stays);
            long together = 0;
            for (int set = 0; set < SETS; set++) {
                if (isPart(set, stays)) {
                    int others = Integer.bitCount(set & ~(1 << b));
                    long orders = factorial(others) * factorial(n - 1 - others);
                    long cost = orders * plantCostOf(set);
                    together += isIn(set, b) ? cost : -cost;
                }
            }
            reduce(together, factorial(n));
        }

        private long plantCostOf(int set) {
            load.turnTo(set);
            long cost = 0;
            for (int kind = 0; kind < KINDS; kind++) {
                cost += (long) load.peakOf(kind) * house.pence[kind];
            }
            return cost;
        }

        private static long factorial(int n) {
            long product = 1;
            for (int i = 2; i <= n; i++) {
                product *= i;
            }
            return product;
        }

        private void reduce(long numerator, long denominator) {
            long divisor = denominator;
            long rest = numerator;
            for (int i = 0; i < 100 && rest != 0; i++) {
                long next = divisor % rest;
                divisor = rest;
                rest = next;
            }
            above = numerator;
            below = denominator;
            if (divisor > 1) {
                above = numerator / divisor;
                below = denominator / divisor;
            }
        }
    }

    /** What is given, what is missed and what harm that is. */
    private static final class Service {
        private final House house;
        private final Register guests;
        private final Law law;
        private final Load load;
        private final int[][] given = new int[STAYS][SLOTS];
        private final int[] missed = new int[STAYS];
        private int harm;
        private int water;
        private final int[] order = new int[STAYS];
        private final int[] soon = new int[STAYS];
        private final int[] plantLeft = new int[KINDS];
        private final int[] pipesLeft = new int[FLOORS];

        private final int[] rainTop = new int[HOURS];
        private final int[] leastHarm = new int[SETS];
        private final int[] nextStay = new int[SETS];

        Service(House house, Register guests, Law law, Load load) {
            this.house = house;
            this.guests = guests;
            this.law = law;
            this.load = load;
        }

        void serveAll() {
            load.begin();
            harm = 0;
            water = house.water;
            Arrays.fill(missed, 0);
            for (int hour = 0; hour < HOURS; hour++) {
                serveHour(hour);
            }
        }

        int missedOfAll() {
            int together = 0;
            for (int b = 0; b < STAYS; b++) {
                together += missed[b];
            }
            return together;
        }

        private void serveHour(int hour) {
            water = house.afterInflow(water);
            System.arraycopy(house.most, 0, plantLeft, 0, KINDS);
            System.arraycopy(house.pipeMost, 0, pipesLeft, 0, FLOORS);
            int count = orderStays(hour);
            for (int i = 0; i < count; i++) {
                serve(order[i], hour);
            }
        }

        /** Fills the order and answers how many are in it. */
        private int orderStays(int hour) {
            int count = 0;
            for (int b = 0; b < STAYS; b++) {
                if (guests.has(b)) {
                    law.askAbout(b, guests, house);
                    law.askAt(hour, 0, 0, 0);
                    soon[b] = law.answerBy('p');
                    int place = count;
                    while (place > 0 && soon[order[place - 1]] < soon[b]) {
                        order[place] = order[place - 1];
                        place--;
                    }
                    order[place] = b;
                    count++;
                }
            }
            return count;
        }

        private void serve(int b, int hour) {
            for (int kind = 0; kind < KINDS; kind++) {
                int slot = kind * HOURS + hour;
                int wanted = load.wanted[b][slot];
                int got = kind == RAIN ? giveRain(load.floorOf[b], wanted)
                        : Math.min(wanted, plantLeft[kind]);
                plantLeft[kind] -= got;
                given[b][slot] = got;
                missed[b] += wanted - got;
                harm += harmOf(b, slot, wanted - got);
            }
        }

        private int giveRain(int floor, int wanted) {
            int got = Math.min(Math.min(wanted, plantLeft[RAIN]), Math.min(pipesLeft[floor], water));
            pipesLeft[floor] -= got;
            water -= got;
            return got;
        }

        private int harmOf(int b, int slot, int missing) {
            if (missing == 0) {
                return 0;
            }
            law.askAbout(b, guests, house);
            law.askAt(slot % HOURS, slot / HOURS, load.wanted[b][slot], missing);
            return missing * law.answerBy('m');
        }

        /**
         * What a STAY gets depends on which are served ahead of it, but not on their order,
         * and what all get together not on the order either; so the CELLAR's water is known
         * ahead, and sets stand for orders. The load must have begun.
         */
        void orderForDrought(int stays) {
            readRainTops(stays);
            leastHarm[stays] = 0;
            for (int ahead = stays - 1; ahead >= 0; ahead--) {
                if (isPart(ahead, stays)) {
                    load.turnTo(ahead);
                    chooseNext(ahead, stays & ~ahead);
                }
            }
        }

        private void readRainTops(int stays) {
            load.turnTo(stays);
            int level = house.water;
            for (int hour = 0; hour < HOURS; hour++) {
                level = house.afterInflow(level);
                rainTop[hour] = Math.min(house.most[RAIN], level);
                level -= Math.min(rainTop[hour], load.throughPipes(hour));
            }
        }

        private void chooseNext(int ahead, int behind) {
            boolean found = false;
            for (int b = 0; b < STAYS; b++) {
                if (isIn(behind, b)) {
                    int its = harmBehind(b) + leastHarm[ahead | 1 << b];
                    if (!found || its < leastHarm[ahead]) {
                        found = true;
                        leastHarm[ahead] = its;
                        nextStay[ahead] = b;
                    }
                }
            }
        }

        /** HARM of a STAY that is served next behind the load's set. */
        private int harmBehind(int b) {
            int together = 0;
            for (int slot = 0; slot < SLOTS; slot++) {
                int wanted = load.wanted[b][slot];
                if (wanted > 0) {
                    int left = slot < HOURS ? rainLeft(load.floorOf[b], slot)
                            : house.most[slot / HOURS] - load.sum[slot];
                    together += harmOf(b, slot, wanted - Math.min(wanted, Math.max(0, left)));
                }
            }
            return together;
        }

        private int rainLeft(int floor, int hour) {
            return Math.min(rainTop[hour] - load.throughPipes(hour),
                    house.pipeMost[floor] - load.floorRain[floor * HOURS + hour]);
        }

        int droughtStayAt(int place) {
            int ahead = 0;
            for (int i = 0; i < place; i++) {
                ahead |= 1 << nextStay[ahead];
            }
            return nextStay[ahead];
        }
    }

    /** Searches for other ROOMS and other SHIFTS; the load must have begun. */
    private static final class Mover {
        // More than five STAYS can be SHIFTED together.
        private static final int TOO_MANY_HOURS = 11;

        private final House house;
        private final Register guests;
        private final Load load;
        private int moving;
        private final int[] roomFor = new int[STAYS];
        private final int[] shiftFor = new int[STAYS];
        private final int[] triedShift = new int[STAYS];
        private int mostEach;
        private int fewestHours;

        Mover(House house, Register guests, Load load) {
            this.house = house;
            this.guests = guests;
            this.load = load;
        }

        boolean findRooms(int stays, int told) {
            moving = stays;
            load.turnTo(guests.stays & ~stays);
            return findRoomsFrom(0, told);
        }

        private boolean findRoomsFrom(int b, int free) {
            if (b >= STAYS) {
                return true;
            }
            if (!isIn(moving, b)) {
                return findRoomsFrom(b + 1, free);
            }
            int triedFloors = 0;
            for (int room = 0; room < ROOMS; room++) {
                int floor = house.floorOf[room];
                // A FLOOR's ROOMS are all alike: where the first won't do, no other will.
                if (isIn(free, room) && !isIn(triedFloors, floor)) {
                    triedFloors |= 1 << floor;
                    roomFor[b] = room;
                    load.setFloor(b, floor);
                    load.include(b);
                    if (load.fits() && findRoomsFrom(b + 1, free & ~(1 << room))) {
                        return true;
                    }
                    load.exclude(b);
                }
            }
            return false;
        }

        void moveIn(int stays) {
            for (int b = 0; b < STAYS; b++) {
                if (isIn(stays, b)) {
                    guests.room[b] = roomFor[b];
                }
            }
        }

        boolean findShifts(int stays, int k) {
            moving = stays;
            mostEach = k;
            fewestHours = TOO_MANY_HOURS;
            load.turnTo(guests.stays & ~stays);
            findShiftsFrom(0, 0);
            return fewestHours < TOO_MANY_HOURS;
        }

        private void findShiftsFrom(int b, int hours) {
            if (b >= STAYS) {
                fewestHours = hours;
                System.arraycopy(triedShift, 0, shiftFor, 0, STAYS);
                return;
            }
            if (!isIn(moving, b)) {
                findShiftsFrom(b + 1, hours);
                return;
            }
            for (int by = -mostEach; by <= mostEach; by++) {
                int shift = guests.shifted[b] + by;
                int together = hours + Math.abs(by);
                if (Math.abs(shift) <= MOST_SHIFT && together < fewestHours) {
                    triedShift[b] = shift;
                    load.setShift(b, shift);
                    load.include(b);
                    if (load.fits()) {
                        findShiftsFrom(b + 1, together);
                    }
                    load.exclude(b);
                }
            }
        }

        void shiftAll(int stays) {
            for (int b = 0; b < STAYS; b++) {
                if (isIn(stays, b)) {
                    guests.shifted[b] = shiftFor[b];
                }
            }
        }
    }
}
