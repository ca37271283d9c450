import java.util.ArrayList;
import java.util.List;

/**
 * Each call that is refused, on a hotel where all that can be told is told: what it answers, that nothing
 * is changed by it, and what becomes of the tape. Calls that only ask are held to the same.
 */
final class RefusedTest {
    private static final int MIN = Integer.MIN_VALUE;
    private static final int MAX = Integer.MAX_VALUE;

    // Sixty bytes, so that the tape's end is seen; six PARTS, so that a tape that stays can be read as a DAY.
    private static final String ON_TAPE = "r12(10-24);w13(11-23);l14(12-22);r15(13-21);w1(2-9);l7(0-24)";

    // STAYS that are there; STAY 7 is only KEPT.
    private static final int THERE = 1 | 1 << 1 | 1 << 2 | 1 << 9;

    private enum Tape { STAYS, EMPTY }

    private interface Maker {
        WeatherHotel make();
    }

    private interface Call {
        long on(WeatherHotel hotel);
    }

    private RefusedTest() {
    }

    public static void main(String[] args) {
        feed();
        day();
        dayFaults();
        house();
        stays();
        law();
        lawFaults();
        service();
        sets();
        rooms();
        shifting();
        searches();
        meter();
        draws();
        undo();
        check();
        count();
        Ask.end();
    }

    // ---- the hotel, and all of it that can be seen

    private static WeatherHotel made() {
        return made(ON_TAPE);
    }

    private static WeatherHotel made(String onTape) {
        WeatherHotel hotel = unkept();
        hotel.keep();
        hotel.leave(7);
        hotel.stay(0, 2, 0, 45);
        hotel.shift(0, 1);
        hotel.seed(4711);
        Ask.feed(hotel, Ask.bytesOf(onTape));
        return hotel;
    }

    private static WeatherHotel unkept() {
        WeatherHotel hotel = Hotels.withRooms(8);
        Ask.day(hotel, 0, "r10(8-10);w4(0-2)");
        Ask.day(hotel, 1, "r6(9-11);l3(20-24)");
        Ask.day(hotel, 2, "r5(9-10);w2(1-2);l1(21-22)");
        Ask.day(hotel, 11, "w9(0-24)");
        hotel.plant(0, 14, 3);
        hotel.plant(1, 5, 2);
        hotel.plant(2, 2, 7);
        hotel.pipes(0, 12);
        hotel.pipes(1, 5);
        hotel.cellar(30, 1);
        hotel.stay(0, 0, 0, 50);
        hotel.stay(1, 4, 1, 30);
        hotel.stay(2, 1, 2, 20);
        hotel.stay(7, 3, 11, 5);
        hotel.stay(9, 7, 2, 999);
        hotel.shift(1, -1);
        hotel.shift(9, 3);
        Ask.law(hotel, "p2(s=1);m3(k=0&g>1);m2(1=1)");
        hotel.seed(77);
        return hotel;
    }

    /** All but the tape and what is KEPT. */
    private static List<Long> state(WeatherHotel hotel) {
        List<Long> all = new ArrayList<>(guests(hotel));
        int there = hotel.count(2);
        for (int what : new int[] {0, 1, 3, 50, 51, 52, 53, 54, 55, 56, 57, 58, 59}) {
            all.add((long) hotel.count(what));
        }
        for (int d = 0; d < 12; d++) {
            all.add((long) hotel.dayIs(d, 0, 9));
            all.add((long) hotel.dayIs(d, 1, 1));
            all.add((long) hotel.dayIs(d, 2, 21));
        }
        for (int hour : new int[] {0, 1, 4, 8, 9, 10, 11, 12, 21, 23}) {
            for (int kind = 0; kind < 3; kind++) {
                all.add((long) hotel.wants(kind, hour));
            }
            all.add((long) hotel.gets(0, 0, hour));
            all.add((long) hotel.gets(1, 0, hour));
        }
        for (int what = 0; what < 20; what++) {
            all.add((long) hotel.served(what));
        }
        for (int what = 0; what < 5; what++) {
            all.add((long) hotel.larger(what));
            all.add((long) hotel.can(there, what));
            all.add((long) hotel.drought(there, what - 1));
        }
        for (int b = 0; b < 10; b++) {
            all.add((long) hotel.costs(b));
            all.add(hotel.fair(there, b, 0));
        }
        all.add((long) hotel.best(0));
        all.add((long) hotel.best(1));
        all.add((long) hotel.smallest());
        return all;
    }

    private static List<Long> guests(WeatherHotel hotel) {
        List<Long> all = new ArrayList<>();
        all.add((long) hotel.count(2));
        all.add((long) hotel.count(5));
        for (int what = 10; what < 50; what++) {
            all.add((long) hotel.count(what));
        }
        return all;
    }

    private static void same(String name, List<Long> got, List<Long> want) {
        for (int i = 0; i < want.size(); i++) {
            Ask.due(name + ", answer " + i, got.get(i), want.get(i));
        }
    }

    /** One call on one hotel, and all that can be seen then held against a hotel without that call. */
    private static void askOn(Maker maker, String name, long due, Tape after, Call call) {
        WeatherHotel touched = maker.make();
        WeatherHotel untouched = maker.make();
        Ask.due(name, call.on(touched), due);
        same(name + ": what stays", state(touched), state(untouched));
        Ask.due(name + ": bytes of the tape", touched.count(4), after == Tape.EMPTY ? 0 : untouched.count(4));
        if (after == Tape.STAYS) {
            Ask.due(name + ": what is on the tape", touched.day(8, 60), untouched.day(8, 60));
            for (int hour = 0; hour < 24; hour += 3) {
                Ask.due(name + ": what is on the tape", touched.dayIs(8, hour % 3, hour), untouched.dayIs(8, hour % 3, hour));
            }
        }
        Ask.due(name + ": whether one is KEPT", touched.undo(), untouched.undo());
        same(name + ": what is KEPT", guests(touched), guests(untouched));
    }

    private static void stays(String name, long due, Call call) {
        askOn(RefusedTest::made, name, due, Tape.STAYS, call);
    }

    private static void empties(String name, long due, String onTape, Call call) {
        askOn(() -> made(onTape), name, due, Tape.EMPTY, call);
    }

    private static long bit(boolean holds) {
        return holds ? 1 : 0;
    }

    private static String packed(int... bytes) {
        StringBuilder text = new StringBuilder();
        for (int one : bytes) {
            text.append((char) (one & 255));
        }
        return text.toString();
    }

    private static String full() {
        return ON_TAPE + " ".repeat(140);
    }

    // ---- the calls

    private static void feed() {
        askOn(() -> made(full()), "2: a full tape", -1, Tape.STAYS, hotel -> hotel.feed(1, 2, 3, 4, 5));
        askOn(() -> made(full()), "2: a full tape, twice", -2, Tape.STAYS,
                hotel -> hotel.feed(1, 2, 3, 4, 5) + hotel.feed(0, 0, 0, 0, 0));
    }

    private static void day() {
        for (int d : new int[] {-1, 12, 13, 31, 32, MIN, MAX}) {
            stays("3: no DAY " + d, -1, hotel -> hotel.day(d, 60));
        }
        for (int n : new int[] {0, -1, 61, 80, 120, 121, MIN, MAX}) {
            stays("3: n " + n + " of 60", -1, hotel -> hotel.day(0, n));
            stays("3: n " + n + " of 60, a DAY that is not told", -1, hotel -> hotel.day(5, n));
        }
        askOn(() -> made(full()), "3: n 121 of 200", -1, Tape.STAYS, hotel -> hotel.day(0, 121));
        askOn(() -> made(full()), "3: n 200 of 200", -1, Tape.STAYS, hotel -> hotel.day(0, 200));
        askOn(() -> made(""), "3: n 1 of none", -1, Tape.EMPTY, hotel -> hotel.day(0, 1));
    }

    private static void dayFaults() {
        String fourteen = "r1(0-1);".repeat(14);
        Object[][] faults = {
            {"x", -1000}, {"r9(0-24);w9(0-24);l9(0-24)x", -1026}, {"r9(0-24);w9(0-24);l9(0-24", -1025}, {"r9(0-24);", -1009},
            {"r9(0-24);w999", -1012}, {"r9(0-24);l9(24-25)", -3012}, {"r9(0-24);l9(7-7)", -3014}, {"r9(0-24);l9(7-25)", -3014},
            {fourteen + "r", -4112}, {fourteen + "r1(0-1)", -4112}, {fourteen, -1112},
        };
        for (Object[] fault : faults) {
            String text = (String) fault[0];
            empties("3: a told DAY and " + text, (Integer) fault[1], text, hotel -> hotel.day(0, text.length()));
            empties("3: DAY 11 and " + text, (Integer) fault[1], text, hotel -> hotel.day(11, text.length()));
            empties("3: no told DAY and " + text, (Integer) fault[1], text, hotel -> hotel.day(3, text.length()));
        }
    }

    private static void house() {
        for (int[] ask : new int[][] {{3, 0, 0}, {-1, 0, 0}, {12, 0, 0}, {0, 3, 0}, {0, -1, 0}, {0, 0, 24}, {0, 0, -1}}) {
            stays("4: dayIs", -1, hotel -> hotel.dayIs(ask[0], ask[1], ask[2]));
        }
        for (int floor : new int[] {-1, 4, MIN, MAX}) {
            stays("5: no FLOOR " + floor, -1, hotel -> hotel.room(floor));
        }
        askOn(RefusedTest::withTenRooms, "5: 10 are there", -1, Tape.STAYS, hotel -> hotel.room(0));
        askOn(RefusedTest::withTenRooms, "5: 10 are there", -1, Tape.STAYS, hotel -> hotel.room(4));
        for (int kind : new int[] {-1, 3, MIN, MAX}) {
            stays("6: no KIND " + kind, 0, hotel -> bit(hotel.plant(kind, 1, 1)));
        }
        for (int kind = 0; kind < 3; kind++) {
            int itsKind = kind;
            for (int much : new int[] {-1, 1000, MIN, MAX}) {
                stays("6: PLANT " + much, 0, hotel -> bit(hotel.plant(itsKind, much, 1)));
                stays("6: pence " + much, 0, hotel -> bit(hotel.plant(itsKind, 1, much)));
            }
        }
        for (int floor : new int[] {-1, 4, MIN, MAX}) {
            stays("7: no FLOOR " + floor, 0, hotel -> bit(hotel.pipes(floor, 1)));
        }
        for (int floor = 0; floor < 4; floor++) {
            int itsFloor = floor;
            for (int most : new int[] {-1, 1000, MIN, MAX}) {
                stays("7: PIPES " + most, 0, hotel -> bit(hotel.pipes(itsFloor, most)));
            }
        }
        for (int water : new int[] {-1, 10000, MIN, MAX}) {
            stays("8: water " + water, 0, hotel -> bit(hotel.cellar(water, 5)));
        }
        for (int comes : new int[] {-1, 100, MIN, MAX}) {
            stays("8: comes " + comes, 0, hotel -> bit(hotel.cellar(50, comes)));
        }
    }

    private static WeatherHotel withTenRooms() {
        WeatherHotel hotel = made();
        hotel.room(3);
        hotel.room(3);
        return hotel;
    }

    private static void stays() {
        for (int b : new int[] {-1, 10, 11, 31, 32, MIN, MAX}) {
            stays("9: no STAY " + b, 0, hotel -> bit(hotel.stay(b, 5, 0, 1)));
            stays("10: no STAY " + b, 0, hotel -> bit(hotel.leave(b)));
            stays("11: no STAY " + b, 0, hotel -> bit(hotel.shift(b, 0)));
        }
        for (int b : new int[] {0, 1, 3, 9}) {
            for (int room : new int[] {-1, 8, 9, 10, MIN, MAX}) {
                stays("9: no ROOM " + room, 0, hotel -> bit(hotel.stay(b, room, 1, 1)));
            }
            for (int d : new int[] {-1, 3, 12, MIN, MAX}) {
                stays("9: no told DAY " + d, 0, hotel -> bit(hotel.stay(b, 5, d, 1)));
            }
            for (int price : new int[] {-1, 1000, MIN, MAX}) {
                stays("9: no PRICE " + price, 0, hotel -> bit(hotel.stay(b, 5, 1, price)));
            }
        }
        stays("9: STAY 1 is in that ROOM", 0, hotel -> bit(hotel.stay(0, 4, 1, 1)));
        stays("9: STAY 0 is in that ROOM", 0, hotel -> bit(hotel.stay(5, 2, 1, 1)));
        stays("9: STAY 9 is in that ROOM", 0, hotel -> bit(hotel.stay(8, 7, 1, 1)));
        for (int b : new int[] {3, 7, 8}) {
            stays("10: STAY " + b + " is not there", 0, hotel -> bit(hotel.leave(b)));
            stays("11: STAY " + b + " is not there", 0, hotel -> bit(hotel.shift(b, 2)));
        }
        for (int hours : new int[] {-4, 4, MIN, MAX}) {
            stays("11: SHIFTED " + hours, 0, hotel -> bit(hotel.shift(0, hours)));
            stays("11: SHIFTED " + hours, 0, hotel -> bit(hotel.shift(9, hours)));
        }
    }

    private static void law() {
        for (int n : new int[] {0, -1, 61, 80, 160, 161, MIN, MAX}) {
            stays("12: n " + n + " of 60", -1, hotel -> hotel.law(n));
        }
        askOn(() -> made(full()), "12: n 161 of 200", -1, Tape.STAYS, hotel -> hotel.law(161));
        askOn(() -> made(full()), "12: n 200 of 200", -1, Tape.STAYS, hotel -> hotel.law(200));
        askOn(() -> made(""), "12: n 1 of none", -1, Tape.EMPTY, hotel -> hotel.law(1));
    }

    private static void lawFaults() {
        String twelve = "m9(1=1);".repeat(12);
        Object[][] faults = {
            {"x", -1000}, {"m9(1=1)x", -1007}, {"m9(1=1);p5(s=2", -1014}, {"m9(1=1);", -1008}, {"p1(s=0);m9(1=000001)", -2018},
            {"p5(s=2);m123456", -2014}, {twelve + "p", -4096}, {twelve + "p1(1=1)", -4096}, {twelve, -1096},
            {"m9(1=1);p1(((((((", -5016}, {"m9(1=1);p1(!!!!!!1=1)", -5016}, {"m9(1=1);p[[[[[[[1", -5015},
        };
        for (Object[] fault : faults) {
            String text = (String) fault[0];
            empties("12: " + text, (Integer) fault[1], text, hotel -> hotel.law(text.length()));
        }
        WeatherHotel lawless = Hotels.withStays("l5(0-1)");
        Ask.due("12: a FAULT without a LAW before", Ask.law(lawless, "m9(1=1);"), -1008);
        Ask.due("12: none then", lawless.count(3), 0);
        Ask.due("12: none then", lawless.served(0), 5);
    }

    private static void service() {
        int[][] slots = {{-1, 0}, {3, 0}, {0, -1}, {0, 24}, {MIN, 0}, {0, MAX}};
        for (int[] slot : slots) {
            stays("13: wants", -1, hotel -> hotel.wants(slot[0], slot[1]));
            stays("14: gets", -1, hotel -> hotel.gets(0, slot[0], slot[1]));
        }
        for (int b : new int[] {-1, 3, 7, 10, 32, MIN, MAX}) {
            stays("14: no STAY " + b, -1, hotel -> hotel.gets(b, 0, 9));
        }
        for (int what : new int[] {-1, 3, 9, 13, 17, 20, MIN, MAX}) {
            stays("15: no such what " + what, -1, hotel -> hotel.served(what));
        }
    }

    private static void sets() {
        for (int set : new int[] {0, 8, THERE | 8, THERE | 128, 1024, THERE | 1024, -1, MIN, MAX}) {
            stays("16: no such STAYS " + set, -3, hotel -> hotel.can(set, 0));
            stays("20: no such STAYS " + set, -1, hotel -> hotel.rooms(set, Integer.bitCount(set), 10));
            stays("21: no such STAYS " + set, -1, hotel -> hotel.shifting(set, 1, 11));
            stays("23: no such STAYS " + set, -1, hotel -> hotel.fair(set, 0, 0));
            stays("24: no such STAYS " + set, -3, hotel -> hotel.drought(set, -1));
        }
        for (int what : new int[] {-1, 3, MIN, MAX}) {
            stays("16: no such what " + what, -3, hotel -> hotel.can(THERE, what));
        }
        for (int what : new int[] {-1, 2, MIN, MAX}) {
            stays("17: no such what " + what, -1, hotel -> hotel.best(what));
            stays("23: no such what " + what, -1, hotel -> hotel.fair(THERE, 0, what));
        }
        for (int b : new int[] {-1, 3, 7, 10, 32, MIN, MAX}) {
            stays("19: no STAY " + b, -1000000, hotel -> hotel.costs(b));
            stays("23: no STAY " + b + " with them", -1, hotel -> hotel.fair(THERE, b, 0));
        }
        stays("23: a STAY that is not with them", -1, hotel -> hotel.fair(THERE & ~4, 2, 0));
    }

    private static void rooms() {
        for (int n : new int[] {0, -1, 1, 3, 4, MIN, MAX}) {
            stays("20: n " + n + " for two", -1, hotel -> hotel.rooms(3, n, 10));
        }
        for (int what : new int[] {-1, 2, 3, 9, 11, 32, MIN, MAX}) {
            stays("20: no such what " + what, -1, hotel -> hotel.rooms(3, 2, what));
        }
        askOn(() -> made(""), "20: n 1 of none", -1, Tape.EMPTY, hotel -> hotel.rooms(1, 1, 10));
        for (int what : new int[] {0, 1, 10}) {
            empties("20: a ROOM twice", -3, packed(5, 5), hotel -> hotel.rooms(3, 2, what));
            empties("20: its own ROOM twice", -3, packed(2, 2), hotel -> hotel.rooms(3, 2, what));
            empties("20: no such ROOM", -3, packed(5, 8), hotel -> hotel.rooms(3, 2, what));
            empties("20: no such ROOM", -3, packed(255, 5), hotel -> hotel.rooms(3, 2, what));
            empties("20: another STAY's", -3, packed(5, 1), hotel -> hotel.rooms(3, 2, what));
            empties("20: another STAY's", -3, packed(7, 5), hotel -> hotel.rooms(3, 2, what));
            empties("20: it can't be", what == 10 ? 0 : -2, packed(5, 6), hotel -> hotel.rooms(3, 2, what));
        }
        // With more PLANT it can be; what is only asked is not so then.
        askOn(() -> larger(made(packed(0, 6))), "20: only asked", 0, Tape.EMPTY, hotel -> hotel.rooms(3, 2, 0));
        askOn(() -> larger(made(packed(6, 0))), "20: only asked", 6, Tape.EMPTY, hotel -> hotel.rooms(3, 2, 1));
    }

    private static WeatherHotel larger(WeatherHotel hotel) {
        Hotels.plenty(hotel);
        hotel.cellar(9999, 0);
        return hotel;
    }

    private static void shifting() {
        for (int k : new int[] {0, -1, 3, MIN, MAX}) {
            stays("21: no such k " + k, -1, hotel -> hotel.shifting(3, k, 11));
        }
        for (int what : new int[] {-1, 2, 3, 9, 12, 32, MIN, MAX}) {
            stays("21: no such what " + what, -1, hotel -> hotel.shifting(3, 1, what));
        }
        for (int what : new int[] {0, 1, 10, 11}) {
            stays("21: it can't be", -2, hotel -> hotel.shifting(3, 2, what));
        }
        // HOUR 9 is too full; STAY 2 an HOUR earlier will do, so will others, but not with so small a row.
        Maker maker = () -> {
            WeatherHotel hotel = larger(made());
            hotel.plant(0, 16, 1);
            return hotel;
        };
        askOn(maker, "21: only asked", 1, Tape.STAYS, hotel -> hotel.shifting(5, 1, 10));
        askOn(maker, "21: only asked", 3 + 1, Tape.STAYS, hotel -> hotel.shifting(5, 1, 0));
        askOn(maker, "21: only asked", 3 - 1, Tape.STAYS, hotel -> hotel.shifting(5, 1, 2));
    }

    private static void searches() {
        for (int what : new int[] {-1, 5, MIN, MAX}) {
            stays("22: no such what " + what, -1, hotel -> hotel.larger(what));
        }
        for (int what : new int[] {4, 5, 6, -2, MIN, MAX}) {
            stays("24: no place " + what, -2, hotel -> hotel.drought(THERE, what));
        }
    }

    private static void meter() {
        for (int n : new int[] {0, -1, 4, MIN, MAX}) {
            stays("25: no such n " + n, -3, hotel -> hotel.meter(n, -1));
            stays("25: no such n " + n, -3, hotel -> hotel.meter(n, 0));
        }
        for (int[] ask : new int[][] {{1, 1}, {1, 2}, {2, 2}, {3, 4}, {3, -2}, {3, MIN}, {3, MAX}}) {
            stays("25: no such what " + ask[1] + " of " + ask[0], -3, hotel -> hotel.meter(ask[0], ask[1]));
        }
        for (int what : new int[] {-1, 0, 3}) {
            Maker forty = () -> made(ON_TAPE.substring(0, 40));
            askOn(forty, "25: 40 bytes", -3, Tape.STAYS, hotel -> hotel.meter(1, what));
            empties("25: no rows", what < 0 ? 0 : -2, ON_TAPE, hotel -> hotel.meter(1, what));
            askOn(() -> made(""), "25: an empty tape", -3, Tape.EMPTY, hotel -> hotel.meter(1, what));
        }
    }

    private static void draws() {
        for (int x : new int[] {-1, 65536, MIN, MAX}) {
            stays("26: no SEED " + x, 0, hotel -> bit(hotel.seed(x)));
        }
        for (int n : new int[] {0, -1, 21, MIN, MAX}) {
            stays("27: no such n " + n, -1, hotel -> hotel.draw(n));
        }
    }

    private static void undo() {
        Maker none = () -> {
            WeatherHotel hotel = unkept();
            Ask.feed(hotel, Ask.bytesOf(ON_TAPE));
            return hotel;
        };
        askOn(none, "29: none was KEPT", 0, Tape.STAYS, hotel -> bit(hotel.undo()));
        stays("28: what is KEPT is so still", 1, hotel -> {
            boolean undone = hotel.undo();
            hotel.leave(7);
            hotel.stay(0, 2, 0, 45);
            hotel.shift(0, 1);
            hotel.seed(4711);
            return bit(undone);
        });
    }

    private static void check() {
        for (int d : new int[] {-1, 3, 12, 32, MIN, MAX}) {
            stays("30: no told DAY " + d, -2, hotel -> hotel.check(d, 0, 1));
        }
        for (int kind : new int[] {-1, 3, MIN, MAX}) {
            stays("30: no KIND " + kind, -2, hotel -> hotel.check(0, kind, 1));
        }
        for (int n : new int[] {-1, 16, 24, 25, MIN, MAX, 1 << 30}) {
            stays("30: n " + n + " of 15", -2, hotel -> hotel.check(0, 0, n));
        }
        askOn(() -> made(full()), "30: n 25 of 50", -2, Tape.STAYS, hotel -> hotel.check(0, 0, 25));
        askOn(() -> made(""), "30: n 1 of none", -2, Tape.EMPTY, hotel -> hotel.check(0, 0, 1));
        empties("30: not so", 0, ON_TAPE, hotel -> hotel.check(0, 0, 15));
        empties("30: right", -1, packed(new int[20]), hotel -> hotel.check(0, 0, 5));
        empties("30: none is right", -1, ON_TAPE, hotel -> hotel.check(0, 0, 0));
    }

    private static void count() {
        for (int what : new int[] {-1, 6, 9, 13, 17, 23, 33, 43, 58, 60, MIN, MAX}) {
            stays("31: no such what " + what, -1, hotel -> hotel.count(what));
        }
    }
}
