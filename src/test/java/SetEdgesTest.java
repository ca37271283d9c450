/** The edges that the document names for sets, orders and rows of STAYS and DAYS: promises 16 to 25. */
final class SetEdgesTest {
    private static final int MIN = Integer.MIN_VALUE;
    private static final int MAX = Integer.MAX_VALUE;

    // STAYS 0 and 3 can be at once, and so can 1 and 2, but no others: each other two share an HOUR.
    private static final String[] TWO_PAIRS = {"r1(0-2)", "r1(0-1);r1(2-3)", "r1(1-2);r1(3-4)", "r1(2-4)"};

    private SetEdgesTest() {
    }

    public static void main(String[] args) {
        canEachCause();
        canLeastCause();
        canFirstHour();
        canSets();
        bestEdges();
        bestOfLikeOnes();
        smallestEdges();
        costsEdges();
        roomsSizes();
        roomsTold();
        roomsForAll();
        shiftingSizes();
        shiftingBounds();
        shiftingMost();
        largerWorth();
        largerLimits();
        fairSizes();
        fairFractions();
        droughtSizes();
        droughtOrders();
        meterSizes();
        meterRows();
        meterNumbers();
        Ask.end();
    }

    private static void due(String what, long got, long want) {
        Ask.due(what, got, want);
    }

    private static WeatherHotel plentyFor(String... texts) {
        WeatherHotel hotel = Hotels.withStays(texts);
        Hotels.plenty(hotel);
        return hotel;
    }

    // ---- 16

    private static void canEachCause() {
        for (int cause = 0; cause < 8; cause++) {
            for (int hour : new int[] {0, 11, 23}) {
                String at = "5(" + hour + "-" + (hour + 1) + ")";
                int floor = cause >= 3 && cause < 7 ? cause - 3 : 1;
                WeatherHotel hotel = Hotels.onOneFloor(floor, "r" + at + ";w" + at + ";l" + at);
                Hotels.plenty(hotel);
                limit(hotel, cause, 4);
                due("16: whether, " + cause + " in " + hour, hotel.can(1, 0), 0);
                due("16: the HOUR, " + cause + " in " + hour, hotel.can(1, 1), hour);
                due("16: why, " + cause + " in " + hour, hotel.can(1, 2), cause);
                limit(hotel, cause, 5);
                due("16: just as much", hotel.can(1, 0), 1);
                due("16: it can: no HOUR", hotel.can(1, 1), -2);
                due("16: it can: no why", hotel.can(1, 2), -2);
            }
        }
    }

    private static void limit(WeatherHotel hotel, int cause, int most) {
        if (cause < 3) {
            hotel.plant(cause, most, 0);
        } else if (cause < 7) {
            hotel.pipes(cause - 3, most);
        } else {
            hotel.cellar(most, 0);
        }
    }

    private static void canLeastCause() {
        WeatherHotel hotel = Hotels.withStays(Hotels.times(4, "r5(7-8);w5(7-8);l5(7-8)"));
        for (int cause = 0; cause < 8; cause++) {
            limit(hotel, cause, cause < 3 || cause == 7 ? 19 : 4);
        }
        for (int cause = 0; cause < 8; cause++) {
            due("16: the least of these", hotel.can(15, 2), cause);
            due("16: the HOUR is the same", hotel.can(15, 1), 7);
            limit(hotel, cause, cause < 3 || cause == 7 ? 20 : 5);
        }
        due("16: nothing is too small", hotel.can(15, 2), -2);
    }

    private static void canFirstHour() {
        WeatherHotel hotel = plentyFor("l5(2-3);r5(3-4)");
        hotel.plant(0, 4, 0);
        hotel.plant(2, 4, 0);
        due("16: the first HOUR, though the other why is less", hotel.can(1, 1) * 10 + hotel.can(1, 2), 22);
        WeatherHotel used = plentyFor("r10(0-3)");
        used.cellar(29, 0);
        due("16: water is used as wanted ahead", used.can(1, 1) * 10 + used.can(1, 2), 27);
        used.cellar(30, 0);
        due("16: just enough", used.can(1, 0), 1);
        used.cellar(7, 3);
        due("16: it comes ahead of each HOUR", used.can(1, 1), 1);
        used.cellar(0, 10);
        due("16: as much as is used", used.can(1, 0), 1);
        WeatherHotel full = plentyFor("r99(0-1);r99(22-24)");
        full.cellar(9999, 99);
        due("16: a full CELLAR", full.can(1, 0), 1);
        full.cellar(98, 0);
        due("16: the very first HOUR", full.can(1, 1), 0);
    }

    private static void canSets() {
        WeatherHotel hotel = plentyFor(Hotels.times(10, "r99(5-6)"));
        hotel.plant(0, 989, 0);
        due("16: all ten can't", hotel.can(1023, 0), 0);
        for (int b = 0; b < 10; b++) {
            due("16: nine can", hotel.can(1023 & ~(1 << b), 0), 1);
            due("16: one can", hotel.can(1 << b, 0), 1);
        }
        for (int set : new int[] {0, 1024, 2047, -1, MIN, MAX}) {
            due("16: no such STAYS " + set, hotel.can(set, 0), -3);
        }
        for (int what : new int[] {-1, 3, MIN, MAX}) {
            due("16: no such what " + what, hotel.can(1, what), -3);
        }
        hotel.leave(4);
        due("16: with one that is gone", hotel.can(1023, 0), -3);
        due("16: of one that is gone", hotel.can(16, 1), -3);
        due("16: all others", hotel.can(1023 & ~16, 0), 1);
    }

    // ---- 17 to 19

    private static void bestEdges() {
        WeatherHotel hotel = plentyFor(Hotels.times(10, "r99(5-6)"));
        due("17: all ten", hotel.best(1), 1023);
        due("17: all ten", hotel.best(0), 1000);
        for (int b = 0; b < 10; b++) {
            hotel.stay(b, b, b, 999);
        }
        due("17: most PRICES", hotel.best(0), 9990);
        hotel.plant(0, 989, 0);
        due("17: nine of ten, the least set", hotel.best(1), 511);
        hotel.plant(0, 99, 0);
        due("17: one of ten", hotel.best(1), 1);
        hotel.stay(9, 9, 9, 998);
        hotel.stay(0, 0, 0, 998);
        due("17: the least of the dearest", hotel.best(1), 2);
        hotel.plant(0, 98, 0);
        due("17: none", hotel.best(1), 0);
        due("17: none", hotel.best(0), 0);
        for (int what : new int[] {-1, 2, MIN, MAX}) {
            due("17: no such what", hotel.best(what), -1);
        }
        WeatherHotel free = plentyFor("r1(0-1)", "r1(0-1)");
        free.stay(0, 0, 0, 0);
        free.stay(1, 1, 1, 0);
        due("17: of like ones of fewest: nobody", free.best(1), 0);
        free.stay(1, 1, 1, 1);
        due("17: only who brings something", free.best(1), 2);
    }

    private static void bestOfLikeOnes() {
        WeatherHotel hotel = plentyFor(TWO_PAIRS);
        hotel.plant(0, 1, 0);
        due("17: 1 and 2 are the least set, not 0 and 3", hotel.best(1), 6);
        hotel.stay(3, 3, 3, 101);
        due("17: of most PRICES", hotel.best(1), 9);
        hotel.stay(3, 3, 3, 100);
        hotel.room(0);
        Ask.day(hotel, 4, "r1(0-4)");
        hotel.stay(4, 4, 4, 200);
        due("17: one with as much alone", hotel.best(1), 16);
        hotel.stay(4, 4, 4, 199);
        due("17: one with less", hotel.best(1), 6);
    }

    private static void smallestEdges() {
        due("18: nobody", new WeatherHotel().smallest(), 0);
        WeatherHotel hotel = plentyFor(Hotels.times(10, "w1(0-1)"));
        due("18: all can", hotel.smallest(), 0);
        for (int most = 10; most >= 0; most--) {
            hotel.plant(1, most, 0);
            due("18: one more than can", hotel.smallest(), most == 10 ? 0 : (2 << most) - 1);
        }
        WeatherHotel pairs = plentyFor("r1(0-1)", "r1(1-2)", "r1(1-2)", "r1(0-1)");
        pairs.plant(0, 1, 0);
        due("18: 1 and 2 are the least, not 0 and 3", pairs.smallest(), 6);
        pairs.pipes(3, 0);
        due("18: of fewest STAYS", pairs.smallest(), 8);
        WeatherHotel last = plentyFor(Hotels.times(10, "l1(0-1)"));
        last.leave(0);
        Ask.day(last, 9, "l99(0-1)");
        last.plant(2, 98, 0);
        due("18: STAY 9 alone", last.smallest(), 512);
    }

    private static void costsEdges() {
        WeatherHotel alone = plentyFor("r5(0-1)");
        due("19: one alone costs nothing", alone.costs(0), 0);
        alone.plant(0, 4, 0);
        due("19: not when it can't be, either", alone.costs(0), 0);
        WeatherHotel two = plentyFor("r5(0-1)", "r5(0-1)");
        two.plant(0, 9, 0);
        two.stay(0, 0, 0, 999);
        two.stay(1, 1, 1, 999);
        due("19: the one that is in it", two.costs(0), 999);
        due("19: the one that is not", two.costs(1), 0);
        two.stay(1, 1, 1, 0);
        due("19: another without a PRICE", two.costs(0), 0);
        WeatherHotel ten = plentyFor(Hotels.times(10, "r5(0-1)"));
        ten.plant(0, 45, 0);
        due("19: STAY 0 takes the place of STAY 9", ten.costs(0), 100);
        due("19: STAY 9 is not in it", ten.costs(9), 0);
        for (int b : new int[] {-1, 10, MIN, MAX}) {
            due("19: there is none", ten.costs(b), -1000000);
        }
        ten.leave(9);
        due("19: there is none any more", ten.costs(9), -1000000);
        due("19: all can be", ten.costs(0), 0);
        WeatherHotel large = plentyFor("r10(0-1)", "r5(0-1)", "r5(0-1)");
        large.plant(0, 10, 0);
        large.stay(0, 0, 0, 999);
        due("19: one in place of two", large.costs(0), 200);
    }

    // ---- 20

    private static void roomsSizes() {
        for (int size = 1; size <= 7; size++) {
            WeatherHotel hotel = Hotels.withRooms(10);
            Ask.day(hotel, 0, "r0(0-1)");
            int set = 0;
            int[] told = new int[size];
            for (int i = 0; i < size; i++) {
                hotel.stay(9 - i, i, 0, 0);
                set |= 1 << 9 - i;
                told[i] = 9 - i;
            }
            due("20: " + size + " STAYS", Ask.rooms(hotel, set, 10, told), size == 7 ? -1 : 1);
            for (int i = 0; i < size; i++) {
                due("20: the least row by STAYS", hotel.count(19 - i), size == 7 ? i : 9 - i);
            }
            if (size < 7) {
                due("20: one alone is asked", Ask.rooms(hotel, set, 9, told), 9);
                for (int n : new int[] {size - 1, size + 1, 0, -1, 7, MIN, MAX}) {
                    hotel.feed(0, 0, 0, 0, 0);
                    due("20: not as many", hotel.rooms(set, n, 10), -1);
                    due("20: the tape stays", hotel.law(1), -1000);
                }
            }
        }
    }

    private static void roomsTold() {
        WeatherHotel hotel = Hotels.withRooms(7);
        Ask.day(hotel, 0, "r0(0-1)");
        hotel.stay(0, 3, 0, 0);
        hotel.stay(1, 5, 0, 0);
        hotel.stay(9, 1, 0, 0);
        Object[][] asks = {
            {1, 0, new int[] {6}, 6}, {1, 0, new int[] {0}, 0}, {1, 0, new int[] {3}, 3}, {1, 0, new int[] {7}, -3}, {1, 0, new int[] {10}, -3},
            {1, 0, new int[] {128}, -3}, {1, 0, new int[] {255}, -3}, {1, 0, new int[] {5}, -3}, {1, 0, new int[] {1}, -3},
            {3, 0, new int[] {5, 3}, 3}, {3, 1, new int[] {5, 3}, 5}, {3, 0, new int[] {5, 5}, -3}, {3, 0, new int[] {0, 0}, -3},
            {3, 0, new int[] {0, 7}, -3}, {3, 0, new int[] {1, 0}, -3}, {3, 0, new int[] {0, 1}, -3}, {512, 9, new int[] {1}, 1},
            {512, 9, new int[] {6}, 6}, {512, 9, new int[] {3}, -3}, {515, 9, new int[] {6, 4, 2}, 6}, {515, 1, new int[] {1, 5, 3}, 3},
            {1, 10, new int[] {7}, -3}, {3, 10, new int[] {6, 6}, -3}, {1, 10, new int[] {5}, -3},
        };
        for (Object[] ask : asks) {
            int got = Ask.rooms(hotel, (Integer) ask[0], (Integer) ask[1], (int[]) ask[2]);
            due("20: " + ask[0] + " " + ask[1] + " in " + java.util.Arrays.toString((int[]) ask[2]), got, (Integer) ask[3]);
            due("20: empty then", hotel.count(4), 0);
        }
        due("20: all are where they were", hotel.count(10) * 100 + hotel.count(11) * 10 + hotel.count(19), 351);
        due("20: it is so then", Ask.rooms(hotel, 512, 10, 6), 1);
        due("20: it is so then", hotel.count(19), 6);
        due("20: the ROOM ahead is free", hotel.stay(5, 1, 0, 0) ? 1 : 0, 1);
    }

    private static void roomsForAll() {
        // FLOOR 0 has ROOMS 0, 4, 8; its PIPES are for one STAY.
        WeatherHotel hotel = plentyFor("r5(0-1)", "r5(0-1)", "r5(0-1)");
        for (int r = 3; r < 10; r++) {
            hotel.room(r % 4);
        }
        hotel.pipes(0, 5);
        due("20: just as much as the PIPES let", Ask.rooms(hotel, 2, 1, 3), 3);
        due("20: STAY 0 is on that FLOOR", Ask.rooms(hotel, 2, 1, 4), -2);
        due("20: whether", Ask.rooms(hotel, 2, 10, 4), 0);
        due("20: it is as it was", hotel.count(11), 1);
        due("20: all that stay must, too", Ask.rooms(hotel, 6, 1, 4, 5), -2);
        due("20: where one must go to the other FLOOR", Ask.rooms(hotel, 3, 0, 8, 3), 3);
        due("20: the least row is 3 8, as 8 3 is not less", Ask.rooms(hotel, 3, 1, 8, 3), 8);
        due("20: the FLOOR that a STAY leaves is free", Ask.rooms(hotel, 1, 10, 9), 1);
        due("20: for another one", Ask.rooms(hotel, 2, 1, 4), 4);
        hotel.plant(0, 14, 0);
        due("20: PLANT does not for all", Ask.rooms(hotel, 2, 10, 5), 0);
        hotel.plant(0, 15, 0);
        hotel.cellar(14, 0);
        due("20: the CELLAR does not for all", Ask.rooms(hotel, 2, 1, 5), -2);
        hotel.cellar(15, 0);
        due("20: all do", Ask.rooms(hotel, 2, 1, 5), 5);
    }

    // ---- 21

    private static void shiftingSizes() {
        WeatherHotel hotel = plentyFor(Hotels.times(10, "l1(0-1)"));
        int[][] asks = {
            {31, 1, 10, 0}, {992, 1, 10, 0}, {992, 2, 9, 3}, {512, 1, 11, 0}, {1, 1, 0, 3}, {63, 1, 10, -1}, {1023, 1, 10, -1}, {0, 1, 10, -1},
            {1024, 1, 10, -1}, {1025, 1, 10, -1}, {-1, 1, 10, -1}, {MIN, 1, 10, -1}, {MAX, 1, 10, -1}, {1, 0, 10, -1}, {1, 3, 10, -1},
            {1, -1, 10, -1}, {1, MIN, 10, -1}, {1, MAX, 10, -1}, {1, 1, 1, -1}, {1, 1, 9, -1}, {1, 1, 12, -1}, {1, 1, -1, -1},
            {1, 1, MIN, -1}, {1, 1, MAX, -1}, {2, 2, 1, 3}, {2, 2, 0, -1},
        };
        for (int[] ask : asks) {
            due("21: shifting " + ask[0] + " " + ask[1] + " " + ask[2], hotel.shifting(ask[0], ask[1], ask[2]), ask[3]);
        }
        hotel.leave(3);
        due("21: one that is gone", hotel.shifting(8, 1, 10), -1);
        hotel.plant(2, 7, 0);
        due("21: two must go, the other way round the day", hotel.shifting(3, 1, 0) * 10 + hotel.shifting(3, 1, 1), 22);
        due("21: one alone is not enough", hotel.shifting(1, 2, 10), -2);
        due("21: STAY 9 and STAY 8", hotel.shifting(768, 1, 11), 2);
        due("21: it is so then", hotel.count(48) * 10 + hotel.count(49), 22);
        due("21: they want it in HOUR 23", hotel.wants(2, 23), 2);
    }

    /** STAY 1 wants LIGHT where STAY 0 does; STAY 0 is SHIFTED and may only go on within -3 to 3. */
    private static void shiftingBounds() {
        // SHIFTED by, k, HOURS together or -2, SHIFTED then
        int[][] asks = {
            {3, 1, 1, 2}, {3, 2, 1, 2}, {-3, 1, 1, -2}, {0, 1, 1, -1}, {2, 1, 1, 1}, {-2, 1, 1, -3},
        };
        for (int[] ask : asks) {
            int hour = 10 + ask[0];
            WeatherHotel hotel = plentyFor("l5(10-11)", "l5(" + hour + "-" + (hour + 1) + ")");
            hotel.plant(2, 9, 0);
            hotel.shift(0, ask[0]);
            due("21: HOURS together from " + ask[0], hotel.shifting(1, ask[1], 10), ask[2]);
            due("21: SHIFTED then from " + ask[0], hotel.shifting(1, ask[1], 0), 3 + ask[3]);
            due("21: as it was", hotel.count(40), 3 + ask[0]);
            due("21: it is so then", hotel.shifting(1, ask[1], 11), ask[2]);
            due("21: it is so then", hotel.count(40), 3 + ask[3]);
        }
        // The HOURS 6 to 9 and 11 to 13 are taken; HOURS 5 and 14 are free, but are beyond -3 and 3.
        WeatherHotel tight = plentyFor("l5(10-11)", "l5(11-14)", "l5(6-10)");
        tight.plant(2, 9, 0);
        tight.shift(0, 3);
        due("21: not beyond 3", tight.shifting(1, 1, 10), -2);
        due("21: not beyond 3, and three HOURS back are too many", tight.shifting(1, 2, 10), -2);
        tight.shift(0, 2);
        due("21: two HOURS back", tight.shifting(1, 2, 0), 3);
        due("21: two HOURS back", tight.shifting(1, 2, 10), 2);
        due("21: not with one", tight.shifting(1, 1, 10), -2);
        tight.shift(0, -3);
        due("21: not below -3", tight.shifting(1, 2, 10), -2);
        tight.shift(0, -2);
        due("21: two HOURS on", tight.shifting(1, 2, 0), 3);
        tight.shift(1, 3);
        tight.shift(0, 3);
        tight.shift(2, 0);
        due("21: free as it is", tight.shifting(1, 2, 10), 0);
    }

    private static void shiftingMost() {
        // Each of the five has its HOUR and those beside it taken by STAY 5.
        WeatherHotel hotel = plentyFor("r1(2-3)", "r1(7-8)", "r1(12-13)", "r1(17-18)", "r1(22-23)",
                "r1(1-4);r1(6-9);r1(11-14);r1(16-19);r1(21-24)");
        hotel.plant(0, 1, 0);
        due("21: five by two HOURS", hotel.shifting(31, 2, 10), 10);
        due("21: one HOUR each is not enough", hotel.shifting(31, 1, 10), -2);
        for (int b = 0; b < 5; b++) {
            due("21: the least row", hotel.shifting(31, 2, b), 1);
        }
        due("21: it is so then", hotel.shifting(31, 2, 11), 10);
        due("21: all can now", hotel.can(63, 0), 1);
        due("21: none is SHIFTED further", hotel.shifting(31, 2, 10), 0);
        WeatherHotel row = plentyFor("r1(5-6)", "r1(5-6)", "r1(5-6)");
        row.plant(0, 1, 0);
        due("21: two by one HOUR", row.shifting(7, 1, 10), 2);
        due("21: the least row is -1 0 1", row.shifting(7, 1, 0) * 100 + row.shifting(7, 1, 1) * 10 + row.shifting(7, 1, 2), 234);
        due("21: of two, -1 1 is the least", row.shifting(3, 1, 0) * 10 + row.shifting(3, 1, 1), 24);
    }

    // ---- 22

    private static void largerWorth() {
        WeatherHotel hotel = Hotels.withStays("w10(0-1)");
        hotel.plant(1, 0, 9);
        due("22: worth it", hotel.larger(0) * 10 + hotel.larger(1), 101);
        due("22: so much more", hotel.larger(3), 10);
        hotel.plant(1, 0, 10);
        due("22: as much as it costs: nobody", hotel.larger(0) * 10 + hotel.larger(1), 0);
        due("22: no more then", hotel.larger(3), 0);
        hotel.plant(1, 0, 11);
        due("22: not worth it", hotel.larger(0) * 10 + hotel.larger(1), 0);
        hotel.plant(1, 9, 99);
        due("22: only one more", hotel.larger(0) * 10 + hotel.larger(3), 11);
        hotel.plant(1, 10, 99);
        due("22: PLANT is large enough", hotel.larger(0) * 10 + hotel.larger(3), 1000);
        WeatherHotel all = Hotels.withStays(Hotels.times(10, "r99(0-1);w99(0-1);l99(0-1)"));
        due("22: ten for nothing", all.larger(0) * 10000 + all.larger(1), 10001023);
        for (int kind = 0; kind < 3; kind++) {
            due("22: as much as ten want", all.larger(2 + kind), 990);
            all.plant(kind, 999, 999);
            due("22: enough is there", all.larger(2 + kind), 0);
        }
        due("22: PLANT stays as it is", all.gets(9, 0, 0), 99);
        for (int what : new int[] {-1, 5, MIN, MAX}) {
            due("22: no such what", all.larger(what), -1);
        }
        WeatherHotel free = plentyFor("l0(0-1)", "l0(0-1)");
        free.stay(0, 0, 0, 0);
        due("22: of like ones of fewest", free.larger(1), 2);
    }

    private static void largerLimits() {
        WeatherHotel pairs = Hotels.onOneFloor(2, TWO_PAIRS);
        pairs.pipes(2, 1);
        due("22: 1 and 2 are the least set, not 0 and 3", pairs.larger(1), 6);
        due("22: and one more PLANT", pairs.larger(2), 1);
        WeatherHotel hotel = Hotels.withStays("r10(4-6)");
        due("22: PIPES and CELLAR do", hotel.larger(1), 1);
        hotel.pipes(0, 9);
        due("22: PIPES must do", hotel.larger(0) + hotel.larger(1) + hotel.larger(2), 0);
        hotel.pipes(0, 10);
        hotel.cellar(19, 0);
        due("22: the CELLAR must do", hotel.larger(0) + hotel.larger(1) + hotel.larger(2), 0);
        hotel.cellar(20, 0);
        due("22: both just do", hotel.larger(2), 10);
        // All of a set are in one HOUR, or in two: PLANT is made for the HOUR in which they want most.
        WeatherHotel apart = Hotels.withStays("l10(4-5)", "l7(5-6)", "l5(4-5)");
        apart.plant(2, 8, 1);
        due("22: the HOUR in which they want most", apart.larger(4), 7);
        due("22: what it brings", apart.larger(0), 293);
    }

    // ---- 23

    private static void fairSizes() {
        String[] texts = new String[9];
        for (int i = 0; i < 9; i++) {
            texts[i] = "l" + (i + 1) + "(" + i + "-" + (i + 1) + ")";
        }
        WeatherHotel hotel = Hotels.withStays(texts);
        hotel.plant(2, 999, 1);
        // No two want LIGHT in one HOUR, so PLANT is made for the one who wants most. The share of STAY b of eight is 1/8 + 1/7 + .. down to 1/(8 - b).
        long[][] shares = {{1, 8}, {15, 56}, {73, 168}, {533, 840}, {743, 840}, {1023, 840}, {1443, 840}, {2283, 840}};
        for (int b = 0; b < 8; b++) {
            long common = gcd(shares[b][0], shares[b][1]);
            due("23: above the line, " + b, hotel.fair(255, b, 0), shares[b][0] / common);
            due("23: below the line, " + b, hotel.fair(255, b, 1), shares[b][1] / common);
        }
        due("23: without a common divisor", hotel.fair(255, 7, 0) * 1000 + hotel.fair(255, 7, 1), 761280);
        due("23: other eight", hotel.fair(510, 1, 1), 4);
        due("23: nine", hotel.fair(511, 0, 0), -1);
        due("23: none", hotel.fair(0, 0, 0), -1);
        due("23: one", hotel.fair(256, 8, 0) * 10 + hotel.fair(256, 8, 1), 91);
        due("23: one that is not with them", hotel.fair(255, 8, 0), -1);
        int[][] none = {{1024, 0, 0}, {512, 9, 0}, {3, 2, 0}, {3, -1, 0}, {3, 32, 0}, {3, 0, 2}, {3, 0, -1}, {MIN, 0, 0}, {MAX, 0, 0}, {3, MIN, 0}, {3, 0, MAX}};
        for (int[] ask : none) {
            due("23: no such ones", hotel.fair(ask[0], ask[1], ask[2]), -1);
        }
    }

    private static long gcd(long a, long b) {
        return b == 0 ? a : gcd(b, a % b);
    }

    private static void fairFractions() {
        WeatherHotel most = Hotels.withStays(Hotels.times(8, "r99(0-24);w99(0-24);l99(0-24)"));
        for (int kind = 0; kind < 3; kind++) {
            most.plant(kind, 500, 999);
        }
        due("23: PLANT from 0 on, one alone", most.fair(1, 0, 0), 3 * 99 * 999);
        due("23: eight like ones", most.fair(255, 7, 0), 3 * 99 * 999);
        due("23: eight like ones", most.fair(255, 7, 1), 1);
        for (int kind = 0; kind < 3; kind++) {
            most.plant(kind, 500, 0);
        }
        due("23: nothing", most.fair(255, 7, 0) * 10 + most.fair(255, 7, 1), 1);
        WeatherHotel apart = Hotels.withStays("r3(0-1)", "r3(1-2)", "r0(0-1)");
        apart.plant(0, 0, 1);
        due("23: half of it", apart.fair(3, 0, 0) * 10 + apart.fair(3, 0, 1), 32);
        due("23: half of it", apart.fair(3, 1, 0) * 10 + apart.fair(3, 1, 1), 32);
        due("23: one who wants nothing", apart.fair(7, 2, 0) * 10 + apart.fair(7, 2, 1), 1);
        due("23: half of it still", apart.fair(7, 0, 0) * 10 + apart.fair(7, 0, 1), 32);
        apart.shift(1, -1);
        due("23: SHIFTED into one HOUR", apart.fair(3, 1, 0) * 10 + apart.fair(3, 1, 1), 31);
    }

    // ---- 24

    private static void droughtSizes() {
        WeatherHotel hotel = Hotels.withStays(Hotels.times(10, "w5(0-1)"));
        hotel.plant(1, 5, 0);
        for (int size = 1; size <= 6; size++) {
            int set = (1 << size) - 1 << 10 - size;
            due("24: HARM of " + size, hotel.drought(set, -1), 5 * (size - 1));
            for (int place = 0; place < size; place++) {
                due("24: of like ones the least row", hotel.drought(set, place), 10 - size + place);
            }
            for (int place : new int[] {size, size + 1, -2, MIN, MAX}) {
                due("24: no such place", hotel.drought(set, place), -2);
            }
        }
        for (int set : new int[] {0, 127, 1023, 1024, 1025, -1, MIN, MAX}) {
            due("24: no such STAYS", hotel.drought(set, -1), -3);
            due("24: no such STAYS", hotel.drought(set, 0), -3);
        }
        hotel.leave(9);
        due("24: one that is gone", hotel.drought(512, -1), -3);
        hotel.plant(1, 999, 0);
        due("24: no HARM", hotel.drought(63, -1), 0);
        due("24: the least row then", hotel.drought(63, 5), 5);
    }

    private static void droughtOrders() {
        WeatherHotel last = Hotels.withStays("w5(0-1)", "w5(0-1)", "l5(23-24)", "l5(23-24)");
        last.plant(1, 5, 0);
        last.plant(2, 5, 0);
        last.cellar(0, 0);
        Ask.law(last, "m9(s=1);m8(s=3);p9(s=0)");
        due("24: WARMTH in the first HOUR, LIGHT in the last", last.drought(15, -1), 10);
        due("24: 1 ahead of 0, 3 ahead of 2, the least row", last.drought(15, 0) * 1000 + last.drought(15, 1) * 100
                + last.drought(15, 2) * 10 + last.drought(15, 3), 1032);
        WeatherHotel fixed = Hotels.withStays("l5(0-2)", "l5(0-2)");
        fixed.plant(2, 5, 0);
        Ask.law(fixed, "m9(s=0&t=0);m8(s=1&t=1)");
        due("24: one order for all HOURS", fixed.drought(3, -1), 45);
        due("24: one order for all HOURS", fixed.drought(3, 0), 0);
        Ask.law(fixed, "m8(s=0&t=0);m9(s=1&t=1)");
        due("24: the other one", fixed.drought(3, -1) * 10 + fixed.drought(3, 0), 451);
        WeatherHotel wet = plentyFor("r10(0-1)", "r10(1-2)", "r10(0-2)");
        wet.cellar(15, 0);
        Ask.law(wet, "m9(s=1);m1(1=1)");
        // What is used in HOUR 0 is gone in HOUR 1, in whatever order: there is nothing left for STAY 1 with all of them.
        due("24: the CELLAR goes on from HOUR to HOUR", wet.drought(7, -1), 5 + 10 + 90);
        due("24: nobody else being there", wet.drought(3, -1), 45);
        due("24: nobody else being there", wet.drought(6, -1), 45 + 10);
        due("24: STAY 1 first then", wet.drought(6, 0), 1);
        wet.cellar(0, 10);
        due("24: what comes ahead of each HOUR", wet.drought(6, -1), 10);
    }

    // ---- 25

    private static void meterSizes() {
        WeatherHotel none = new WeatherHotel();
        due("25: no told DAYS", Ask.meter(none, 1, -1), 0);
        due("25: no told DAYS", Ask.meter(none, 3, 0), -2);
        due("25: no told DAYS", Ask.meter(none, 3, 3), -2);
        WeatherHotel hotel = new WeatherHotel();
        for (int d = 0; d < 12; d++) {
            Ask.day(hotel, d, "w1(0-1)");
        }
        int[] rows = {12, 78, 364};
        for (int n = 1; n <= 3; n++) {
            due("25: rows of " + n, Ask.meter(hotel, n, -1), rows[n - 1]);
            for (int place = 0; place < n; place++) {
                due("25: the first", Ask.meter(hotel, n, place), 0);
            }
            due("25: none is in all", Ask.meter(hotel, n, 3), 0);
        }
        int[][] none3 = {{0, -1}, {4, -1}, {-1, -1}, {1, 1}, {1, 2}, {2, 2}, {1, 4}, {3, 4}, {3, -2}, {0, 3}, {4, 3}, {MIN, 0}, {MAX, 0}, {2, MIN}, {2, MAX}};
        Ask.feed(hotel, new int[60]);
        for (int[] ask : none3) {
            due("25: no such ones " + ask[0] + " " + ask[1], hotel.meter(ask[0], ask[1]), -3);
        }
        due("25: the tape stays", hotel.count(4), 60);
        due("25: sixty bytes do", hotel.meter(1, -1), 12);
        due("25: all of the tape is gone", hotel.count(4), 0);
        due("25: none do not", hotel.meter(1, -1), -3);
        Ask.feed(hotel, new int[40]);
        due("25: forty do not", hotel.meter(1, -1), -3);
        due("25: the tape stays", hotel.count(4), 40);
        Ask.feed(hotel, new int[160]);
        due("25: two hundred do", hotel.meter(3, -1), 364);
    }

    private static void meterRows() {
        WeatherHotel hotel = new WeatherHotel();
        Ask.day(hotel, 0, "r5(0-1)");
        Ask.day(hotel, 4, "r3(0-1)");
        Ask.day(hotel, 5, "r1(0-1)");
        Ask.day(hotel, 10, "r2(0-1)");
        Ask.day(hotel, 11, "r0(0-1);l9(0-1)");
        // 3: 4; 5 10 (and 11); 4 11; 5 5 5; 10 is above 5, so 5 10 and not 10 5.
        due("25: rows of one", Ask.meter(hotel, 1, -1, 3), 1);
        due("25: rows of two", Ask.meter(hotel, 2, -1, 3), 2);
        due("25: rows of three", Ask.meter(hotel, 3, -1, 3), 3);
        due("25: the first of one", Ask.meter(hotel, 1, 0, 3), 4);
        due("25: the first of two", Ask.meter(hotel, 2, 0, 3) * 100 + Ask.meter(hotel, 2, 1, 3), 411);
        due("25: the first of three", Ask.meter(hotel, 3, 0, 3) * 10000 + Ask.meter(hotel, 3, 1, 3) * 100 + Ask.meter(hotel, 3, 2, 3), 41111);
        due("25: in all of one", Ask.meter(hotel, 1, 3, 3), 16);
        due("25: in all of two", Ask.meter(hotel, 2, 3, 3), 0);
        due("25: in all of three", Ask.meter(hotel, 3, 3, 3), 0);
        due("25: one row of two DAYS, both are in it", Ask.meter(hotel, 2, 3, 8), 1 | 16);
        due("25: a DAY thrice", Ask.meter(hotel, 3, 3, 15), 1);
        due("25: a DAY thrice", Ask.meter(hotel, 3, 2, 15), 0);
        due("25: the last DAY alone", Ask.meter(hotel, 1, 3, 0), 2048);
        due("25: the last DAY thrice", Ask.meter(hotel, 3, 0, 0), 11);
        due("25: too much", Ask.meter(hotel, 3, -1, 16), 0);
        due("25: too much", Ask.meter(hotel, 3, 3, 16), -2);
        due("25: with what is in all of two rows", Ask.meter(hotel, 2, 3, 2), 0);
        due("25: 5 5 and 10 11", Ask.meter(hotel, 2, -1, 2), 2);
        due("25: 0 4 10 and 0 0 11", Ask.meter(hotel, 3, -1, 10), 2);
        due("25: DAY 0 is in both", Ask.meter(hotel, 3, 3, 10), 1);
    }

    private static void meterNumbers() {
        WeatherHotel hotel = Hotels.withStays("r99(0-24)", "r98(23-24)");
        int[] much = new int[24];
        java.util.Arrays.fill(much, 297);
        due("25: 297 in each HOUR", Ask.meter(hotel, 3, 3, much), 1);
        for (int hour = 0; hour < 24; hour++) {
            for (int by : new int[] {-1, 1, 256, -256, 32768}) {
                int[] other = much.clone();
                other[hour] += by;
                if (hour < 23 || by != -1) {
                    due("25: just this, in HOUR " + hour, Ask.meter(Hotels.withStays("r99(0-24)", "r98(23-24)"), 3, -1, other), 0);
                }
            }
        }
        due("25: all bytes 255", Ask.meter(hotel, 3, -1, fill(65535)), 0);
        due("25: all bytes 255", Ask.meter(hotel, 1, 0, fill(65535)), -2);
        hotel.shift(0, 3);
        hotel.shift(1, 3);
        int[] late = new int[24];
        late[23] = 98;
        due("25: as it is, not SHIFTED", Ask.meter(hotel, 1, 0, late), 1);
        late[23] = 0;
        late[2] = 98;
        due("25: not SHIFTED", Ask.meter(hotel, 1, 0, late), -2);
        hotel.leave(0);
        hotel.leave(1);
        due("25: of DAYS, not of STAYS", Ask.meter(hotel, 3, 0, much), 0);
    }

    private static int[] fill(int number) {
        int[] all = new int[24];
        java.util.Arrays.fill(all, number);
        return all;
    }
}
