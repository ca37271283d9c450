/** The edges that the document names for the house, its STAYS, what they get and what is drawn: promises 1, 4 to 11, 13 to 15, 26 to 29, 31. */
final class HotelEdgesTest {
    private static final int MIN = Integer.MIN_VALUE;
    private static final int MAX = Integer.MAX_VALUE;
    private static final String LETTERS = "rwl";

    private HotelEdgesTest() {
    }

    public static void main(String[] args) {
        newObject();
        twoObjects();
        callsInAll();
        dayIsEdges();
        roomEdges();
        plantEdges();
        penceEdges();
        pipesEdges();
        cellarEdges();
        stayEdges();
        leaveEdges();
        shiftEdges();
        wantsEdges();
        getsEdges();
        getsByLaw();
        servedEdges();
        seedEdges();
        drawEdges();
        drawOfSome();
        keepEdges();
        undoEdges();
        countEdges();
        Ask.end();
    }

    private static void due(String what, long got, long want) {
        Ask.due(what, got, want);
    }

    private static void due(String what, boolean got, boolean want) {
        Ask.due(what, got, want);
    }

    private static void isNew(WeatherHotel hotel) {
        due("1: no DAYS", hotel.count(0), 0);
        due("1: no ROOMS", hotel.count(1), 0);
        due("1: no STAYS", hotel.count(2), 0);
        due("1: no LAW", hotel.count(3), 0);
        due("1: nothing on the tape", hotel.count(4), 0);
        due("1: THE SEED", hotel.count(5), 1);
        for (int d = 0; d < 12; d++) {
            due("1: no DAY", hotel.dayIs(d, 0, 0), -1);
        }
        for (int what = 6; what < 70; what++) {
            due("1: count " + what, hotel.count(what), -1);
        }
        due("1: none is KEPT", hotel.undo(), false);
        due("1: nobody can come", hotel.stay(0, 0, 0, 0), false);
        due("1: nobody wants", hotel.wants(0, 0), 0);
        due("1: no HARM", hotel.served(0), 0);
        due("1: a full CELLAR", hotel.served(1), 9999);
        due("1: nothing MISSED", hotel.served(2), 0);
        due("1: THE BEST set is empty", hotel.best(0) + hotel.best(1), 0);
        due("1: none that can't", hotel.smallest(), 0);
        for (int what = 0; what < 5; what++) {
            due("1: nothing LARGER", hotel.larger(what), 0);
        }
        due("1: none is KEPT yet", hotel.keep(), 0);
        due("1: DRAWN from THE SEED 1", hotel.draw(1), 0);
        due("1: DRAWN from THE SEED 1", hotel.count(5), 25173 + 13849);
    }

    private static void newObject() {
        isNew(new WeatherHotel());
        WeatherHotel hotel = Hotels.withStays("r1(0-1);w1(0-1);l1(0-1)");
        for (int kind = 0; kind < 3; kind++) {
            due("1: PLANT 0 at first", hotel.gets(0, kind, 0), 0);
        }
        due("1: one more costs 0 at first", hotel.fair(1, 0, 0), 0);
        due("1: so all are worth it", hotel.larger(0), 100);
        due("1: not SHIFTED at first", hotel.count(40), 3);
    }

    private static void twoObjects() {
        WeatherHotel first = Hotels.withStays(Hotels.times(10, "r9(0-24);w9(0-24);l9(0-24)"));
        Ask.law(first, "m9(1=1);p9(1=1)");
        Hotels.plenty(first);
        first.cellar(5, 5);
        first.pipes(0, 1);
        first.seed(99);
        first.keep();
        first.feed(1, 2, 3, 4, 5);
        isNew(new WeatherHotel());
        due("1: and the first is as it was", first.count(2) + first.count(4), 1023 + 20);
    }

    private static void callsInAll() {
        WeatherHotel hotel = new WeatherHotel();
        for (int call = 1; call < 512; call += 2) {
            due("512 calls: seed", hotel.seed(call), true);
            due("512 calls: X", hotel.count(5), call);
        }
        WeatherHotel searching = Hotels.withStays("r9(0-1)", "r9(0-1)");
        searching.plant(0, 9, 0);
        // Nine calls were made for it.
        for (int call = 10; call <= 512; call++) {
            due("512 calls: best", searching.best(1), 1);
        }
    }

    private static void dayIsEdges() {
        WeatherHotel hotel = new WeatherHotel();
        Ask.day(hotel, 0, "r1(0-1);l99(23-24)");
        Ask.day(hotel, 11, "w5(0-24)");
        due("4: DAY 0, the first KIND and HOUR", hotel.dayIs(0, 0, 0), 1);
        due("4: the last KIND and HOUR", hotel.dayIs(0, 2, 23), 99);
        due("4: DAY 11", hotel.dayIs(11, 1, 23), 5);
        due("4: nothing is there", hotel.dayIs(11, 0, 23), 0);
        int[][] none = {
            {1, 0, 0}, {10, 0, 0}, {12, 0, 0}, {-1, 0, 0}, {0, 3, 0}, {0, -1, 0}, {0, 0, 24}, {0, 0, -1}, {0, 1, -24}, {0, -1, 24},
            {MIN, 0, 0}, {MAX, 0, 0}, {0, MIN, 0}, {0, MAX, 0}, {0, 0, MIN}, {0, 0, MAX},
        };
        for (int[] ask : none) {
            due("4: no such ones " + ask[0] + " " + ask[1] + " " + ask[2], hotel.dayIs(ask[0], ask[1], ask[2]), -1);
        }
    }

    private static void roomEdges() {
        WeatherHotel hotel = new WeatherHotel();
        due("5: the lowest FLOOR", hotel.room(0), 0);
        due("5: too low", hotel.room(-1), -1);
        due("5: the highest FLOOR", hotel.room(3), 1);
        due("5: too high", hotel.room(4), -1);
        due("5: a refused one takes no number", hotel.room(3), 2);
        due("5: ROOMS", hotel.count(1), 3);
        for (int r = 3; r < 10; r++) {
            due("5: its number", hotel.room(r % 4), r);
        }
        due("5: 10 are there", hotel.room(1), -1);
        due("5: 10 are there", hotel.count(1), 10);
        due("5: FLOOR of ROOM 1", hotel.count(51), 3);
        due("5: FLOOR of ROOM 9", hotel.count(59), 1);
    }

    private static void plantEdges() {
        for (int kind = 0; kind < 3; kind++) {
            WeatherHotel hotel = Hotels.withStays(Hotels.times(10, LETTERS.charAt(kind) + "99(5-6)"));
            due("6: PLANT 999", hotel.plant(kind, 999, 0), true);
            due("6: enough for ten", hotel.can(1023, 0), 1);
            due("6: PLANT 990", hotel.plant(kind, 990, 0), true);
            due("6: just enough for ten", hotel.can(1023, 0), 1);
            due("6: just enough for ten", hotel.served(2), 0);
            due("6: PLANT 989", hotel.plant(kind, 989, 0), true);
            due("6: one too few", hotel.can(1023, 2), kind);
            due("6: one too few", hotel.served(2), 1);
            due("6: the last one misses it", hotel.gets(9, kind, 5), 98);
            due("6: PLANT 1", hotel.plant(kind, 1, 0), true);
            due("6: the first one gets it", hotel.gets(0, kind, 5), 1);
            due("6: the next one nothing", hotel.gets(1, kind, 5), 0);
            due("6: PLANT 0", hotel.plant(kind, 0, 0), true);
            due("6: nobody gets any", hotel.served(2), 990);
            for (int most : new int[] {-1, 1000}) {
                due("6: no PLANT " + most, hotel.plant(kind, most, 0), false);
            }
        }
        due("6: KIND 3", new WeatherHotel().plant(3, 0, 0), false);
        due("6: KIND -1", new WeatherHotel().plant(-1, 0, 0), false);
    }

    private static void penceEdges() {
        for (int kind = 0; kind < 3; kind++) {
            WeatherHotel hotel = Hotels.withStays(LETTERS.charAt(kind) + "1(0-1)");
            hotel.stay(0, 0, 0, 999);
            due("6: 0 pence", hotel.plant(kind, 0, 0), true);
            due("6: for nothing", hotel.larger(0), 999);
            due("6: 998 pence", hotel.plant(kind, 0, 998), true);
            due("6: one is left", hotel.larger(0), 1);
            due("6: 999 pence", hotel.plant(kind, 0, 999), true);
            due("6: nothing is left", hotel.larger(1), 0);
            due("6: 999 pence", hotel.fair(1, 0, 0), 999);
            for (int pence : new int[] {-1, 1000}) {
                due("6: no pence " + pence, hotel.plant(kind, 0, pence), false);
            }
            due("6: as they were", hotel.fair(1, 0, 0), 999);
        }
    }

    private static void pipesEdges() {
        for (int floor = 0; floor < 4; floor++) {
            WeatherHotel hotel = Hotels.onOneFloor(floor, Hotels.times(10, "r99(5-6);w99(5-6)"));
            Hotels.plenty(hotel);
            due("7: 999 at first", hotel.can(1023, 0), 1);
            due("7: PIPES 990", hotel.pipes(floor, 990), true);
            due("7: just enough for ten", hotel.can(1023, 0), 1);
            due("7: PIPES 989", hotel.pipes(floor, 989), true);
            due("7: one too few", hotel.can(1023, 2), 3 + floor);
            due("7: one too few", hotel.served(2), 1);
            due("7: the last one misses it", hotel.served(19), 1);
            due("7: PIPES 0", hotel.pipes(floor, 0), true);
            due("7: no RAIN", hotel.served(2), 990);
            due("7: but WARMTH", hotel.gets(9, 1, 5), 99);
            for (int most : new int[] {-1, 1000}) {
                due("7: no PIPES " + most, hotel.pipes(floor, most), false);
            }
            due("7: PIPES 999", hotel.pipes(floor, 999), true);
            for (int other = 0; other < 4; other++) {
                due("7: of another FLOOR", other == floor || hotel.pipes(other, 0), true);
            }
            due("7: do not matter", hotel.served(2), 0);
        }
        due("7: FLOOR 4", new WeatherHotel().pipes(4, 0), false);
        due("7: FLOOR -1", new WeatherHotel().pipes(-1, 0), false);
    }

    private static void cellarEdges() {
        WeatherHotel hotel = Hotels.withStays("r30(0-1)");
        Hotels.plenty(hotel);
        // water, what comes, what STAY 0 gets in HOUR 0, what is there at the end
        int[][] cellars = {
            {9999, 0, 30, 9969}, {9999, 1, 30, 9992}, {9999, 99, 30, 9999}, {9998, 1, 30, 9992}, {9997, 1, 30, 9991},
            {30, 0, 30, 0}, {29, 0, 29, 0}, {29, 1, 30, 23}, {28, 1, 29, 23}, {0, 0, 0, 0}, {0, 1, 1, 23}, {0, 29, 29, 23 * 29},
            {0, 30, 30, 23 * 30}, {0, 99, 30, 69 + 23 * 99}, {31, 0, 30, 1},
        };
        for (int[] cellar : cellars) {
            String name = "8: CELLAR " + cellar[0] + " " + cellar[1];
            due(name, hotel.cellar(cellar[0], cellar[1]), true);
            due(name + " gives", hotel.gets(0, 0, 0), cellar[2]);
            due(name + " at the end", hotel.served(1), cellar[3]);
            due(name + " will do", hotel.can(1, 2), cellar[2] == 30 ? -2 : 7);
        }
        WeatherHotel late = Hotels.withStays("r99(23-24)");
        Hotels.plenty(late);
        due("8: most", late.cellar(9999, 99), true);
        due("8: 9999 at most, used in the last HOUR", late.served(1), 9900);
        due("8: what comes in 24 HOURS", late.cellar(0, 4), true);
        due("8: just 96", late.gets(0, 0, 23), 96);
        due("8: no such water", late.cellar(10000, 0) || late.cellar(-1, 0), false);
        due("8: no such inflow", late.cellar(0, 100) || late.cellar(0, -1), false);
        due("8: as it was", late.gets(0, 0, 23), 96);
    }

    private static void stayEdges() {
        WeatherHotel hotel = Hotels.withRooms(10);
        Ask.day(hotel, 0, "r1(0-1)");
        Ask.day(hotel, 11, "r2(0-1)");
        due("9: the first of all", hotel.stay(0, 0, 0, 0), true);
        due("9: the last of all", hotel.stay(9, 9, 11, 999), true);
        due("9: STAYS", hotel.count(2), 1 | 1 << 9);
        due("9: both want", hotel.wants(0, 0), 3);
        int[][] refused = {
            {10, 1, 0, 0}, {-1, 1, 0, 0}, {1, 10, 0, 0}, {1, -1, 0, 0}, {1, 1, 12, 0}, {1, 1, -1, 0}, {1, 1, 1, 0}, {1, 1, 10, 0},
            {1, 1, 0, 1000}, {1, 1, 0, -1}, {1, 0, 0, 0}, {1, 9, 0, 0}, {0, 9, 0, 0}, {9, 0, 0, 0},
        };
        for (int[] ask : refused) {
            due("9: no such ones", hotel.stay(ask[0], ask[1], ask[2], ask[3]), false);
        }
        due("9: STAYS", hotel.count(2), 1 | 1 << 9);
        hotel.shift(9, -3);
        due("9: in its own ROOM once more", hotel.stay(9, 9, 0, 5), true);
        due("9: not SHIFTED", hotel.count(49), 3);
        due("9: one STAY still", hotel.count(2), 1 | 1 << 9);
        due("9: into another ROOM", hotel.stay(9, 1, 0, 5), true);
        due("9: its ROOM is free", hotel.stay(0, 9, 0, 5), true);
        due("9: and so is that one's", hotel.stay(5, 0, 0, 5), true);
        WeatherHotel few = Hotels.withRooms(3);
        Ask.day(few, 0, "r1(0-1)");
        due("9: a ROOM that is not there yet", few.stay(0, 3, 0, 0), false);
        few.room(0);
        due("9: it is now", few.stay(0, 3, 0, 0), true);
        due("9: a DAY that is not told yet", few.stay(0, 3, 4, 0), false);
        Ask.day(few, 4, "r1(0-1)");
        due("9: it is now", few.stay(0, 3, 4, 0), true);
    }

    private static void leaveEdges() {
        WeatherHotel hotel = Hotels.withStays(Hotels.times(10, "r1(0-1)"));
        hotel.shift(9, 2);
        due("10: the first", hotel.leave(0), true);
        due("10: the last", hotel.leave(9), true);
        due("10: STAYS", hotel.count(2), 1023 & ~513);
        due("10: gone already", hotel.leave(9), false);
        due("10: beyond them", hotel.leave(10) || hotel.leave(-1), false);
        due("10: what is left wants", hotel.wants(0, 0), 8);
        due("10: nothing of it is left", hotel.count(19) + hotel.count(29) + hotel.count(39) + hotel.count(49), -4);
        due("10: its ROOM is free", hotel.stay(0, 9, 0, 0), true);
        due("10: it can come again", hotel.stay(9, 0, 0, 0), true);
        due("10: not SHIFTED then", hotel.count(49), 3);
        for (int b = 0; b < 10; b++) {
            due("10: one by one", hotel.leave(b), true);
        }
        due("10: none is there", hotel.count(2) + hotel.wants(0, 0) + hotel.served(2), 0);
    }

    private static void shiftEdges() {
        for (int hours = -3; hours <= 3; hours++) {
            WeatherHotel hotel = Hotels.withStays("r7(0-1);w8(12-13);l9(23-24)");
            due("11: SHIFTED " + hours, hotel.shift(0, hours), true);
            for (int hour = 0; hour < 24; hour++) {
                due("11: RAIN, round the day", hotel.wants(0, hour), hour == (24 + hours) % 24 ? 7 : 0);
                due("11: WARMTH", hotel.wants(1, hour), hour == 12 + hours ? 8 : 0);
                due("11: LIGHT, round the day", hotel.wants(2, hour), hour == (23 + hours) % 24 ? 9 : 0);
            }
            Hotels.plenty(hotel);
            due("11: it gets it then", hotel.gets(0, 2, (23 + hours) % 24), 9);
            due("11: SHIFTED", hotel.count(40), 3 + hours);
            for (int wrong : new int[] {-4, 4, MIN, MAX}) {
                due("11: SHIFTED too far", hotel.shift(0, wrong), false);
            }
            due("11: as it was", hotel.count(40), 3 + hours);
            due("11: no such STAY", hotel.shift(1, 0) || hotel.shift(10, 0) || hotel.shift(-1, 0), false);
        }
        WeatherHotel late = Hotels.withStays("r7(23-24)");
        Hotels.plenty(late);
        late.shift(0, 1);
        late.cellar(6, 0);
        due("11: the last HOUR is the first then", late.can(1, 1), 0);
    }

    private static void wantsEdges() {
        due("13: nobody is there", new WeatherHotel().wants(2, 23), 0);
        WeatherHotel hotel = Hotels.withStays(Hotels.times(10, "r99(0-24);w99(0-24);l99(0-24)"));
        int[][] asks = {
            {0, 0, 990}, {1, 12, 990}, {2, 23, 990}, {3, 0, -1}, {-1, 0, -1}, {0, 24, -1}, {0, -1, -1}, {2, 24, -1}, {3, 24, -1},
            {MIN, 0, -1}, {MAX, 0, -1}, {0, MIN, -1}, {0, MAX, -1},
        };
        for (int[] ask : asks) {
            due("13: wants " + ask[0] + " " + ask[1], hotel.wants(ask[0], ask[1]), ask[2]);
        }
    }

    private static void getsEdges() {
        WeatherHotel hotel = Hotels.withStays(Hotels.times(10, "r99(0-24);l99(0-24)"));
        hotel.plant(2, 450, 0);
        int[] light = {99, 99, 99, 99, 54, 0, 0, 0, 0, 0};
        for (int b = 0; b < 10; b++) {
            due("14: of like ones the lowest first", hotel.gets(b, 2, 23), light[b]);
            due("14: nothing from no PLANT", hotel.gets(b, 0, 0), 0);
            due("14: nothing is wanted", hotel.gets(b, 1, 0), 0);
        }
        int[][] none = {
            {10, 0, 0}, {-1, 0, 0}, {0, 3, 0}, {0, -1, 0}, {0, 0, 24}, {0, 0, -1}, {MIN, 0, 0}, {MAX, 0, 0}, {0, MAX, 0}, {0, 0, MIN},
        };
        for (int[] ask : none) {
            due("14: no such ones", hotel.gets(ask[0], ask[1], ask[2]), -1);
        }
        hotel.leave(9);
        due("14: one that is gone", hotel.gets(9, 0, 0), -1);
        // PLANT has 12, FLOOR 0 lets 5 through, the CELLAR has 10: STAYS 0 and 2 are on FLOOR 0, 1 on FLOOR 1.
        WeatherHotel tight = Hotels.withRooms(5);
        Ask.day(tight, 0, "r4(6-8)");
        tight.stay(0, 0, 0, 0);
        tight.stay(1, 1, 0, 0);
        tight.stay(2, 4, 0, 0);
        tight.plant(0, 12, 0);
        tight.pipes(0, 5);
        tight.cellar(10, 0);
        int[][] gets = {{0, 6, 4}, {1, 6, 4}, {2, 6, 1}, {0, 7, 1}, {1, 7, 0}, {2, 7, 0}};
        for (int[] ask : gets) {
            due("14: as far as all of them have", tight.gets(ask[0], 0, ask[1]), ask[2]);
        }
        due("14: only what is given leaves the CELLAR", tight.served(1), 0);
    }

    private static void getsByLaw() {
        WeatherHotel hotel = Hotels.withStays("w5(0-24)", "w5(0-24)", "w5(0-24)");
        hotel.plant(1, 5, 0);
        Ask.law(hotel, "p9(s=t);p8(s=1)");
        int[][] first = {{0, 0}, {1, 1}, {2, 2}, {3, 1}, {23, 1}};
        for (int[] ask : first) {
            for (int b = 0; b < 3; b++) {
                due("14: p is asked in this HOUR", hotel.gets(b, 1, ask[0]), b == ask[1] ? 5 : 0);
            }
        }
        Ask.law(hotel, "p999(s=2);p1000(s=1)");
        due("14: like ones at the bound", hotel.gets(1, 1, 0), 5);
        Ask.law(hotel, "pd*r(1=1)");
        due("14: most p first", hotel.gets(2, 1, 0), 5);
    }

    private static void servedEdges() {
        WeatherHotel hotel = Hotels.withStays(Hotels.times(10, "r99(0-24);w99(0-24);l99(0-24)"));
        due("15: all is MISSED", hotel.served(2), 10 * 72 * 99);
        due("15: HARM is 1 for each", hotel.served(0), 10 * 72 * 99);
        due("15: of one STAY", hotel.served(19), 72 * 99);
        Ask.law(hotel, "m99(1=1)");
        due("15: most HARM", hotel.served(0), 10 * 72 * 99 * 99);
        Ask.law(hotel, "m0(1=1)");
        due("15: no HARM", hotel.served(0), 0);
        due("15: but MISSED", hotel.served(2), 10 * 72 * 99);
        Hotels.plenty(hotel);
        due("15: RAIN is MISSED when the CELLAR is empty", hotel.served(2), 24 * 990 - 9999);
        due("15: it is empty", hotel.served(1), 0);
        hotel.leave(5);
        for (int what : new int[] {-1, 3, 4, 9, 15, 20, 21, MIN, MAX}) {
            due("15: no such what " + what, hotel.served(what), -1);
        }
        // Nine STAYS use 891 in an HOUR, so the CELLAR lasts for eleven HOURS, with 198 left for the next.
        due("15: the lowest STAY", hotel.served(10), 12 * 99);
        due("15: it gets all as long as there is some", hotel.gets(0, 0, 11), 99);
        due("15: and nothing then", hotel.gets(0, 0, 12), 0);
        WeatherHotel none = new WeatherHotel();
        none.cellar(0, 99);
        due("15: nobody uses what comes", none.served(1), 24 * 99);
        none.cellar(9000, 99);
        due("15: 9999 at most", none.served(1), 9999);
        WeatherHotel asked = Hotels.withStays("w4(3-4);l6(3-4)");
        asked.plant(1, 3, 0);
        asked.plant(2, 1, 0);
        Ask.law(asked, "m10*k+g(n=4&g=1);m20*k+n(n=6&g=5&t=3)");
        due("15: m is asked for STAY, HOUR and KIND, times g", asked.served(0), 11 + 5 * 46);
    }

    private static void seedEdges() {
        WeatherHotel hotel = new WeatherHotel();
        due("26: the least", hotel.seed(0), true);
        due("26: X, too", hotel.count(5), 0);
        due("26: the largest", hotel.seed(65535), true);
        due("26: X, too", hotel.count(5), 65535);
        for (int x : new int[] {-1, 65536, MIN, MAX}) {
            due("26: no such number " + x, hotel.seed(x), false);
            due("26: as it was", hotel.count(5), 65535);
        }
    }

    private static void drawEdges() {
        // X and what it is then: 0 -> 13849; 65535 -> 54212; 1 -> 39022.
        int[][] draws = {{0, 13849}, {65535, 54212}, {1, 39022}, {32768, 46617}};
        for (int[] draw : draws) {
            WeatherHotel hotel = Hotels.withRooms(10);
            for (int d = 0; d < 12; d++) {
                Ask.day(hotel, d, "l" + d + "(0-1)");
            }
            for (int b = 0; b < 10; b++) {
                hotel.stay(b, b, 6, 7);
            }
            hotel.seed(draw[0]);
            int day = draw[1] / 10 % 12;
            due("27: HARM then, from " + draw[0], hotel.draw(1), 54 + day);
            due("27: X", hotel.count(5), draw[1]);
            due("27: the DAY", hotel.count(20 + draw[1] % 10), day);
            due("27: ROOM and PRICE stay", hotel.count(10 + draw[1] % 10) * 10 + hotel.count(30), draw[1] % 10 * 10 + 7);
        }
        for (int n : new int[] {0, -1, 21, MIN, MAX}) {
            due("27: no such n " + n, new WeatherHotel().draw(n), -1);
        }
    }

    private static void drawOfSome() {
        WeatherHotel once = Hotels.withStays(Hotels.times(10, "l9(0-1)"));
        WeatherHotel often = Hotels.withStays(Hotels.times(10, "l9(0-1)"));
        for (WeatherHotel hotel : new WeatherHotel[] {once, often}) {
            Ask.day(hotel, 3, "l1(0-1)");
            Ask.day(hotel, 5, "l50(0-1)");
            hotel.leave(2);
            hotel.leave(7);
        }
        int harm = 0;
        for (int i = 0; i < 20; i++) {
            harm = often.draw(1);
        }
        due("27: twenty at once", once.draw(20), harm);
        for (int what = 0; what < 50; what++) {
            due("27: and all that is so then", once.count(what), often.count(what));
        }
        WeatherHotel none = new WeatherHotel();
        due("27: no STAYS: no HARM", none.draw(20), 0);
        due("27: but X", none.count(5), once.count(5));
        WeatherHotel other = Hotels.withRooms(1);
        Ask.day(other, 0, "l1(0-1)");
        Ask.day(other, 1, "l5(0-1)");
        other.stay(2, 0, 0, 0);
        due("27: DAY 2 is not told", other.draw(1), 1);
        due("27: so it wants what it wanted", other.count(22), 0);
        due("27: but X", other.count(5), 39022);
        other.seed(1);
        Ask.day(other, 2, "l7(0-1)");
        due("27: DAY 2 is told", other.draw(1), 7);
        due("27: so it wants that", other.count(22), 2);
    }

    private static void keepEdges() {
        WeatherHotel hotel = Hotels.withStays(Hotels.times(10, "r1(0-1)"));
        due("28: all ten", hotel.keep(), 10);
        for (int b = 0; b < 10; b++) {
            hotel.leave(b);
        }
        due("28: undone", hotel.undo(), true);
        due("28: all ten", hotel.count(2), 1023);
        for (int b = 1; b < 10; b++) {
            hotel.leave(b);
        }
        due("28: one", hotel.keep(), 1);
        hotel.leave(0);
        due("28: none", hotel.keep(), 0);
        hotel.stay(4, 4, 4, 4);
        due("28: undone", hotel.undo(), true);
        due("28: none, as KEPT last", hotel.count(2), 0);
        WeatherHotel empty = new WeatherHotel();
        due("28: none of a new one", empty.keep(), 0);
        due("28: but it is KEPT", empty.undo(), true);
    }

    private static void undoEdges() {
        due("29: none was KEPT", new WeatherHotel().undo(), false);
        WeatherHotel hotel = Hotels.withStays("r1(0-1)", "r2(0-1)", "r3(0-1)");
        hotel.room(3);
        hotel.room(3);
        hotel.shift(0, -3);
        hotel.shift(2, 3);
        hotel.plant(0, 999, 1);
        hotel.seed(65535);
        due("29: three", hotel.keep(), 3);
        due("29: into other ROOMS", Ask.rooms(hotel, 7, 10, 2, 4, 3), 1);
        due("29: so it is", hotel.count(10) * 100 + hotel.count(11) * 10 + hotel.count(12), 234);
        hotel.stay(1, 0, 2, 7);
        hotel.leave(2);
        hotel.stay(9, 1, 0, 9);
        hotel.shift(0, 0);
        hotel.draw(5);
        Ask.day(hotel, 1, "r50(0-1)");
        hotel.room(0);
        hotel.pipes(0, 77);
        due("29: undone", hotel.undo(), true);
        int[][] counts = {
            {2, 7}, {5, 65535}, {10, 0}, {11, 1}, {12, 2}, {20, 0}, {21, 1}, {22, 2}, {30, 100}, {31, 100}, {32, 100}, {40, 0}, {41, 3},
            {42, 6}, {19, -1}, {1, 6}, {0, 7},
        };
        for (int[] count : counts) {
            due("29: count " + count[0], hotel.count(count[0]), count[1]);
        }
        due("29: a DAY told since is not undone", hotel.wants(0, 0), 50);
        due("29: STAY 2, SHIFTED as it was", hotel.wants(0, 3), 3);
        due("29: STAY 0, SHIFTED as it was", hotel.wants(0, 21), 1);
        due("29: undone twice is as once", hotel.undo(), true);
        due("29: X", hotel.count(5), 65535);
        hotel.shift(1, 1);
        due("29: what is KEPT is not changed with what is there", hotel.undo(), true);
        due("29: not SHIFTED", hotel.count(41), 3);
        due("29: it is DRAWN as from there on", hotel.draw(1) >= 0 ? hotel.count(5) : -1, 54212);
    }

    private static void countEdges() {
        WeatherHotel hotel = Hotels.withStays(Hotels.times(10, "r1(0-1)"));
        Ask.day(hotel, 10, "r1(0-1)");
        Ask.day(hotel, 11, "r1(0-1)");
        Ask.law(hotel, "m1(1=1)");
        hotel.feed(0, 0, 0, 0, 0);
        int[] first = {4095, 10, 1023, 1, 20, 1, -1, -1, -1, -1};
        for (int i = 0; i < 10; i++) {
            hotel.shift(i, i % 7 - 3);
            due("31: count " + i, hotel.count(i), first[i]);
            due("31: ROOM of " + i, hotel.count(10 + i), i);
            due("31: DAY of " + i, hotel.count(20 + i), i);
            due("31: PRICE of " + i, hotel.count(30 + i), 100);
            due("31: SHIFTED, of " + i, hotel.count(40 + i), i % 7);
            due("31: FLOOR of " + i, hotel.count(50 + i), i % 4);
            due("31: none " + (60 + i), hotel.count(60 + i), -1);
            due("31: none " + (-1 - i), hotel.count(-1 - i), -1);
        }
        due("31: none", hotel.count(MIN) + hotel.count(MAX), -2);
        hotel.leave(0);
        hotel.leave(9);
        for (int tens = 10; tens < 50; tens += 10) {
            due("31: of STAY 0, which is gone", hotel.count(tens), -1);
            due("31: of STAY 9, which is gone", hotel.count(tens + 9), -1);
        }
        WeatherHotel rooms = Hotels.withRooms(9);
        due("31: FLOOR of the last ROOM", rooms.count(58), 0);
        due("31: FLOOR of none", rooms.count(59), -1);
    }
}
