/** Each promise of the document by its number: ordinary inputs, edges and wrong inputs, reckoned by hand. */
final class PromiseTest {
    private static final int MIN = Integer.MIN_VALUE;
    private static final int MAX = Integer.MAX_VALUE;

    private PromiseTest() {
    }

    public static void main(String[] args) {
        promise1();
        promise2();
        promise3();
        promise3Faults();
        promise4();
        promise5();
        promise6();
        promise7();
        promise8();
        promise9();
        promise10();
        promise11();
        promise12();
        promise12Faults();
        promise12Meaning();
        promise12Refused();
        promise13();
        promise14();
        promise15();
        promise16();
        promise16Causes();
        promise17();
        promise18();
        promise19();
        promise20();
        promise21();
        promise22();
        promise23();
        promise24();
        promise25();
        promise26();
        promise27();
        promise28();
        promise29();
        promise30();
        promise31();
        readme();
        Ask.end();
    }

    private static void due(String what, long got, long want) {
        Ask.due(what, got, want);
    }

    private static void due(String what, boolean got, boolean want) {
        Ask.due(what, got, want);
    }

    private static void promise1() {
        WeatherHotel hotel = new WeatherHotel();
        due("NONE", WeatherHotel.NONE, -1);
        int[] counts = {0, 0, 0, 0, 0, 1, -1};
        for (int what = 0; what < counts.length; what++) {
            due("1: count " + what, hotel.count(what), counts[what]);
        }
        due("1: no DAY", hotel.dayIs(0, 0, 0), -1);
        due("1: water at first", hotel.served(1), 9999);
        due("1: none KEPT", hotel.undo(), false);
        WeatherHotel first = Hotels.withStays("r5(0-1)");
        due("1: PLANT is 0", first.gets(0, 0, 0), 0);
        due("1: PLANT costs 0", first.fair(1, 0, 0), 0);
        first.plant(0, 5, 0);
        due("1: PIPES let 999 through", first.gets(0, 0, 0), 5);
        due("1: nothing comes", first.served(1), 9994);
        due("1: HARM without THE LAW", Hotels.withStays("l7(3-5)").served(0), 14);
    }

    private static void promise2() {
        WeatherHotel hotel = new WeatherHotel();
        for (int i = 1; i <= 10; i++) {
            due("2: feed", hotel.feed(i, 0, 0, 0, 0), 20 * i);
        }
        due("2: no more than 200", hotel.feed(0, 0, 0, 0, 0), -1);
        due("2: the tape stays", hotel.count(4), 200);
        Ask.day(hotel, 0, "");
        due("2: emptied", hotel.day(0, 1) < -1 ? hotel.count(4) : -5, 0);
        due("2: feed", hotel.feed('r' << 24 | '1' << 16 | '(' << 8 | '0', '-' << 24 | '2' << 16 | ')' << 8, 0, 0, 0), 20);
        due("2: the highest byte first", hotel.day(0, 7), 1);
        hotel.feed(0, 0, -1, 0, 0);
        due("2: bytes are 0 to 255", hotel.rooms(0, 0, 0), -1);
        Ask.day(hotel, 1, "l1(0-1)");
        due("2: behind what is there", hotel.count(4), 0);
    }

    private static void promise3() {
        WeatherHotel hotel = new WeatherHotel();
        due("3: one PART", Ask.day(hotel, 0, "r3(8-10)"), 1);
        due("3: the tape is empty", hotel.count(4), 0);
        due("3: three PARTS", Ask.day(hotel, 11, "r3(8-10);w2(0-24);l99(23-24)"), 3);
        due("3: told", hotel.count(0), 1 | 1 << 11);
        due("3: in place of the one before", Ask.day(hotel, 0, "w00(00-01)"), 1);
        due("3: nothing of it is left", hotel.dayIs(0, 0, 8), 0);
        due("3: two digits", Ask.day(hotel, 0, "r07(08-09)"), 1);
        due("3: two digits", hotel.dayIs(0, 0, 8), 7);
        String long14 = "r1(0-1);r1(0-1);r1(0-1);r1(0-1);r1(0-1);r1(0-1);r1(0-1);"
                + "r1(0-1);r1(0-1);r1(0-1);r1(0-1);r1(0-1);r1(0-1);l99(0-24)";
        due("3: 14 PARTS", Ask.day(hotel, 1, long14), 14);
        due("3: more of one", hotel.dayIs(1, 0, 0), 13);
        due("3: 99 at most", Ask.day(hotel, 1, "w60(1-3);w60(2-4)"), 2);
        due("3: 60", hotel.dayIs(1, 1, 1), 60);
        due("3: 99", hotel.dayIs(1, 1, 2), 99);
        Ask.feed(hotel, Ask.bytesOf("r1(0-1)"));
        int[][] refused = {{-1, 7}, {12, 7}, {MIN, 7}, {MAX, 7}, {0, 0}, {0, -1}, {0, 21}, {0, 121}, {0, MAX}, {0, MIN}};
        for (int[] call : refused) {
            due("3: day " + call[0] + " " + call[1], hotel.day(call[0], call[1]), -1);
            due("3: the tape stays", hotel.count(4), 20);
        }
        due("3: as it was", hotel.dayIs(0, 0, 8), 7);
        due("3: only the first n bytes", hotel.day(3, 7), 1);
        due("3: all of the tape", Ask.day(hotel, 3, "r1(0-1);w2(0-1);l(0)"), -1017);
        due("3: all of the tape", Ask.day(hotel, 3, "r1(0-1);w12(10-11)" + ";r"), -1020);
        for (int i = 0; i < 7; i++) {
            hotel.feed(0, 0, 0, 0, 0);
        }
        due("3: 121 are too many", hotel.day(0, 121), -1);
        due("3: 120 are not", hotel.day(0, 120), -1000);
    }

    private static void promise3Faults() {
        WeatherHotel hotel = new WeatherHotel();
        Ask.day(hotel, 5, "r42(0-24)");
        String fourteen = "r1(0-1);r1(0-1);r1(0-1);r1(0-1);r1(0-1);r1(0-1);r1(0-1);"
                + "r1(0-1);r1(0-1);r1(0-1);r1(0-1);r1(0-1);r1(0-1);r1(0-1)";
        Object[][] faults = {
            {"x3(8-10)", -1000}, {"R3(8-10)", -1000}, {" r3(8-10)", -1000}, {"3(8-10)", -1000},
            {"r", -1001}, {"r(8-10)", -1001}, {"r-1(8-10)", -1001}, {"r3", -1002}, {"r12", -1003},
            {"r123(8-10)", -1003}, {"r3[8-10)", -1002}, {"r3(", -1003}, {"r3(-10)", -1003}, {"r3(8", -1004},
            {"r3(8-", -1005}, {"r3(8-)", -1005}, {"r3(8+10)", -1004}, {"r3(8-10", -1007}, {"r3(8-10]", -1007},
            {"r3(8-100)", -1007}, {"r3(008-10)", -1005}, {"r3(8-10);", -1009}, {"r3(8-10);;", -1009},
            {"r3(8-10)w", -1008}, {"r3(8-10) ", -1008}, {"r3(8-10),w1(0-1)", -1008},
            {"r3(24-24)", -3003}, {"r3(24", -3003}, {"r3(99-10)", -3003}, {"r3(240-10)", -3003},
            {"r3(8-8)", -3005}, {"r3(8-08)", -3005}, {"r3(8-7", -3005}, {"r3(8-7x", -3005}, {"r3(8-25)", -3005},
            {"r3(8-250)", -3005}, {"r3(0-0)", -3005}, {"r3(23-24);w1(5-4)", -3015},
            {"r3(8-10);w9(9-10);q", -1018},
            {fourteen + ";w", -4112}, {fourteen + ";r1(0-1)", -4112}, {fourteen + ";x", -1112}, {fourteen + ";", -1112},
        };
        for (Object[] fault : faults) {
            due("3: " + fault[0], Ask.day(hotel, 5, (String) fault[0]), (Integer) fault[1]);
            due("3: the tape is empty after " + fault[0], hotel.count(4), 0);
        }
        due("3: the one before stays", hotel.dayIs(5, 0, 8), 42);
        Ask.day(hotel, 6, "r3(8-8)");
        due("3: a faulty one is not told", hotel.count(0), 1 << 5);
        due("3: edges that can be", Ask.day(hotel, 6, "r0(0-1);w9(23-24);l99(0-24)"), 3);
        due("3: a byte above 127", Ask.day(hotel, 6, "r3(8-10)\u00e9"), -1008);
        due("3: a byte 0", Ask.day(hotel, 6, "r3\0"), -1002);
    }

    private static void promise4() {
        WeatherHotel hotel = new WeatherHotel();
        Ask.day(hotel, 4, "r3(8-10);w2(0-24);l99(23-24)");
        int[][] calls = {
            {4, 0, 7, 0}, {4, 0, 8, 3}, {4, 0, 9, 3}, {4, 0, 10, 0}, {4, 1, 0, 2}, {4, 1, 23, 2}, {4, 2, 22, 0},
            {4, 2, 23, 99}, {3, 0, 8, -1}, {-1, 0, 8, -1}, {12, 0, 8, -1}, {MIN, 0, 8, -1}, {36, 0, 8, -1},
            {4, -1, 8, -1}, {4, 3, 8, -1}, {4, MAX, 8, -1}, {4, 0, -1, -1}, {4, 0, 24, -1}, {4, 0, MIN, -1},
        };
        for (int[] call : calls) {
            due("4: dayIs " + call[0] + " " + call[1] + " " + call[2], hotel.dayIs(call[0], call[1], call[2]), call[3]);
        }
    }

    private static void promise5() {
        WeatherHotel hotel = new WeatherHotel();
        for (int floor : new int[] {-1, 4, MIN, MAX}) {
            due("5: no FLOOR " + floor, hotel.room(floor), -1);
        }
        for (int r = 0; r < 10; r++) {
            due("5: room", hotel.room(3 - r % 4), r);
        }
        due("5: 10 are there", hotel.room(0), -1);
        due("5: ROOMS", hotel.count(1), 10);
        due("5: FLOOR of the first", hotel.count(50), 3);
        due("5: FLOOR of the last", hotel.count(59), 2);
    }

    private static void promise6() {
        WeatherHotel hotel = Hotels.withStays("r9(0-1);w9(0-1);l9(0-1)");
        due("6: plant", hotel.plant(0, 1, 10), true);
        due("6: plant", hotel.plant(1, 2, 100), true);
        due("6: plant", hotel.plant(2, 3, 999), true);
        int[][] refused = {{-1, 0, 0}, {3, 0, 0}, {0, -1, 0}, {0, 1000, 0}, {0, 0, -1}, {0, 0, 1000}, {MIN, 5, 5}, {2, MAX, 0}};
        for (int[] call : refused) {
            due("6: refused", hotel.plant(call[0], call[1], call[2]), false);
        }
        for (int kind = 0; kind < 3; kind++) {
            due("6: so much", hotel.gets(0, kind, 0), kind + 1);
        }
        due("6: so many pence", hotel.fair(1, 0, 0), 9 * (10 + 100 + 999));
        due("6: 999", hotel.plant(0, 999, 0) && hotel.plant(0, 0, 999), true);
        due("6: the last one told", hotel.gets(0, 0, 0), 0);
    }

    private static void promise7() {
        WeatherHotel hotel = Hotels.withStays("r9(0-1)", "r8(0-1)");
        Hotels.plenty(hotel);
        due("7: pipes", hotel.pipes(0, 4), true);
        int[][] refused = {{-1, 0}, {4, 0}, {0, -1}, {0, 1000}, {MAX, 1}, {1, MIN}};
        for (int[] call : refused) {
            due("7: refused", hotel.pipes(call[0], call[1]), false);
        }
        due("7: FLOOR 0", hotel.gets(0, 0, 0), 4);
        due("7: FLOOR 1", hotel.gets(1, 0, 0), 8);
        due("7: 0 and 999", hotel.pipes(0, 999) && hotel.pipes(1, 0), true);
        due("7: FLOOR 0", hotel.gets(0, 0, 0), 9);
        due("7: FLOOR 1", hotel.gets(1, 0, 0), 0);
    }

    private static void promise8() {
        WeatherHotel hotel = Hotels.withStays("r9(0-2)");
        Hotels.plenty(hotel);
        due("8: cellar", hotel.cellar(3, 4), true);
        int[][] refused = {{-1, 0}, {10000, 0}, {0, -1}, {0, 100}, {MIN, 0}, {0, MAX}};
        for (int[] call : refused) {
            due("8: refused", hotel.cellar(call[0], call[1]), false);
        }
        due("8: water comes ahead of HOUR 0", hotel.gets(0, 0, 0), 7);
        due("8: and of HOUR 1", hotel.gets(0, 0, 1), 4);
        due("8: at the end", hotel.served(1), 22 * 4);
        due("8: most", hotel.cellar(9999, 99), true);
        due("8: 9999 at most", hotel.served(1), 9999);
        hotel.shift(0, -2);
        due("8: what is used in the last HOURS", hotel.served(1), 9990);
    }

    private static void promise9() {
        WeatherHotel hotel = Hotels.withRooms(3);
        Ask.day(hotel, 2, "r5(0-1)");
        due("9: stay", hotel.stay(0, 1, 2, 999), true);
        due("9: in the same ROOM", hotel.stay(1, 1, 2, 0), false);
        int[][] refused = {
            {-1, 0, 2, 0}, {10, 0, 2, 0}, {1, -1, 2, 0}, {1, 3, 2, 0}, {1, 0, 1, 0}, {1, 0, 12, 0}, {1, 0, -1, 0},
            {1, 0, 2, -1}, {1, 0, 2, 1000}, {MIN, 0, 2, 0}, {32, 0, 2, 0}, {1, MAX, 2, 0}, {1, 0, 34, 0},
        };
        for (int[] call : refused) {
            due("9: refused", hotel.stay(call[0], call[1], call[2], call[3]), false);
        }
        due("9: one STAY", hotel.count(2), 1);
        hotel.shift(0, 3);
        due("9: refused ones leave it", hotel.stay(0, 1, 2, 1000), false);
        due("9: SHIFTED still", hotel.count(40), 6);
        due("9: its own ROOM", hotel.stay(0, 1, 2, 7), true);
        due("9: not SHIFTED", hotel.count(40), 3);
        due("9: PRICE", hotel.count(30), 7);
        due("9: another ROOM", hotel.stay(0, 2, 2, 7), true);
        due("9: the old ROOM is free", hotel.stay(9, 1, 2, 7), true);
        due("9: STAYS", hotel.count(2), 1 | 1 << 9);
    }

    private static void promise10() {
        WeatherHotel hotel = Hotels.withStays("r5(0-1)", "r5(0-1)");
        for (int b : new int[] {2, -1, 10, MIN, MAX, 32}) {
            due("10: there is none", hotel.leave(b), false);
        }
        due("10: leave", hotel.leave(0), true);
        due("10: gone", hotel.leave(0), false);
        due("10: the other one", hotel.count(2), 2);
        due("10: wants no more", hotel.wants(0, 0), 5);
        due("10: its ROOM is free", hotel.stay(5, 0, 0, 0), true);
    }

    private static void promise11() {
        WeatherHotel hotel = Hotels.withStays("r5(0-1)");
        for (int hours = -3; hours <= 3; hours++) {
            due("11: shift", hotel.shift(0, hours), true);
            due("11: SHIFTED", hotel.count(40), hours + 3);
            due("11: wanted later, round the day", hotel.wants(0, (hours + 24) % 24), 5);
        }
        for (int hours : new int[] {-4, 4, MIN, MAX}) {
            due("11: refused", hotel.shift(0, hours), false);
        }
        due("11: refused", hotel.shift(1, 0), false);
        due("11: refused", hotel.shift(-1, 0), false);
        due("11: refused", hotel.shift(32, 0), false);
        due("11: from the DAY, not from what it was", hotel.wants(0, 3), 5);
    }

    private static void promise12() {
        WeatherHotel hotel = Hotels.withStays("r5(0-1)");
        due("12: one CLAUSE", Ask.law(hotel, "p5(s=0)"), 1);
        due("12: the tape is empty", hotel.count(4), 0);
        due("12: all that can be", Ask.law(hotel, "ps+r*f-d/c%t(k<n&!g=s|(r>f));m[1+[2]](1=1|2>3)"), 2);
        due("12: twelve", Ask.law(hotel, "m1(1=1);m2(1=1);m3(1=1);m4(1=1);m5(1=1);m6(1=1);"
                + "m7(1=1);m8(1=1);m9(1=1);m1(1=1);m2(1=1);p3(1=1)"), 12);
        due("12: CLAUSES", hotel.count(3), 12);
        due("12: in place of the one before", Ask.law(hotel, "m7(1=1)"), 1);
        due("12: CLAUSES", hotel.count(3), 1);
        due("12: HARM", hotel.served(0), 35);
        due("12: all of the tape", Ask.law(hotel, "m7(1=1);m8(s=1|s=10)"), 2);
        Ask.feed(hotel, Ask.bytesOf("p5(s=0)"));
        for (int n : new int[] {0, -1, 21, 161, MIN, MAX}) {
            due("12: law " + n, hotel.law(n), -1);
            due("12: the tape stays", hotel.count(4), 20);
        }
        for (int i = 0; i < 8; i++) {
            hotel.feed(0, 0, 0, 0, 0);
        }
        due("12: 161 are too many", hotel.law(161), -1);
        due("12: 160 are not", hotel.law(160), -1007);
        due("12: the one before stays", hotel.served(0), 35);
    }

    private static void promise12Faults() {
        WeatherHotel hotel = Hotels.withStays("r5(0-1)");
        Ask.law(hotel, "m7(1=1)");
        String twelve = "p5(s=0);p5(s=0);p5(s=0);p5(s=0);p5(s=0);p5(s=0);"
                + "p5(s=0);p5(s=0);p5(s=0);p5(s=0);p5(s=0);p5(s=0)";
        Object[][] faults = {
            {"x5(s=0)", -1000}, {"P5(s=0)", -1000}, {"(s=0)", -1000}, {"p", -1001}, {"p(s=0)", -1001}, {"m5", -1002},
            {"m5s(s=0)", -1002}, {"ma(s=0)", -1001}, {"m5(", -1003}, {"m5()", -1003}, {"m5(s", -1004}, {"m5(s)", -1004},
            {"m5(s=", -1005}, {"m5(s=)", -1005}, {"m5(s=0", -1006}, {"m5(s=0=1)", -1006}, {"m5(s=0]", -1006},
            {"m5(a=0)", -1003}, {"m5(s==0)", -1005}, {"m5(s=0)p", -1007}, {"m5(s=0);", -1008}, {"m5(s=0);;", -1008},
            {"m5(s=0&", -1007}, {"m5(s=0|)", -1007}, {"m5(!)", -1004}, {"m5(s!=0)", -1004}, {"m5((s)=0)", -1005},
            {"m5([s=0])", -1005}, {"m[5(s=0)", -1003}, {"m5](s=0)", -1002}, {"m+5(s=0)", -1001}, {"m5+(s=0)", -1003},
            {"m5**2(s=0)", -1003}, {"m5(-s=0)", -1003}, {"m5 (s=0)", -1002}, {"m5(s=0)&", -1007}, {"m5(s=-1)", -1005},
            {"p123456(s=0)", -2006}, {"p12345(s<000001)", -2014}, {"p1234567", -2006}, {"p12345x", -1006},
            {"p5(((((((s=0)))))))", -5008}, {"p5(!!!!!!s=0)", -5008}, {"p5(s=[[[[[[0]]]]]])", -5010},
            {"p5((!([![s=0", -1007}, {"p5((!([[[s]]]=0)))", -5008}, {"p[[[[[[[5]]]]]]](s=0)", -5007},
            {"p[[[[[[5]]]]]](((((((s=0)))))))", -5020}, {"p5(!s=0&!!!!!!s=1)", -5013},
            {twelve + ";m", -4096}, {twelve + ";p5(s=0)", -4096}, {twelve + ";s", -1096}, {twelve + ";", -1096},
        };
        for (Object[] fault : faults) {
            due("12: " + fault[0], Ask.law(hotel, (String) fault[0]), (Integer) fault[1]);
            due("12: the tape is empty after " + fault[0], hotel.count(4), 0);
        }
        due("12: the one before stays", hotel.served(0), 35);
        due("12: and its CLAUSES", hotel.count(3), 1);
        String[] right = {
            "p12345(s<00001)", "p5((((((s=0))))))", "p[[[[[[5]]]]]]((((((s=0))))))", "p5(!!!!!s=0)", "p5(s=[[[[[0]]]]])",
            "p5(!!!!!s=0&!!!!!s=0|(((((s=0))))))", "p5(!(![[s]]=0))", "pk+n+g(k=n)",
        };
        for (String text : right) {
            due("12: " + text, Ask.law(hotel, text), 1);
        }
    }

    /** HARM of one that is missed by the STAY 3 in ROOM 2 on FLOOR 2 with DAY 1 and PRICE 50, LIGHT, HOUR 20. */
    private static int harmBy(String law) {
        WeatherHotel hotel = Hotels.withRooms(3);
        Ask.day(hotel, 1, "l9(20-21)");
        hotel.stay(3, 2, 1, 50);
        hotel.plant(2, 8, 0);
        due("12: " + law, Ask.law(hotel, law) > 0, true);
        return hotel.served(0);
    }

    private static void promise12Meaning() {
        Object[][] laws = {
            {"ms(1=1)", 3}, {"mr(1=1)", 2}, {"mf(1=1)", 2}, {"md(1=1)", 1}, {"mc(1=1)", 50}, {"mt(1=1)", 20},
            {"mk(1=1)", 2}, {"mn(1=1)", 9}, {"mg(1=1)", 1}, {"m2+3*4(1=1)", 14}, {"m[2+3]*4(1=1)", 20},
            {"m20-5-4(1=1)", 11}, {"m60/5/4(1=1)", 3}, {"m60/5*4(1=1)", 48}, {"m60*5/4(1=1)", 75}, {"m17%10*3(1=1)", 21},
            {"m100(1=1)", 99}, {"m99999(1=1)", 99}, {"m0-5(1=1)", 0}, {"m[0-7]/2+9(1=1)", 6}, {"m[0-7]%2+9(1=1)", 8},
            {"m65536*32768(1=1)", 0}, {"m65536*32767+65536(1=1)", 0}, {"m65536*65536+5(1=1)", 5},
            {"m5(1=2)", 1}, {"m5(1=2);m6(1=1);m7(1=1)", 6}, {"p5(1=1)", 1}, {"p5(1=1);m6(1=1)", 6},
            {"m5(1<2)", 5}, {"m5(2<2)", 1}, {"m5(2>1)", 5}, {"m5(2>2)", 1}, {"m5(!1=1)", 1}, {"m5(!!1=1)", 5},
            {"m5(!1<2)", 1}, {"m5(!2>1)", 1}, {"m5(1<2|1=2)", 5}, {"m5(1=2|2>1&1<2)", 5},
            {"m5(1=1|1=1&1=2)", 5}, {"m5((1=1|1=1)&1=2)", 1}, {"m5(!1=2&1=1)", 5}, {"m5(!(1=2&1=1))", 5},
            {"m5(!1=1|1=1)", 5}, {"m5(!(1=1|1=1))", 1}, {"m5(1=2|1=3|1=1)", 5}, {"m5(1=1&2=2&3=4)", 1},
            {"m5(t=20&k=2&n=9&g=1&s=3)", 5}, {"m5(1+1*2=3)", 5}, {"m5([1+1]*2=4)", 5},
        };
        for (Object[] law : laws) {
            due("12: HARM by " + law[0], harmBy((String) law[0]), (Integer) law[1]);
        }
    }

    private static void promise12Refused() {
        Object[][] laws = {
            {"m5/0(1=1)", 0}, {"m5%0(1=1)", 0}, {"m9+5/0(1=1)", 0}, {"m9+[5%[1-1]](1=1)", 0}, {"m5/0*0(1=1);m7(1=1)", 0},
            {"m5(1/0=1)", 1}, {"m5(!1/0=1)", 1}, {"m5(1=1|1/0=1)", 5}, {"m5(1/0=1|1=1)", 1}, {"m5(1=2&1/0=1)", 1},
            {"m5(!(1=2&1/0=1))", 5}, {"m5(1=2&1/0=1|1=1)", 5}, {"m5((1=1|1/0=1)&1=1)", 5}, {"m5(1%0=0);m6(1=1)", 6},
            {"m5(!(1%0=0)|1=1);m6(1=1)", 6}, {"m5(0/5=0)", 5},
            {"m5([0-65536]*32768/[0-1]<0)", 5}, {"m5([0-65536]*32768%[0-1]=0)", 5},
        };
        for (Object[] law : laws) {
            due("12: HARM by " + law[0], harmBy((String) law[0]), (Integer) law[1]);
        }
        WeatherHotel hotel = Hotels.withStays("l5(0-24)", "l5(0-24)");
        hotel.plant(2, 5, 0);
        due("12: of like ones the lowest", hotel.gets(0, 2, 3), 5);
        Object[][] soon = {
            {"p1(s=1)", 1}, {"p1000(s=1);p999(s=0)", 0}, {"p0-1(s=1)", 0}, {"p1(s=1&k=0&n=0&g=0)", 1}, {"p5(s=1);p6(s=0)", 0},
            {"p5(s=1);p9(s=1);p6(s=0)", 0}, {"p7/0(s=1)", 0}, {"p7(s=1/0);p1(s=1)", 1}, {"m5(s=1)", 0}, {"p1(s=1&t>3)", 0},
            {"p1(s=1&t<4)", 1}, {"pr(1=1)", 1}, {"pf(1=1)", 1}, {"pd(1=1)", 1}, {"pc(1=1)", 0}, {"pt(s=1)", 1},
        };
        for (Object[] law : soon) {
            due("12: " + law[0], Ask.law(hotel, (String) law[0]) > 0, true);
            due("12: served first by " + law[0], hotel.gets((Integer) law[1], 2, 3), 5);
        }
    }

    private static void promise13() {
        WeatherHotel hotel = Hotels.withStays("r5(8-10);w3(0-24)", "r6(9-11)");
        int[][] calls = {
            {0, 7, 0}, {0, 8, 5}, {0, 9, 11}, {0, 10, 6}, {1, 23, 3}, {2, 0, 0},
            {-1, 0, -1}, {3, 0, -1}, {0, -1, -1}, {0, 24, -1}, {MIN, 0, -1}, {0, MAX, -1},
        };
        for (int[] call : calls) {
            due("13: wants " + call[0] + " " + call[1], hotel.wants(call[0], call[1]), call[2]);
        }
        hotel.shift(1, -1);
        due("13: SHIFTED", hotel.wants(0, 8), 11);
        Ask.day(hotel, 0, "r1(0-24)");
        due("13: the DAY told anew", hotel.wants(0, 9), 7);
    }

    private static void promise14() {
        WeatherHotel hotel = Hotels.withRooms(5);
        Ask.day(hotel, 0, "r10(0-3);w4(0-1)");
        hotel.stay(1, 0, 0, 0);
        hotel.stay(2, 4, 0, 0);
        hotel.stay(3, 1, 0, 0);
        hotel.plant(0, 25, 0);
        hotel.plant(1, 5, 0);
        hotel.pipes(0, 12);
        hotel.cellar(30, 0);
        int[][] calls = {
            {1, 0, 0, 10}, {2, 0, 0, 2}, {3, 0, 0, 10}, {1, 0, 1, 8}, {2, 0, 1, 0}, {3, 0, 1, 0},
            {1, 1, 0, 4}, {2, 1, 0, 1}, {3, 1, 0, 0}, {1, 2, 0, 0}, {1, 0, 23, 0},
            {0, 0, 0, -1}, {-1, 0, 0, -1}, {10, 0, 0, -1}, {33, 0, 0, -1}, {1, -1, 0, -1}, {1, 3, 0, -1}, {1, 0, -1, -1}, {1, 0, 24, -1},
        };
        for (int[] call : calls) {
            due("14: gets " + call[0] + " " + call[1] + " " + call[2], hotel.gets(call[0], call[1], call[2]), call[3]);
        }
        Ask.law(hotel, "p10-s(t=0);ps(t=1)");
        due("14: another order in another HOUR", hotel.gets(3, 0, 1), 8);
        due("14: and the first as it was", hotel.gets(1, 0, 0), 10);
    }

    private static void promise15() {
        WeatherHotel hotel = Hotels.withRooms(5);
        Ask.day(hotel, 0, "r10(0-3);w4(0-1)");
        hotel.stay(1, 0, 0, 0);
        hotel.stay(2, 4, 0, 0);
        hotel.plant(0, 25, 0);
        hotel.plant(1, 5, 0);
        hotel.pipes(0, 12);
        hotel.cellar(30, 1);
        due("15: HARM", hotel.served(0), 8 + 8 + 10 + 1 + 3);
        due("15: at the end", hotel.served(1), 21);
        due("15: MISSED", hotel.served(2), 30);
        due("15: MISSED of 1", hotel.served(11), 1);
        due("15: MISSED of 2", hotel.served(12), 29);
        Ask.law(hotel, "mg(k=0&s=2);m3(k=1);m0(1=1)");
        due("15: HARM", hotel.served(0), 64 + 64 + 100 + 9);
        due("15: MISSED of all STAYS", Hotels.withStays("l1(0-1)", "l2(0-1)", "l4(0-1)").served(2), 7);
        for (int what : new int[] {-1, 3, 9, 10, 13, 19, 20, 42, MIN, MAX, MIN + 11}) {
            due("15: no such what " + what, hotel.served(what), -1);
        }
    }

    private static void promise16() {
        WeatherHotel hotel = Hotels.withStays("r10(8-10)", "r6(9-11)", "w1(5-6)");
        hotel.plant(0, 15, 0);
        hotel.plant(1, 1, 0);
        int[][] calls = {
            {3, 0, 0}, {3, 1, 9}, {3, 2, 0}, {7, 1, 9}, {1, 0, 1}, {1, 1, -2}, {1, 2, -2}, {2, 0, 1}, {6, 0, 1}, {5, 2, -2},
            {0, 0, -3}, {8, 0, -3}, {9, 0, -3}, {-1, 0, -3}, {1024, 0, -3}, {1025, 0, -3}, {MIN, 0, -3}, {MAX, 0, -3},
            {1, -1, -3}, {1, 3, -3}, {1, MIN, -3}, {1, MAX, -3},
        };
        for (int[] call : calls) {
            due("16: can " + call[0] + " " + call[1], hotel.can(call[0], call[1]), call[2]);
        }
        hotel.plant(0, 16, 0);
        due("16: just as much", hotel.can(3, 0), 1);
        hotel.shift(2, -3);
        hotel.plant(1, 0, 0);
        due("16: SHIFTED", hotel.can(7, 1), 2);
    }

    private static void promise16Causes() {
        WeatherHotel hotel = Hotels.withStays("r10(4-6);w5(4-5);l5(4-5)", "r10(4-6)");
        due("16: the least cause", hotel.can(1, 2), 0);
        hotel.plant(0, 30, 0);
        due("16: WARMTH", hotel.can(1, 2), 1);
        hotel.plant(1, 5, 0);
        due("16: LIGHT", hotel.can(1, 2), 2);
        hotel.plant(2, 5, 0);
        due("16: it can", hotel.can(3, 2), -2);
        hotel.pipes(1, 9);
        due("16: PIPES of FLOOR 1", hotel.can(3, 2), 4);
        due("16: none else being there", hotel.can(1, 2), -2);
        hotel.pipes(0, 0);
        due("16: PIPES of FLOOR 0", hotel.can(3, 2), 3);
        hotel.pipes(0, 10);
        hotel.pipes(1, 10);
        hotel.cellar(25, 1);
        due("16: water is used as wanted", hotel.can(3, 1), 5);
        due("16: CELLAR", hotel.can(3, 2), 7);
        hotel.cellar(34, 1);
        due("16: enough comes", hotel.can(3, 0), 1);
        hotel.cellar(33, 1);
        due("16: not enough comes", hotel.can(3, 1), 5);
        hotel.plant(1, 4, 0);
        due("16: the first HOUR", hotel.can(3, 1), 4);
    }

    private static void promise17() {
        WeatherHotel hotel = Hotels.withStays("r5(0-1)", "r5(0-1)", "r5(0-1)", "r10(0-1)");
        due("17: none can", hotel.best(0), 0);
        due("17: none can", hotel.best(1), 0);
        hotel.plant(0, 10, 0);
        due("17: fewest STAYS, then the least set", hotel.best(1), 3);
        due("17: PRICES", hotel.best(0), 200);
        hotel.stay(3, 3, 3, 200);
        due("17: of fewest STAYS", hotel.best(1), 8);
        hotel.stay(2, 2, 2, 101);
        due("17: of most PRICES", hotel.best(1), 5);
        due("17: PRICES", hotel.best(0), 201);
        hotel.stay(0, 0, 0, 0);
        hotel.stay(1, 1, 1, 0);
        hotel.stay(3, 3, 3, 0);
        due("17: not those without a PRICE", hotel.best(1), 4);
        hotel.stay(2, 2, 2, 1);
        due("17: but one with the least PRICE", hotel.best(1), 4);
        hotel.stay(2, 2, 2, 0);
        hotel.stay(0, 0, 0, 1);
        due("17: but one with the least PRICE", hotel.best(1), 1);
        for (int what : new int[] {-1, 2, MIN, MAX}) {
            due("17: no such what", hotel.best(what), -1);
        }
    }

    private static void promise18() {
        WeatherHotel hotel = Hotels.withStays("r5(0-1)", "r5(0-1)", "r5(0-1)", "r8(0-1)");
        due("18: each alone is too much", hotel.smallest(), 1);
        hotel.plant(0, 7, 0);
        due("18: of fewest STAYS", hotel.smallest(), 8);
        hotel.plant(0, 12, 0);
        due("18: the least of them", hotel.smallest(), 9);
        hotel.plant(0, 14, 0);
        hotel.leave(3);
        due("18: three", hotel.smallest(), 7);
        hotel.plant(0, 15, 0);
        due("18: all can", hotel.smallest(), 0);
        due("18: no STAYS", new WeatherHotel().smallest(), 0);
    }

    private static void promise19() {
        WeatherHotel hotel = Hotels.withStays("r5(0-1)", "r5(0-1)", "r10(0-1)");
        hotel.plant(0, 10, 0);
        hotel.stay(2, 2, 2, 150);
        due("19: one of THE BEST", hotel.costs(0), 50);
        due("19: the other one", hotel.costs(1), 50);
        due("19: one that is not in it", hotel.costs(2), 0);
        hotel.stay(2, 2, 2, 200);
        due("19: like ones: the fewest are THE BEST", hotel.costs(2), 200);
        due("19: so these cost nothing", hotel.costs(0), 0);
        hotel.plant(0, 20, 0);
        due("19: where all can", hotel.costs(0), 0);
        for (int b : new int[] {-1, 3, 10, 32, MIN, MAX}) {
            due("19: there is none", hotel.costs(b), -1000000);
        }
    }

    /** ROOMS 0, 4, 8 on FLOOR 0, 1, 5, 9 on 1, 2, 6 on 2, 3, 7 on 3. */
    private static WeatherHotel forRooms() {
        WeatherHotel hotel = Hotels.withRooms(10);
        Ask.day(hotel, 0, "r5(0-1)");
        Ask.day(hotel, 1, "r9(0-1)");
        hotel.stay(0, 0, 0, 0);
        hotel.stay(1, 4, 0, 0);
        hotel.stay(5, 9, 1, 0);
        hotel.plant(0, 50, 0);
        hotel.pipes(0, 8);
        hotel.pipes(1, 14);
        hotel.pipes(2, 5);
        return hotel;
    }

    private static void promise20() {
        WeatherHotel hotel = forRooms();
        due("20: STAY 0", Ask.rooms(hotel, 3, 0, 4, 1), 1);
        due("20: the tape is empty", hotel.count(4), 0);
        due("20: STAY 1", Ask.rooms(hotel, 3, 1, 4, 1), 4);
        due("20: it stays as it was", hotel.count(10), 0);
        due("20: the least row", Ask.rooms(hotel, 3, 0, 6, 2), -2);
        due("20: three of them", Ask.rooms(hotel, 35, 0, 6, 4, 9), 4);
        due("20: three of them", Ask.rooms(hotel, 35, 1, 6, 4, 9), 6);
        due("20: three of them", Ask.rooms(hotel, 35, 5, 6, 4, 9), 9);
        due("20: too much for the others too", Ask.rooms(hotel, 1, 0, 0), -2);
        due("20: whether", Ask.rooms(hotel, 1, 10, 0), 0);
        due("20: whether", Ask.rooms(hotel, 2, 10, 5), 1);
        due("20: and it is so then", hotel.count(11), 5);
        due("20: the others are where they were", hotel.count(10) * 10 + hotel.count(15), 9);
        due("20: ROOMS change places", Ask.rooms(hotel, 3, 10, 0, 5), 1);
        due("20: the least row", hotel.count(10) * 10 + hotel.count(11), 5);
        due("20: ROOM of STAY 0", Ask.rooms(hotel, 1, 10, 3), 1);
        due("20: and it is so then", hotel.count(10), 3);
        due("20: where the least ROOM won't do", Ask.rooms(hotel, 34, 1, 1, 8), 8);
        due("20: where the least ROOM won't do", Ask.rooms(hotel, 34, 5, 8, 1), 1);
        due("20: where the least FLOOR won't do", Ask.rooms(hotel, 34, 1, 1, 2), 2);
        Ask.rooms(hotel, 1, 10, 0);
        due("20: the least row of these", Ask.rooms(hotel, 35, 5, 0, 2, 7), 7);
        due("20: the least row of these", Ask.rooms(hotel, 35, 0, 0, 2, 7), 0);
        due("20: a ROOM twice", Ask.rooms(hotel, 3, 10, 1, 1), -3);
        due("20: no such ROOM", Ask.rooms(hotel, 3, 10, 1, 10), -3);
        due("20: no such ROOM", Ask.rooms(hotel, 3, 10, 1, 255), -3);
        due("20: another STAY's", Ask.rooms(hotel, 3, 10, 1, 9), -3);
        due("20: the tape is empty", hotel.count(4), 0);
        int[][] refused = {
            {0, 0, 10}, {4, 1, 10}, {7, 3, 10}, {-1, 1, 10}, {1025, 2, 10}, {3, 1, 10}, {3, 3, 10}, {3, -1, 10}, {3, MAX, 10},
            {3, 2, 5}, {3, 2, 2}, {3, 2, -1}, {3, 2, 11}, {3, 2, 32}, {3, 2, MIN}, {MIN, 1, 10},
        };
        Ask.feed(hotel, 1, 2, 3, 5);
        for (int[] call : refused) {
            due("20: refused " + call[0] + " " + call[1] + " " + call[2], hotel.rooms(call[0], call[1], call[2]), -1);
            due("20: the tape stays", hotel.count(4), 20);
        }
        WeatherHotel full = Hotels.withRooms(10);
        Ask.day(full, 0, "r0(0-1)");
        for (int b = 0; b < 7; b++) {
            full.stay(b, 9 - b, 0, 0);
        }
        due("20: seven are too many", Ask.rooms(full, 127, 10, 0, 1, 2, 3, 4, 5, 6), -1);
        due("20: six are not", full.rooms(126, 6, 10), 1);
        due("20: the least row", full.count(11) * 10 + full.count(16), 5);
        Ask.feed(full, 1);
        Ask.rooms(full, 1, 0, 0);
        due("20: an empty tape", full.rooms(1, 1, 10), -1);
    }

    private static void promise21() {
        WeatherHotel hotel = Hotels.withStays("r10(8-10)", "r6(9-11)", "r7(9-10)");
        hotel.plant(0, 12, 0);
        for (int k = 1; k <= 2; k++) {
            due("21: HOURS together", hotel.shifting(7, k, 10), 2);
            due("21: the least row", hotel.shifting(7, k, 0), 3 - 1);
            due("21: the least row", hotel.shifting(7, k, 1), 3 + 1);
            due("21: the least row", hotel.shifting(7, k, 2), 3);
        }
        due("21: all others stay", hotel.shifting(4, 2, 10), -2);
        due("21: it can't be", hotel.shifting(4, 2, 2), -2);
        due("21: it can't be", hotel.shifting(4, 2, 11), -2);
        due("21: nothing is changed", hotel.count(40), 3);
        due("21: it is so then", hotel.shifting(7, 1, 11), 2);
        due("21: SHIFTED", hotel.count(40) * 100 + hotel.count(41) * 10 + hotel.count(42), 243);
        due("21: none is needed now", hotel.shifting(7, 1, 10), 0);
        due("21: from what it is", hotel.shifting(7, 1, 0), 2);
        int[][] refused = {
            {0, 1, 10}, {8, 1, 10}, {15, 1, 10}, {-1, 1, 10}, {1025, 1, 10}, {7, 0, 10}, {7, 3, 10}, {7, -1, 10}, {7, MAX, 10},
            {7, 1, 3}, {3, 1, 2}, {7, 1, 12}, {7, 1, -1}, {7, 1, 32}, {7, 1, MIN}, {MIN, 1, 10},
        };
        for (int[] call : refused) {
            due("21: refused " + call[0] + " " + call[1] + " " + call[2], hotel.shifting(call[0], call[1], call[2]), -1);
        }
        WeatherHotel edge = Hotels.withStays("r10(0-1)", "r10(1-2)");
        edge.plant(0, 10, 0);
        edge.shift(0, 3);
        edge.shift(1, 2);
        due("21: within 3", edge.shifting(1, 2, 0), 3 + 2);
        edge.shift(0, 2);
        edge.shift(1, 1);
        edge.pipes(0, 0);
        edge.cellar(20, 0);
        due("21: PIPES must do", edge.shifting(1, 2, 10), -2);
        edge.pipes(0, 10);
        due("21: just 3 is within", edge.shifting(2, 2, 1), 3);
        Ask.day(edge, 1, "r10(23-24);r10(0-3)");
        edge.cellar(50, 0);
        due("21: just 3 is within", edge.shifting(1, 1, 10), -2);
        edge.shift(1, 0);
        due("21: just 3 is within", edge.shifting(1, 1, 0), 6);
        Ask.day(edge, 1, "r10(1-2)");
        edge.shift(0, 3);
        edge.shift(1, 2);
        edge.cellar(20, 0);
        due("21: the CELLAR does too", edge.shifting(1, 2, 10), 1);
        WeatherHotel wide = Hotels.withStays("r10(4-7)", "r10(5-6)");
        wide.plant(0, 10, 0);
        due("21: one HOUR is too little", wide.shifting(2, 1, 10), -2);
        due("21: two HOURS do", wide.shifting(2, 2, 10), 2);
        due("21: the least row", wide.shifting(2, 2, 1), 3 - 2);
        due("21: both by one HOUR", wide.shifting(3, 1, 10), 2);
        due("21: the least row", wide.shifting(3, 1, 0) * 10 + wide.shifting(3, 1, 1), 24);
        due("21: fewest HOURS, then the least row", wide.shifting(3, 2, 0) * 10 + wide.shifting(3, 2, 1), 13);
        WeatherHotel many = Hotels.withStays("r1(0-1)", "r1(1-2)", "r1(2-3)", "r1(3-4)", "r1(4-5)", "r1(5-6)");
        many.plant(0, 1, 0);
        due("21: six are too many", many.shifting(63, 1, 10), -1);
        due("21: five are not", many.shifting(31, 1, 10), 0);
    }

    private static void promise22() {
        WeatherHotel hotel = Hotels.withStays("r10(8-10);w5(0-1)", "r6(9-11);l2(3-4)", "w5(0-1)");
        hotel.plant(0, 10, 3);
        hotel.plant(1, 4, 2);
        hotel.plant(2, 0, 7);
        due("22: it brings", hotel.larger(0), 300 - 18 - 12 - 14);
        due("22: which", hotel.larger(1), 7);
        due("22: RAIN", hotel.larger(2), 6);
        due("22: WARMTH", hotel.larger(3), 6);
        due("22: LIGHT", hotel.larger(4), 2);
        hotel.pipes(1, 5);
        due("22: PIPES must do", hotel.larger(1), 5);
        due("22: and bring", hotel.larger(0), 188);
        hotel.cellar(19, 0);
        due("22: the CELLAR must do", hotel.larger(1), 4);
        due("22: and bring", hotel.larger(0), 98);
        hotel.plant(1, 4, 100);
        due("22: as much as it brings is worth nothing", hotel.larger(1), 0);
        due("22: nothing", hotel.larger(0), 0);
        due("22: no more PLANT", hotel.larger(3), 0);
        for (int what : new int[] {-1, 5, MIN, MAX}) {
            due("22: no such what", hotel.larger(what), -1);
        }
        due("22: PLANT is as it was", hotel.can(4, 2), 1);
        WeatherHotel like = Hotels.withStays("l1(0-1)", "l1(0-1)", "l1(0-1)");
        like.plant(2, 1, 100);
        due("22: of fewest STAYS, the least", like.larger(1), 1);
    }

    private static void promise23() {
        WeatherHotel hotel = Hotels.withStays("r10(8-10)", "r6(9-11)", "r4(20-21);w1(0-1)");
        hotel.plant(0, 0, 3);
        hotel.plant(1, 0, 5);
        due("23: one alone", hotel.fair(1, 0, 0), 30);
        due("23: one alone", hotel.fair(1, 0, 1), 1);
        due("23: two together", hotel.fair(3, 0, 0), 30);
        due("23: two together", hotel.fair(3, 1, 0), 18);
        // 4 of RAIN when it comes first (2 of 6 orders), else nothing more: 12 * 2 / 6, and 5 for WARMTH.
        due("23: above the line", hotel.fair(7, 2, 0), 9);
        due("23: below the line", hotel.fair(7, 2, 1), 1);
        hotel.plant(0, 0, 1);
        due("23: above the line", hotel.fair(7, 2, 0), 19);
        due("23: below the line", hotel.fair(7, 2, 1), 3);
        due("23: all shares come to all", hotel.fair(7, 0, 0) * 3 + hotel.fair(7, 1, 0) * 3, 3 * 0 + sumOfTwo(hotel));
        hotel.plant(0, 0, 0);
        due("23: nothing", hotel.fair(3, 1, 0), 0);
        due("23: nothing", hotel.fair(3, 1, 1), 1);
        int[][] refused = {
            {0, 0, 0}, {8, 3, 0}, {3, 2, 0}, {3, 3, 0}, {3, -1, 0}, {3, 32, 0}, {3, 0, 2}, {3, 0, -1}, {-1, 0, 0}, {1025, 0, 0}, {MIN, 0, 0},
        };
        for (int[] call : refused) {
            due("23: refused " + call[0] + " " + call[1] + " " + call[2], hotel.fair(call[0], call[1], call[2]), -1);
        }
        String[] nine = new String[9];
        for (int i = 0; i < 9; i++) {
            nine[i] = "l99(0-1)";
        }
        WeatherHotel full = Hotels.withStays(nine);
        full.plant(2, 0, 999);
        due("23: eight", full.fair(255, 7, 0), 99 * 999);
        due("23: nine are too many", full.fair(511, 0, 0), -1);
    }

    /** Three times the shares of STAYS 0 and 1: what all cost, less that of STAY 2, which is 19 / 3. */
    private static long sumOfTwo(WeatherHotel hotel) {
        due("23: below the line", hotel.fair(7, 0, 1) * 10 + hotel.fair(7, 1, 1), 33);
        return 3 * (3 * (16 + 5) - 19);
    }

    private static void promise24() {
        WeatherHotel hotel = Hotels.withStays("r10(0-2)", "r6(1-3)", "l1(0-1)");
        hotel.plant(0, 99, 0);
        hotel.cellar(20, 0);
        due("24: HARM", hotel.drought(3, -1), 12);
        due("24: the least row", hotel.drought(3, 0), 0);
        due("24: the least row", hotel.drought(3, 1), 1);
        Ask.law(hotel, "m5(s=1);m2(s=0);p9(s=0)");
        due("24: HARM", hotel.drought(3, -1), 42);
        due("24: the one with more HARM first", hotel.drought(3, 0), 1);
        due("24: the other one behind", hotel.drought(3, 1), 0);
        due("24: nobody else is there", hotel.drought(2, -1), 0);
        due("24: one alone", hotel.drought(2, 0), 1);
        due("24: all three", hotel.drought(7, -1), 43);
        due("24: all three", hotel.drought(7, 0) * 100 + hotel.drought(7, 1) * 10 + hotel.drought(7, 2), 102);
        promise24Limits();
        for (int what : new int[] {2, 3, -2, MIN, MAX}) {
            due("24: no such place", hotel.drought(3, what), -2);
        }
        for (int stays : new int[] {0, 8, 9, -1, 1024, 1025, MIN, MAX}) {
            due("24: no such STAYS", hotel.drought(stays, -1), -3);
        }
        String[] seven = {"r1(0-1)", "r1(0-1)", "r1(0-1)", "r1(0-1)", "r1(0-1)", "r1(0-1)", "r1(0-1)"};
        WeatherHotel full = Hotels.withStays(seven);
        due("24: seven are too many", full.drought(127, -1), -3);
        due("24: six", full.drought(126, -1), 6);
        due("24: no such place", full.drought(126, 6), -2);
        due("24: the last one", full.drought(126, 5), 6);
    }

    private static void promise24Limits() {
        WeatherHotel hotel = Hotels.withRooms(5);
        Ask.day(hotel, 0, "r10(0-2);w4(5-6)");
        hotel.stay(0, 0, 0, 0);
        hotel.stay(1, 4, 0, 0);
        hotel.stay(2, 1, 0, 0);
        hotel.plant(0, 25, 0);
        hotel.plant(1, 6, 0);
        hotel.pipes(0, 12);
        hotel.cellar(10, 9);
        Ask.law(hotel, "m10(s=0);m3(s=1&k=1);m1(1=1)");
        // For two the PIPES are too small, for three the CELLAR, too: it has 19 in HOUR 0, 9 in HOUR 1.
        due("24: PIPES, PLANT and CELLAR", hotel.drought(3, -1), 8 + 8 + 6);
        due("24: PIPES, PLANT and CELLAR", hotel.drought(7, -1), 8 + 3 + 10 + 10 + 10 + 6 + 4);
        due("24: in this order", hotel.drought(7, 0) * 100 + hotel.drought(7, 1) * 10 + hotel.drought(7, 2), 12);
    }

    private static void promise25() {
        WeatherHotel hotel = new WeatherHotel();
        Ask.day(hotel, 1, "r1(0-1);w9(0-24)");
        Ask.day(hotel, 3, "r2(0-1)");
        Ask.day(hotel, 4, "r2(0-1);l3(0-24)");
        Ask.day(hotel, 9, "r99(0-24)");
        due("25: rows of one", Ask.meter(hotel, 1, -1, 2), 2);
        due("25: the tape is empty", hotel.count(4), 0);
        due("25: the first", Ask.meter(hotel, 1, 0, 2), 3);
        due("25: in all", Ask.meter(hotel, 1, 3, 2), 0);
        due("25: in all", Ask.meter(hotel, 1, 3, 1), 2);
        due("25: rows of two", Ask.meter(hotel, 2, -1, 4), 3);
        due("25: the first", Ask.meter(hotel, 2, 0, 4) * 10 + Ask.meter(hotel, 2, 1, 4), 33);
        due("25: rows of three", Ask.meter(hotel, 3, -1, 5), 3);
        due("25: the first", Ask.meter(hotel, 3, 0, 5), 1);
        due("25: the first", Ask.meter(hotel, 3, 1, 5), 3);
        due("25: the first", Ask.meter(hotel, 3, 2, 5), 3);
        due("25: in all", Ask.meter(hotel, 3, 3, 5), 2);
        int[] much = new int[24];
        for (int hour = 0; hour < 24; hour++) {
            much[hour] = 297;
        }
        due("25: two bytes, the higher first", Ask.meter(hotel, 3, 3, much), 1 << 9);
        much[23]++;
        due("25: the last HOUR counts", Ask.meter(hotel, 3, 3, much), -2);
        due("25: none", Ask.meter(hotel, 1, 0, 3), -2);
        due("25: none in all", Ask.meter(hotel, 1, 3, 3), -2);
        due("25: no rows", Ask.meter(hotel, 1, -1, 3), 0);
        due("25: the tape is empty", hotel.count(4), 0);
        int[][] refused = {{0, -1}, {4, -1}, {-1, -1}, {MAX, 0}, {1, 1}, {1, 2}, {2, 2}, {3, 4}, {1, -2}, {1, MIN}, {3, MAX}};
        Ask.feed(hotel, new int[48]);
        for (int[] call : refused) {
            due("25: refused " + call[0] + " " + call[1], hotel.meter(call[0], call[1]), -3);
            due("25: the tape stays", hotel.count(4), 60);
        }
        hotel.meter(1, 0);
        Ask.feed(hotel, new int[40]);
        due("25: not so many bytes", hotel.meter(1, -1), -3);
        due("25: the tape stays", hotel.count(4), 40);
        WeatherHotel shifted = Hotels.withStays("r1(0-1)");
        shifted.shift(0, 1);
        due("25: not SHIFTED", Ask.meter(shifted, 1, 0, 1), 0);
    }

    private static void promise26() {
        WeatherHotel hotel = new WeatherHotel();
        for (int x : new int[] {0, 1, 65535, 4711}) {
            due("26: seed", hotel.seed(x), true);
            due("26: X", hotel.count(5), x);
        }
        for (int x : new int[] {-1, 65536, MIN, MAX}) {
            due("26: no such number", hotel.seed(x), false);
        }
        due("26: X", hotel.count(5), 4711);
    }

    private static void promise27() {
        WeatherHotel hotel = Hotels.withRooms(10);
        for (int d = 0; d < 12; d++) {
            Ask.day(hotel, d, "l" + (d + 1) + "(0-1)");
        }
        for (int b = 0; b < 10; b++) {
            hotel.stay(b, b, 0, 0);
        }
        hotel.shift(2, 3);
        // X: 39022, so STAY 2 wants DAY 2.
        due("27: HARM then", hotel.draw(1), 10 + 2);
        due("27: X", hotel.count(5), 39022);
        due("27: STAY 2", hotel.count(22), 2);
        due("27: SHIFTED still", hotel.count(42), 6);
        // X: 61087, so STAY 7 wants DAY 0; then 20196, so STAY 6 wants DAY 3.
        due("27: two more", hotel.draw(2), 10 + 2 + 3);
        due("27: X", hotel.count(5), 20196);
        due("27: STAY 6", hotel.count(26), 3);
        due("27: the others", hotel.count(25), 0);
        for (int n : new int[] {0, -1, 21, MIN, MAX}) {
            due("27: no such n", hotel.draw(n), -1);
        }
        due("27: X is as it was", hotel.count(5), 20196);
        due("27: twenty", hotel.draw(20) >= 0, true);
        hotel.seed(65535);
        hotel.draw(1);
        due("27: the largest X", hotel.count(5), (int) ((25173L * 65535 + 13849) % 65536));
        WeatherHotel few = Hotels.withRooms(1);
        Ask.day(few, 5, "l1(0-1)");
        due("27: no STAYS", few.draw(1), 0);
        few.seed(1);
        few.stay(2, 0, 5, 0);
        due("27: a DAY that is not told", few.draw(1), 1);
        due("27: it stays", few.count(22), 5);
    }

    private static void promise28() {
        WeatherHotel hotel = Hotels.withStays("r1(0-1)", "r1(0-1)", "r1(0-1)");
        due("28: keep", hotel.keep(), 3);
        hotel.leave(1);
        due("28: keep", hotel.keep(), 2);
        hotel.leave(0);
        hotel.leave(2);
        due("28: keep", hotel.keep(), 0);
        hotel.stay(0, 0, 0, 0);
        due("28: those KEPT last", hotel.undo(), true);
        due("28: those KEPT last", hotel.count(2), 0);
        due("28: none", new WeatherHotel().keep(), 0);
    }

    private static void promise29() {
        WeatherHotel hotel = Hotels.withStays("r1(0-1)", "r2(0-1)");
        due("29: none was KEPT", hotel.undo(), false);
        hotel.shift(0, -2);
        hotel.seed(77);
        hotel.keep();
        hotel.stay(0, 0, 1, 5);
        hotel.leave(1);
        hotel.room(3);
        hotel.stay(4, 2, 0, 0);
        hotel.draw(3);
        hotel.plant(0, 9, 0);
        Ask.law(hotel, "m3(1=1)");
        hotel.feed(0, 0, 0, 0, 0);
        due("29: undo", hotel.undo(), true);
        int[][] counts = {{2, 3}, {5, 77}, {10, 0}, {20, 0}, {30, 100}, {40, 1}, {11, 1}, {21, 1}, {31, 100}, {41, 3}, {14, -1}};
        for (int[] count : counts) {
            due("29: count " + count[0], hotel.count(count[0]), count[1]);
        }
        int[][] left = {{0, 3}, {1, 3}, {3, 1}, {4, 20}};
        for (int[] count : left) {
            due("29: not undone " + count[0], hotel.count(count[0]), count[1]);
        }
        due("29: PLANT is not undone", hotel.gets(1, 0, 0), 2);
        hotel.leave(0);
        hotel.seed(5);
        due("29: once more", hotel.undo(), true);
        due("29: once more", hotel.count(2), 3);
        due("29: once more", hotel.count(5), 77);
    }

    private static void promise30() {
        WeatherHotel hotel = new WeatherHotel();
        Ask.day(hotel, 2, "r3(1-3);w7(0-24);l1(23-24)");
        due("30: right", Ask.check(hotel, 2, 0, 0, 3, 3, 0), -1);
        due("30: the tape is empty", hotel.count(4), 0);
        due("30: at the first", Ask.check(hotel, 2, 0, 1, 3, 3, 0), 0);
        due("30: at the last", Ask.check(hotel, 2, 0, 0, 3, 3, 1), 3);
        due("30: the first of them", Ask.check(hotel, 2, 0, 0, 4, 4, 1), 1);
        due("30: all of the tape", Ask.check(hotel, 2, 0, 0, 3, 3, 0, 0), -1);
        due("30: only n numbers", Ask.check(hotel, 2, 0, 0, 3), -1);
        due("30: four bytes", Ask.check(hotel, 2, 1, 7, 7 + 256), 1);
        due("30: four bytes", Ask.check(hotel, 2, 1, 7, 7 + (1 << 24)), 1);
        due("30: four bytes", Ask.check(hotel, 2, 1, 7, 7, -7), 2);
        due("30: four bytes", Ask.check(hotel, 2, 1, 7, MIN + 7), 1);
        int[] all = new int[24];
        all[23] = 1;
        due("30: all HOURS", Ask.check(hotel, 2, 2, all), -1);
        all[23] = 0;
        due("30: the last HOUR", Ask.check(hotel, 2, 2, all), 23);
        hotel.feed(0, 0, 0, 0, 0);
        int[][] refused = {
            {1, 0, 5}, {-1, 0, 5}, {12, 0, 5}, {34, 0, 5}, {2, -1, 5}, {2, 3, 5}, {2, 0, -1}, {2, 0, 25}, {2, 0, 6},
            {2, 0, MAX}, {2, 0, MIN}, {2, 0, 1 << 30}, {MIN, 0, 0}, {2, MAX, 0},
        };
        for (int[] call : refused) {
            due("30: refused " + call[0] + " " + call[1] + " " + call[2], hotel.check(call[0], call[1], call[2]), -2);
            due("30: the tape stays", hotel.count(4), 20);
        }
        due("30: no numbers are right", hotel.check(2, 0, 0), -1);
        due("30: the tape is empty then, too", hotel.count(4), 0);
    }

    private static void promise31() {
        WeatherHotel hotel = Hotels.withRooms(7);
        Ask.day(hotel, 0, "r1(0-1)");
        Ask.day(hotel, 11, "r1(0-1)");
        hotel.stay(3, 6, 11, 42);
        hotel.stay(9, 1, 0, 999);
        hotel.shift(9, -3);
        Ask.law(hotel, "m1(1=1);p2(2=2)");
        hotel.seed(99);
        hotel.feed(1, 2, 3, 4, 5);
        int[][] counts = {
            {0, 1 | 1 << 11}, {1, 7}, {2, 1 << 3 | 1 << 9}, {3, 2}, {4, 20}, {5, 99}, {6, -1}, {9, -1}, {10, -1},
            {13, 6}, {19, 1}, {23, 11}, {29, 0}, {33, 42}, {39, 999}, {43, 3}, {49, 0}, {12, -1}, {22, -1}, {32, -1}, {42, -1},
            {50, 0}, {53, 3}, {56, 2}, {57, -1}, {59, -1}, {60, -1}, {-1, -1}, {100, -1}, {MIN, -1}, {MAX, -1},
        };
        for (int[] count : counts) {
            due("31: count " + count[0], hotel.count(count[0]), count[1]);
        }
        hotel.stay(0, 3, 11, 7);
        due("31: of STAY 0", hotel.count(10) + 100 * hotel.count(20) + 10000 * hotel.count(30) + 10000000 * hotel.count(40), 30071103);
        hotel.leave(3);
        due("31: a STAY that is gone", hotel.count(13), -1);
    }

    /** The example of README.md. */
    private static void readme() {
        WeatherHotel hotel = new WeatherHotel();
        hotel.feed(0x7233_2838, 0x2d31_3029, 0, 0, 0);
        due("README: day", hotel.day(0, 8), 1);
        int room = hotel.room(0);
        due("README: room", room, 0);
        hotel.plant(0, 2, 5);
        hotel.stay(0, room, 0, 40);
        due("README: gets", hotel.gets(0, 0, 8), 2);
        due("README: can", hotel.can(1, 0), 0);
        due("README: why not", hotel.can(1, 2), 0);
        due("README: served", hotel.served(0), 2);
        hotel.feed(0x6d37_2874, 0x3d39_2900, 0, 0, 0);
        due("README: law", hotel.law(7), 1);
        due("README: served by it", hotel.served(0), 8);
        due("README: larger", hotel.larger(0), 35);
    }
}
