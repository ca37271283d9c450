/**
 * "Terms" of the document, sentence by sentence: each method has its sentence, shortened, above it,
 * and what is due there was reckoned by hand from that sentence.
 */
final class TermsTest {
    private static final int NONE = WeatherHotel.NONE;

    private TermsTest() {
    }

    public static void main(String[] args) {
        daysByKindsAndHours();
        daysByParts();
        numbersOfDays();
        faultsOfDays();
        roomsOnFloors();
        plant();
        pipes();
        cellar();
        stays();
        lawClauses();
        conditions();
        sums();
        thirtyTwoBits();
        refused();
        asMuchAsMatters();
        faultsOfLaws();
        servedHourByHour();
        missedAndHarm();
        canBeAtOnce();
        whyNot();
        theBest();
        theSmallest();
        costs();
        roomsForStays();
        shifting();
        larger();
        fair();
        drought();
        meter();
        drawn();
        keptAndUndone();
        checked();
        ownMemory();
        Ask.end();
    }

    private static void due(String what, long got, long want) {
        Ask.due(what, got, want);
    }

    private static void due(String what, boolean got, boolean want) {
        Ask.due(what, got, want);
    }

    private static int told(String text) {
        return Ask.day(new WeatherHotel(), 0, text);
    }

    private static int lawOf(String text) {
        return Ask.law(new WeatherHotel(), text);
    }

    // ---- "DAYS 0 to 11: of KINDS 0 RAIN, 1 WARMTH, 2 LIGHT so much in each HOUR (0 to 23; 0 to 99 each)"

    /** Each with an HOUR of its own. */
    private static WeatherHotel twelveDays() {
        WeatherHotel hotel = new WeatherHotel();
        for (int d = 0; d < 12; d++) {
            String hours = "(" + 2 * d + "-" + (2 * d + 1) + ")";
            due("DAY " + d, Ask.day(hotel, d, "l" + (d + 70) + hours + ";r" + d + hours + ";w" + (d + 40) + hours), 3);
        }
        return hotel;
    }

    private static void daysByKindsAndHours() {
        for (int d = 0; d < 12; d++) {
            WeatherHotel hotel = twelveDays();
            for (int hour = 0; hour < 24; hour++) {
                boolean isIts = hour == 2 * d;
                due("RAIN is KIND 0", hotel.dayIs(d, 0, hour), isIts ? d : 0);
                due("WARMTH is KIND 1", hotel.dayIs(d, 1, hour), isIts ? d + 40 : 0);
                due("LIGHT is KIND 2", hotel.dayIs(d, 2, hour), isIts ? d + 70 : 0);
            }
        }
        WeatherHotel hotel = new WeatherHotel();
        due("no DAY 12", Ask.day(hotel, 12, "r1(0-1)"), NONE);
        due("no DAY -1", hotel.day(-1, 7), NONE);
        due("99 of each at most", hotel.day(11, 7) == 1 && Ask.day(hotel, 11, "w99(3-4);w99(3-4)") == 2, true);
        due("99 of each at most", hotel.dayIs(11, 1, 3), 99);
    }

    // ---- "told by a TEXT of at most 120 bytes, no blanks: PARTS (14 at most) with a ; (59) between two: r, l or w (WARMTH), a number
    // (0 to 99), (, HOUR from (0 to 23), -, HOUR to (not with it; above from, 24 at most), ): so much more in these HOURS (99 at most)"

    private static void daysByParts() {
        WeatherHotel hotel = new WeatherHotel();
        String part = "w7(11-12);";
        due("120 bytes", Ask.day(hotel, 0, part.repeat(11) + "w07(11-12)"), 12);
        due("so much more", hotel.dayIs(0, 1, 11), 84);
        due("119 and a ; are 120", Ask.day(hotel, 1, part.repeat(12)), -1120);
        due("121 bytes", Ask.day(hotel, 1, "w07(11-12);" + part.repeat(10) + "w07(11-12)"), NONE);
        hotel = new WeatherHotel();
        due("no blanks", Ask.day(hotel, 0, "r1(0-1); r1(0-1)"), -1008);
        due("no blanks", Ask.day(hotel, 0, "r 1(0-1)"), -1001);
        due("14 PARTS", Ask.day(hotel, 0, "l2(0-2);".repeat(13) + "l2(1-3)"), 14);
        due("13 of them", hotel.dayIs(0, 2, 0), 26);
        due("all 14 of them", hotel.dayIs(0, 2, 1), 28);
        due("the last of them", hotel.dayIs(0, 2, 2), 2);
        due("not with HOUR to", hotel.dayIs(0, 2, 3), 0);
        Ask.feed(hotel, 'r', '1', '(', '0', '-', '1', ')', 59, 'r', '2', '(', '0', '-', '1', ')');
        due("a ; is 59", hotel.day(0, 15), 2);
        due("so much more", hotel.dayIs(0, 0, 0), 3);
        due("from 0, to 24", Ask.day(hotel, 0, "r99(0-24);r1(23-24);w0(0-1)"), 3);
        due("99 at most", hotel.dayIs(0, 0, 23), 99);
        due("nothing more", hotel.dayIs(0, 1, 0), 0);
        for (char letter = 0; letter < 256; letter++) {
            boolean isKind = letter == 'r' || letter == 'l' || letter == 'w';
            due("r, l or w, " + (int) letter, told(letter + "5(3-4)"), isKind ? 1 : -1000);
        }
        due("HOUR from 24", told("r1(24-24)"), -3003);
        due("HOUR to 25", told("r1(23-25)"), -3006);
        due("HOUR to as from", told("r1(23-23)"), -3006);
        due("HOUR to below from", told("r1(23-22)"), -3006);
    }

    // ---- "Numbers have one or two digits."

    private static void numbersOfDays() {
        WeatherHotel hotel = new WeatherHotel();
        due("one and two digits", Ask.day(hotel, 0, "r6(4-05);r06(04-5);w66(10-11)"), 3);
        due("06 is 6", hotel.dayIs(0, 0, 4), 12);
        due("66", hotel.dayIs(0, 1, 10), 66);
        due("no digit of so much", told("r(4-5)"), -1001);
        due("no digit of HOUR from", told("r6(-5)"), -1003);
        due("no digit of HOUR to", told("r6(4-)"), -1005);
        due("three digits of so much", told("r006(4-5)"), -1003);
        due("three digits of HOUR from", told("r6(004-5)"), -1005);
        due("three digits of HOUR to", told("r6(4-005)"), -3005);
        due("three digits of HOUR to", told("r6(4-050)"), -1007);
    }

    // ---- "FAULTS, the first from the left: 1 what can't stand there (the end, too; a third digit is one); 3 an HOUR that can't be, at its
    // first digit (asked when its digits end, behind two at the latest); 4 a 15th PART, at its letter."

    private static void faultsOfDays() {
        Object[][] faults = {
            {"w5(7-9)w5(7-9)", -1007}, {"w5(7-9", -1006}, {"w5(7", -1004}, {"w123(7-9)", -1003}, {"w5(7-9);", -1008}, {";w5(7-9)", -1000},
            {"w5(77-9)", -3003}, {"w5(7-7)", -3005}, {"w5(7-77)", -3005}, {"w5(770-9)", -3003}, {"w5(7-6", -3005}, {"w5(7-25", -3005},
            {"w5(7-1", -3005}, {"w5(7-10", -1007}, {"w5(7-1a", -3005}, {"w5(24", -3003}, {"w5(2", -1004}, {"w5(30-2);x", -3003},
            {"w500(30-2)", -1003}, {"w5(7-9);l5(9-8);x5(7-9)", -3013}, {"w5(7-9);x5(9-8)", -1008},
        };
        for (Object[] fault : faults) {
            due("DAY " + fault[0], told((String) fault[0]), (Integer) fault[1]);
        }
        String fourteen = "w5(7-9);".repeat(14);
        due("a 15th PART, at its letter", told(fourteen + "l5(7-9)"), -4112);
        due("what can't stand there in its place", told(fourteen + "5(7-9)"), -1112);
        due("the end in its place", told(fourteen), -1112);
        due("a FAULT ahead of it", told("w5(7-7);" + fourteen.substring(8) + "l"), -3005);
    }

    // ---- "ROOMS 0 to 9, each on a FLOOR (0 to 3)."

    private static void roomsOnFloors() {
        WeatherHotel hotel = new WeatherHotel();
        int[] floors = {3, 0, 2, 1, 1, 2, 0, 3, 3, 0};
        for (int r = 0; r < 10; r++) {
            due("ROOM " + r, hotel.room(floors[r]), r);
        }
        due("no ROOM 10", hotel.room(0), NONE);
        for (int r = 0; r < 10; r++) {
            due("its FLOOR", hotel.count(50 + r), floors[r]);
        }
        due("no FLOOR 4", new WeatherHotel().room(4), NONE);
        due("no FLOOR -1", new WeatherHotel().room(-1), NONE);
    }

    // ---- "PLANT: of each KIND so much in an HOUR at most (0 to 999; 0 at first), one more of it costs so many pence (0 to 999; 0 at first)."

    private static void plant() {
        WeatherHotel hotel = Hotels.withStays("r8(2-4);w8(2-4);l8(2-4)", "r8(3-4);w8(3-4);l8(3-4)");
        due("0 at first", hotel.served(2), 3 * 24);
        due("0 pence at first", hotel.larger(0), 200);
        hotel.plant(0, 9, 1);
        hotel.plant(1, 10, 2);
        hotel.plant(2, 11, 4);
        for (int kind = 0; kind < 3; kind++) {
            due("so much in an HOUR", hotel.gets(0, kind, 2), 8);
            due("so much in each HOUR anew", hotel.gets(0, kind, 3), 8);
            due("of each KIND its own", hotel.gets(1, kind, 3), 1 + kind);
        }
        due("one more costs so many pence", hotel.larger(0), 200 - 7 * 1 - 6 * 2 - 5 * 4);
        due("999 and 999", hotel.plant(2, 999, 999), true);
        due("not 1000 of it", hotel.plant(2, 1000, 0), false);
        due("not 1000 pence", hotel.plant(2, 0, 1000), false);
        due("not less than 0", hotel.plant(2, -1, 0) || hotel.plant(2, 0, -1), false);
        due("all else as told", hotel.gets(1, 2, 3), 8);
    }

    // ---- "PIPES: so much RAIN in an HOUR at most on a FLOOR (0 to 999; 999 at first)."

    private static void pipes() {
        WeatherHotel hotel = Hotels.withStays("r8(2-4);l8(2-4)", "r8(2-4)", "r8(2-4)", "r8(2-4)", "r8(2-4)");
        Hotels.plenty(hotel);
        due("999 at first", hotel.served(2), 0);
        for (int floor = 0; floor < 4; floor++) {
            due("PIPES", hotel.pipes(floor, 4 + floor), true);
        }
        for (int hour = 2; hour < 4; hour++) {
            for (int floor = 0; floor < 4; floor++) {
                due("so much RAIN on FLOOR " + floor, hotel.gets(floor, 0, hour), 4 + floor);
            }
            due("nothing left on FLOOR 0", hotel.gets(4, 0, hour), 0);
            due("LIGHT needs no PIPES", hotel.gets(0, 2, hour), 8);
        }
        due("0 and 999", hotel.pipes(0, 0) && hotel.pipes(3, 999), true);
        due("not 1000, not -1", hotel.pipes(0, 1000) || hotel.pipes(0, -1), false);
    }

    // ---- "CELLAR: water at first (0 to 9999; 9999 at first), what comes ahead of each HOUR (0 to 99; 0 at first), 9999 at most."

    private static void cellar() {
        WeatherHotel hotel = Hotels.withStays("r90(0-2);r90(23-24)");
        Hotels.plenty(hotel);
        due("9999 at first, nothing comes", hotel.served(1), 9999 - 270);
        due("none at first, 50 come", hotel.cellar(0, 50), true);
        due("ahead of HOUR 0", hotel.gets(0, 0, 0), 50);
        due("ahead of HOUR 1", hotel.gets(0, 0, 1), 50);
        due("ahead of each HOUR", hotel.served(1), 22 * 50 - 90);
        hotel.cellar(9999, 99);
        due("9999 at most, used in the last HOUR", hotel.served(1), 9909);
        hotel.cellar(9998, 99);
        hotel.leave(0);
        due("9999 at most", hotel.served(1), 9999);
        due("not 10000, not 100", hotel.cellar(10000, 0) || hotel.cellar(0, 100), false);
        due("not -1", hotel.cellar(-1, 0) || hotel.cellar(0, -1), false);
    }

    // ---- "STAYS 0 to 9: a ROOM (no two STAYS in one), a DAY, a PRICE (0 to 999), SHIFTED by so many HOURS (-3 to 3; 0 at first: what the DAY
    // has in an HOUR is wanted so many HOURS later, round the day)."

    private static void stays() {
        WeatherHotel hotel = Hotels.withRooms(10);
        Ask.day(hotel, 4, "r9(1-2);l5(22-23)");
        for (int b = 0; b < 10; b++) {
            due("STAY " + b, hotel.stay(b, 9 - b, 4, 111 * b), true);
            due("0 HOURS at first", hotel.count(40 + b), 3);
        }
        due("no STAY 10", hotel.stay(10, 0, 4, 0), false);
        due("no two STAYS in one ROOM", hotel.stay(3, 0, 4, 0), false);
        due("a PRICE up to 999", hotel.stay(3, 6, 4, 999) && !hotel.stay(3, 6, 4, 1000) && !hotel.stay(3, 6, 4, -1), true);
        for (int b = 1; b < 10; b++) {
            hotel.leave(b);
        }
        for (int hours = -3; hours <= 3; hours++) {
            due("SHIFTED", hotel.shift(0, hours), true);
            due("so many HOURS later", hotel.wants(0, (25 + hours) % 24), 9);
            due("round the day", hotel.wants(2, (22 + hours) % 24), 5);
        }
        due("-3 to 3", hotel.shift(0, 4) || hotel.shift(0, -4), false);
        hotel.stay(0, 9, 4, 0);
        due("0 HOURS at first", hotel.wants(0, 1), 9);
    }

    // ---- "THE LAW: a TEXT of at most 160 bytes, no blanks (none at first): CLAUSES (12 at most) with a ; (59) between two: p, E and (C): how
    // soon a STAY is served (0 to 999); m, E and (C): the HARM of one that is missed (0 to 99; none: 1); of each the E of the first CLAUSE
    // whose C holds (beyond its bounds the bound; none, but where told: 0)."

    /** HARM of one of LIGHT that STAY 4 (ROOM 6, FLOOR 2, DAY 7, PRICE 55) misses of three in HOUR 9. */
    private static int harmBy(String law) {
        WeatherHotel hotel = Hotels.withRooms(7);
        Ask.day(hotel, 7, "l3(9-10)");
        hotel.plant(2, 2, 0);
        hotel.stay(4, 6, 7, 55);
        due("a LAW: " + law, Ask.law(hotel, law) > 0, true);
        return hotel.served(0);
    }

    /** Which of three like STAYS is served first. */
    private static int firstBy(String law) {
        WeatherHotel hotel = Hotels.withStays(Hotels.times(3, "r3(0-1);w1(0-1);l4(0-1)"));
        hotel.plant(1, 1, 0);
        due("a LAW: " + law, Ask.law(hotel, law) > 0, true);
        return hotel.gets(0, 1, 0) == 1 ? 0 : hotel.gets(1, 1, 0) == 1 ? 1 : 2;
    }

    private static void lawClauses() {
        due("none at first", new WeatherHotel().count(3), 0);
        due("160 bytes", lawOf("m1(1=1);".repeat(11) + "m" + "1+".repeat(32) + "11(1=1)"), 12);
        due("161 bytes", lawOf("m1(1=1);".repeat(11) + "m" + "1+".repeat(33) + "1(1=1)"), NONE);
        due("no blanks", lawOf("m1 (1=1)"), -1002);
        due("12 CLAUSES", lawOf("m1(1=1);".repeat(11) + "p1(1=1)"), 12);
        WeatherHotel hotel = new WeatherHotel();
        Ask.feed(hotel, 'm', '1', '(', '1', '=', '1', ')', 59, 'p', '1', '(', '1', '=', '1', ')');
        due("a ; is 59", hotel.law(15), 2);
        for (char letter = 0; letter < 256; letter++) {
            due("p or m, " + (int) letter, lawOf(letter + "1(1=1)"), letter == 'p' || letter == 'm' ? 1 : -1000);
        }
        due("the HARM of one", harmBy("m42(1=1)"), 42);
        due("none: 1", harmBy("m42(1=2);p7(1=1)"), 1);
        due("the first CLAUSE whose C holds", harmBy("p3(1=1);m40(1=2);m41(1=1);m42(1=1)"), 41);
        due("99", harmBy("m99(1=1)"), 99);
        due("beyond its bounds the bound", harmBy("m100(1=1)"), 99);
        due("beyond its bounds the bound", harmBy("m1-2(1=1)"), 0);
        due("most p first", firstBy("p5(s=0);p7(s=1);p6(s=2)"), 1);
        due("none of p is 0", firstBy("p0(s=0);p1(s=2)"), 2);
        due("none of p is 0, not 1", firstBy("p1(s=2);m9(1=1)"), 2);
        due("999", firstBy("p998(s=0);p999(s=2)"), 2);
        due("beyond its bounds the bound", firstBy("p1000(s=2);p999(s=1)"), 1);
        due("beyond its bounds the bound", firstBy("p0-1(s=0);p0(1=1)"), 0);
        due("the first CLAUSE whose C holds", firstBy("p3(s=1);p2(s=2);p9(1=2);p1(1=1)"), 1);
    }

    // ---- "C: PARTS with a | between two, one of which must hold; a PART: PIECES with an & between two, all of which must; a PIECE: !PIECE, (C),
    // or E, one of < > =, and E."

    private static void conditions() {
        String[] pieces = {"1=2", "1=1"};
        for (int bits = 0; bits < 8; bits++) {
            String a = pieces[bits & 1];
            String b = pieces[bits >> 1 & 1];
            String c = pieces[bits >> 2];
            boolean ha = (bits & 1) == 1;
            boolean hb = (bits >> 1 & 1) == 1;
            boolean hc = bits >> 2 == 1;
            holds(a + "|" + b + "|" + c, ha || hb || hc);
            holds(a + "&" + b + "&" + c, ha && hb && hc);
            holds(a + "|" + b + "&" + c, ha || hb && hc);
            holds(a + "&" + b + "|" + c, ha && hb || hc);
            holds("(" + a + "|" + b + ")&" + c, (ha || hb) && hc);
            holds("!" + a + "&" + b + "|" + c, !ha && hb || hc);
            holds("!(" + a + "&" + b + ")|" + c, !(ha && hb) || hc);
            holds("!!" + a + "&!(!" + b + "|!" + c + ")", ha && hb && hc);
        }
        for (int left = 0; left < 3; left++) {
            for (int right = 0; right < 3; right++) {
                holds(left + "<" + right, left < right);
                holds(left + ">" + right, left > right);
                holds(left + "=" + right, left == right);
                holds("!" + left + "<" + right, left >= right);
            }
        }
        due("no two signs", lawOf("m1(1<=2)"), -1005);
        due("no E alone", lawOf("m1(1)"), -1004);
        due("no C between two E", lawOf("m1((1=1)=1)"), -1008);
    }

    private static void holds(String condition, boolean want) {
        due(condition, harmBy("m7(" + condition + ");m3(1=1)"), want ? 7 : 3);
    }

    // ---- "E: TERMS with + or - between two; a TERM: FACTORS with one of * / % between two; from the left on; a FACTOR: [E], a number of one to
    // five digits, or a letter: s the STAY, r its ROOM, f its FLOOR, d its DAY, c its PRICE, t the HOUR; k the KIND, n how much of it is wanted,
    // g how much of that is missed (in p k n g are 0)."

    private static void sums() {
        Object[][] harms = {
            {"s", 4}, {"r", 6}, {"f", 2}, {"d", 7}, {"c", 55}, {"t", 9}, {"k", 2}, {"n", 3}, {"g", 1},
            {"9-5-3", 1}, {"9-5+3", 7}, {"90/9/2", 5}, {"90/9*2", 20}, {"90*2/9", 20}, {"90%50/9", 4}, {"90/50%9", 1}, {"2*90%50", 30},
            {"1+2*3", 7}, {"1*2+3", 5}, {"[1+2]*3", 9}, {"9-[5-3]", 7}, {"80/[8/2]", 20}, {"9-8/2*2+1", 2}, {"7", 7}, {"00007", 7},
            {"99999-99990", 9}, {"[[[7]]]", 7}, {"r*s+d-t%f", 30},
        };
        for (Object[] harm : harms) {
            due("E " + harm[0], harmBy("m" + harm[0] + "(1=1)"), (Integer) harm[1]);
            holds("0+" + harm[0] + "=" + harm[1], true);
        }
        String letters = "srfdctkng";
        for (char letter = 'a'; letter <= 'z'; letter++) {
            due("a letter " + letter, lawOf("m" + letter + "(1=1)"), letters.indexOf(letter) >= 0 ? 1 : -1001);
        }
        due("k n g are 0 in p", firstBy("p7(s=2&k=0&n=0&g=0);p6+k+n+g(s=1);p6(s=0)"), 2);
        due("k n g are 0 in p", firstBy("p5+k*9+n*9+g*9(s=1);p6(s=2)"), 2);
        due("k n g are 0 in p", firstBy("p9(s=0&n>0);p9(s=1&g>0);p1(s=2)"), 2);
        due("a STAY's own letters in p", firstBy("p9(s=2&r=2&f=2&d=2&c=100&t=0)"), 2);
    }

    // ---- "All is reckoned with 32 bits, as the machine does;"

    private static void thirtyTwoBits() {
        holds("65536*32768<0", true);
        holds("65536*32768-1>0", true);
        holds("65536*65536=0", true);
        holds("99999*99999=[99999*99999+65536*65536]", true);
        holds("[0-7]/2=0-3", true);
        holds("[0-7]%2=0-1", true);
        holds("65536*32768/[0-1]=65536*32768", true);
        holds("65536*32768%[0-1]=0", true);
        due("99999 times 99999 is 1409865409", harmBy("m99999*99999-99999*14098-79507(1=1)"), 0);
        due("99999 times 99999 is 1409865409", harmBy("m99999*99999%10000/100(1=1)"), 54);
    }

    // ---- "what is divided by 0 is REFUSED: then a C does not hold, an E is 0."

    private static void refused() {
        Object[][] harms = {
            {"m7/0(1=1)", 0}, {"m7%0(1=1)", 0}, {"m7+7/[s-4](1=1)", 0}, {"m7/0(1=1);m5(1=1)", 0}, {"m7(1/0=0);m5(1=1)", 5},
            {"m7(1%0=0);m5(1=1)", 5}, {"m7(!1/0=0);m5(1=1)", 5}, {"m7(1=1/[t-9]);m5(1=1)", 5}, {"m7/0(1=2);m5(1=1)", 5},
            {"m0/7+5(1=1)", 5}, {"m0%7+5(1=1)", 5},
        };
        for (Object[] harm : harms) {
            due((String) harm[0], harmBy((String) harm[0]), (Integer) harm[1]);
        }
        due("an E of p is 0", firstBy("p9/0(s=1);p1(s=2)"), 2);
        due("a C of p does not hold", firstBy("p9(s=1&1/0=0);p1(s=2)"), 2);
    }

    // ---- "Of a C as much is asked, from the left, as matters."

    private static void asMuchAsMatters() {
        holds("1=1|1/0=0", true);
        holds("1/0=0|1=1", false);
        holds("1=2&1/0=0|1=1", true);
        holds("1=1&1/0=0|1=1", false);
        holds("1=2|1=1|1/0=0", true);
        holds("!(1=2&1/0=0)", true);
        holds("(1=1|1/0=0)&(1=2|1=1)", true);
        holds("(1=2|1/0=0)&1=2", false);
        holds("!(1=2&(1/0=0|1=1))&1=1", true);
    }

    // ---- "FAULTS, the first from the left: 1 what can't stand there (the end, too); 2 a sixth digit, at it; 4 a 13th CLAUSE, at its letter (if
    // that can stand there); 5 a seventh of ( [ ! that are open in one another, at it (the ( of the CLAUSE counts; a ! is open till its PIECE
    // ends; the E of a CLAUSE stands ahead of it)."

    private static void faultsOfLaws() {
        Object[][] faults = {
            {"x", -1000}, {"m", -1001}, {"m)", -1001}, {"m1", -1002}, {"m1;", -1002}, {"m1(1=1", -1006}, {"m1(1=1)m", -1007}, {"m1(1=1);", -1008},
            {"m123456(1=1)", -2006}, {"m1(1=123456)", -2010}, {"m123456", -2006}, {"m12345", -1006}, {"m1(1==1);123456", -1005},
            {"m1(((((((1=1", -5008}, {"m1((((((1=1", -1011}, {"m1(!!!!!!1=1", -5008}, {"m1([[[[[[1", -5008}, {"m[[[[[[[1", -5007},
            {"m1(!([![", -1006}, {"m1(!(!(![", -5008}, {"m1(!(!([[", -5008}, {"m1(!(!(1=[[", -5010}, {"m[[[[[[1]]]]]](((((((", -5020},
            {"m1(!!!!!1=1&!!!!!!", -5017}, {"m1((((((1=1)))))&((((((", -5022}, {"m1([[[[[1]]]]]=[[[[[[", -5020}, {"m123456(((((((", -2006},
        };
        for (Object[] fault : faults) {
            due("LAW " + fault[0], lawOf((String) fault[0]), (Integer) fault[1]);
        }
        String twelve = "m1(1=1);".repeat(12);
        due("a 13th CLAUSE, at its letter", lawOf(twelve + "p1(1=1)"), -4096);
        due("a 13th CLAUSE, at its letter", lawOf(twelve + "mx"), -4096);
        due("what can't stand there", lawOf(twelve + "x"), -1096);
        due("the end", lawOf(twelve), -1096);
        due("six that are open, often", lawOf("m[[[[[[1]]]]]]((((((1=1)))))&!!!!!1=1)"), 1);
        due("a ! ends with its PIECE", lawOf("m1(!!!!!1=1&!!!!!1=1|(((((1=1))))))"), 1);
    }

    // ---- "SERVED: HOUR by HOUR: water comes; STAYS with most p first (asked in this HOUR; of like ones the lowest), one behind the other: of RAIN
    // what it wants, as far as PLANT, its FLOOR's PIPES and CELLAR have (that leaves the CELLAR); of WARMTH and LIGHT as far as PLANT has."

    /** STAYS 0 and 2 on FLOOR 0, STAY 1 on FLOOR 1, all with the same DAY. */
    private static WeatherHotel threeInDrought() {
        WeatherHotel hotel = new WeatherHotel();
        hotel.room(0);
        hotel.room(1);
        hotel.room(0);
        Ask.day(hotel, 0, "r6(0-2);w3(0-1)");
        hotel.stay(0, 0, 0, 50);
        hotel.stay(1, 1, 0, 70);
        hotel.stay(2, 2, 0, 50);
        hotel.plant(0, 14, 5);
        hotel.plant(1, 7, 2);
        hotel.pipes(0, 9);
        hotel.cellar(10, 2);
        return hotel;
    }

    private static void servedHourByHour() {
        WeatherHotel hotel = threeInDrought();
        Ask.law(hotel, "p5(s=2);p1(s=1&t=1)");
        // In HOUR 0 there are 12 in the CELLAR and 2 is first, then 0, then 1; in HOUR 1 there are 2, and 1 is ahead of 0.
        int[][] gets = {{2, 0, 0, 6}, {0, 0, 0, 3}, {1, 0, 0, 3}, {2, 0, 1, 2}, {1, 0, 1, 0}, {0, 0, 1, 0}, {2, 1, 0, 3}, {0, 1, 0, 3}, {1, 1, 0, 1}};
        for (int[] ask : gets) {
            due("STAY " + ask[0] + " gets of " + ask[1] + " in " + ask[2], hotel.gets(ask[0], ask[1], ask[2]), ask[3]);
        }
        due("what comes in 22 HOURS", hotel.served(1), 44);
        hotel.cellar(24, 2);
        // Now 26 in HOUR 0, of which 9 go to FLOOR 0 and 5 (of PLANT's 14) to FLOOR 1, then 14 in HOUR 1: 2 takes 6, 1 takes 6, 0 takes 2 of PLANT's 14.
        int[][] more = {{2, 0, 0, 6}, {0, 0, 0, 3}, {1, 0, 0, 5}, {2, 0, 1, 6}, {1, 0, 1, 6}, {0, 0, 1, 2}};
        for (int[] ask : more) {
            due("with more water STAY " + ask[0] + " gets in " + ask[2], hotel.gets(ask[0], ask[1], ask[2]), ask[3]);
        }
        Ask.law(hotel, "p3(1=1)");
        due("of like ones the lowest", hotel.gets(0, 0, 0) * 100 + hotel.gets(1, 0, 0) * 10 + hotel.gets(2, 0, 0), 662);
    }

    // ---- "MISSED is what is wanted and not given; HARM: m for each one missed (asked for STAY, HOUR, KIND; times g), all together."

    private static void missedAndHarm() {
        WeatherHotel hotel = threeInDrought();
        Ask.law(hotel, "p5(s=2);p1(s=1&t=1);m2(k=1);mg(s=0);m7(t=1&n-g=2)");
        due("MISSED of 0", hotel.served(10), 3 + 6);
        due("MISSED of 1", hotel.served(11), 3 + 2 + 6);
        due("MISSED of 2", hotel.served(12), 4);
        due("MISSED of all", hotel.served(2), 24);
        // 0: 3 of RAIN by 3, then 6 by 6; 1: 3 and 6 of RAIN by 1, 2 of WARMTH by 2; 2: 4 of RAIN by 7.
        due("HARM", hotel.served(0), 9 + 36 + 3 + 6 + 4 + 28);
    }

    // ---- "CAN a set of STAYS be at once (none else being there): nothing MISSED."

    private static void canBeAtOnce() {
        WeatherHotel hotel = threeInDrought();
        Ask.law(hotel, "m0(1=1)");
        int[] can = {-3, 1, 1, 0, 1, 0, 0, 0};
        for (int set = 0; set < 8; set++) {
            due("CAN " + set, hotel.can(set, 0), can[set]);
        }
        hotel.cellar(22, 2);
        due("just enough water for 0 and 1", hotel.can(3, 0), 1);
        due("but the PIPES for 0 and 2", hotel.can(5, 0), 0);
        hotel.cellar(19, 2);
        due("one too few", hotel.can(3, 0), 0);
        hotel.cellar(20, 2);
        due("just enough", hotel.can(3, 0), 1);
    }

    // ---- "If not: the first HOUR in which all they want is too much, and why: 0 to 2 of that KIND for PLANT, 3 + f of RAIN for PIPES of FLOOR f,
    // 7 for the CELLAR (the least of these; water being used as wanted in all HOURS ahead)."

    private static void whyNot() {
        WeatherHotel hotel = threeInDrought();
        due("all three: PLANT, in HOUR 0", hotel.can(7, 1) * 10 + hotel.can(7, 2), 0);
        due("0 and 2: PIPES of FLOOR 0, in HOUR 0", hotel.can(5, 1) * 10 + hotel.can(5, 2), 3);
        due("1 and 2: the CELLAR, in HOUR 1", hotel.can(6, 1) * 10 + hotel.can(6, 2), 17);
        due("2 can", hotel.can(4, 1) + hotel.can(4, 2), -4);
        hotel.plant(0, 18, 0);
        due("all three: WARMTH ahead of PIPES", hotel.can(7, 2), 1);
        hotel.plant(1, 9, 0);
        due("all three: PIPES of FLOOR 0", hotel.can(7, 2), 3);
        hotel.pipes(0, 12);
        hotel.pipes(1, 5);
        due("all three: PIPES of FLOOR 1", hotel.can(7, 2), 4);
        hotel.pipes(1, 6);
        due("all three: the CELLAR in HOUR 0", hotel.can(7, 1) * 10 + hotel.can(7, 2), 7);
        hotel.cellar(16, 2);
        due("all three: the CELLAR in HOUR 1", hotel.can(7, 1) * 10 + hotel.can(7, 2), 17);
        hotel.cellar(32, 2);
        due("all three can", hotel.can(7, 1), -2);
        // What can't be had in HOUR 0 is still used as wanted: the first HOUR is told, not a later one with a lesser why.
        WeatherHotel late = Hotels.withStays("l1(5-6);r9(4-5)");
        late.plant(0, 9, 0);
        late.cellar(8, 0);
        due("the first HOUR, though LIGHT is less", late.can(1, 1) * 10 + late.can(1, 2), 47);
        Ask.day(late, 0, "l1(4-5);r9(4-5)");
        due("in one HOUR the least", late.can(1, 1) * 10 + late.can(1, 2), 42);
    }

    // ---- "THE BEST set: of all STAYS that CAN be at once that of most PRICES; of like ones of fewest STAYS; of like ones the least set."

    private static void theBest() {
        WeatherHotel hotel = threeInDrought();
        due("STAY 1 alone", hotel.best(1) * 1000 + hotel.best(0), 2070);
        hotel.cellar(22, 2);
        due("of like ones the least set", hotel.best(1) * 1000 + hotel.best(0), 3120);
        hotel.stay(2, 2, 0, 51);
        due("of most PRICES", hotel.best(1) * 1000 + hotel.best(0), 6121);
        hotel.stay(1, 1, 0, 0);
        due("of fewest STAYS", hotel.best(1) * 1000 + hotel.best(0), 4051);
        hotel.stay(2, 2, 0, 50);
        due("of like ones the least set", hotel.best(1) * 1000 + hotel.best(0), 1050);
        hotel.stay(0, 0, 0, 20);
        hotel.stay(1, 1, 0, 30);
        hotel.cellar(24, 0);
        Ask.day(hotel, 1, "r9(0-2)");
        hotel.stay(2, 2, 1, 49);
        due("0 and 1", hotel.best(1) * 1000 + hotel.best(0), 3050);
        hotel.stay(2, 2, 1, 50);
        due("of like ones of fewest STAYS: 2, though 0 and 1 are a lesser set", hotel.best(1) * 1000 + hotel.best(0), 4050);
    }

    // ---- "THE SMALLEST that can't: of fewest STAYS; of like ones the least."

    private static void theSmallest() {
        WeatherHotel hotel = threeInDrought();
        due("0 and 1, as 0 and 2 and 1 and 2 can't either", hotel.smallest(), 3);
        hotel.cellar(22, 2);
        due("0 and 2", hotel.smallest(), 5);
        hotel.pipes(0, 12);
        due("all three", hotel.smallest(), 7);
        hotel.pipes(1, 5);
        due("1 alone", hotel.smallest(), 2);
        hotel.leave(1);
        due("0 and 2 can", hotel.smallest(), 0);
        WeatherHotel last = Hotels.withStays("w5(0-1)", "w5(0-1)", "w9(0-1)");
        last.plant(1, 8, 0);
        due("of fewest STAYS: 2, though 0 and 1 are a lesser set", last.smallest(), 4);
    }

    // ---- "COSTS of a STAY to the others: PRICES of THE BEST set of all others, less those of THE BEST set of all without the PRICE of this one (if
    // it is in it)."

    private static void costs() {
        WeatherHotel hotel = threeInDrought();
        due("1 is THE BEST set", hotel.costs(1), 50);
        due("0 is not in it", hotel.costs(0), 0);
        hotel.cellar(22, 2);
        due("0 of 0 and 1, in place of 2", hotel.costs(0), 120 - 70);
        due("1 of 0 and 1: one of the others can alone", hotel.costs(1), 50 - 50);
        due("2 is not in it", hotel.costs(2), 120 - 120);
        due("no STAY 3", hotel.costs(3), -1000000);
    }

    // ---- "ROOMS for STAYS: told STAYS (1 to 6) in told ROOMS (as many; no other STAY in one of them), one in each, so that all STAYS CAN be at
    // once: the least row of ROOMS by STAYS."

    private static void roomsForStays() {
        WeatherHotel hotel = Hotels.withStays("r4(0-1)", "r6(0-1)", "r5(0-1)");
        // FLOOR 0 has ROOMS 0 and 4, FLOOR 1 has 1 and 5, FLOOR 2 has 2, FLOOR 3 has 3.
        hotel.room(3);
        hotel.room(0);
        hotel.room(1);
        hotel.plant(0, 15, 0);
        for (int floor = 0; floor < 4; floor++) {
            hotel.pipes(floor, 9 + floor % 2);
        }
        due("the least row is 1 5 for 0 and 1", Ask.rooms(hotel, 3, 0, 5, 1) * 10 + Ask.rooms(hotel, 3, 1, 5, 1), 15);
        due("4 and 6 are too much for FLOOR 0", Ask.rooms(hotel, 3, 10, 4, 0), 0);
        due("nobody is moved then", hotel.count(10) * 10 + hotel.count(11), 1);
        due("the least row is 3 4", Ask.rooms(hotel, 3, 0, 4, 3) * 10 + Ask.rooms(hotel, 3, 1, 4, 3), 34);
        hotel.pipes(0, 5);
        due("6 are too much for FLOOR 0 now, 4 are not", Ask.rooms(hotel, 3, 0, 4, 3) * 10 + Ask.rooms(hotel, 3, 1, 4, 3), 43);
        hotel.pipes(0, 9);
        due("4 and 5 may be on FLOOR 0, 6 and 5 not", Ask.rooms(hotel, 7, 0, 4, 0, 1) * 100
                + Ask.rooms(hotel, 7, 1, 4, 0, 1) * 10 + Ask.rooms(hotel, 7, 2, 4, 0, 1), 14);
        due("another STAY's ROOM", Ask.rooms(hotel, 3, 0, 2, 3), -3);
        due("with 2, who must do as well", Ask.rooms(hotel, 2, 1, 5), 5);
        hotel.plant(0, 14, 0);
        due("all STAYS must", Ask.rooms(hotel, 2, 1, 5), -2);
        hotel.plant(0, 15, 0);
        due("it is so then", Ask.rooms(hotel, 7, 10, 5, 3, 4), 1);
        due("it is so then", hotel.count(10) * 100 + hotel.count(11) * 10 + hotel.count(12), 345);
        due("as many ROOMS as STAYS", Ask.rooms(hotel, 7, 10, 0, 1), NONE);
        due("as many STAYS as ROOMS", hotel.rooms(1, 2, 10), NONE);
        WeatherHotel seven = Hotels.withStays(Hotels.times(7, "l0(0-1)"));
        due("1 to 6 STAYS", Ask.rooms(seven, 127, 10, 0, 1, 2, 3, 4, 5, 6), NONE);
        due("one in each", seven.rooms(63, 6, 5), 5);
        due("one in each: a ROOM twice", Ask.rooms(seven, 3, 10, 0, 0), -3);
    }

    // ---- "SHIFTING by at most k (1 to 2) HOURS each from what it is (within -3 to 3): told STAYS (1 to 5), so that all STAYS CAN be at once: fewest
    // HOURS together; of like ones the least row."

    private static void shifting() {
        WeatherHotel hotel = Hotels.withStays("w5(10-12)", "w5(11-13)", "w5(20-21)");
        hotel.plant(1, 5, 0);
        due("one HOUR", hotel.shifting(3, 1, 10), 1);
        due("of like ones the least row: -1 0", hotel.shifting(3, 1, 0) * 10 + hotel.shifting(3, 1, 1), 23);
        due("1 alone must come later", hotel.shifting(2, 1, 1), 4);
        due("2 alone is no help", hotel.shifting(4, 2, 10), -2);
        hotel.shift(0, -3);
        hotel.shift(1, -3);
        due("0 can't go below -3", hotel.shifting(1, 2, 10), -2);
        due("so 1 goes", hotel.shifting(3, 2, 0) * 10 + hotel.shifting(3, 2, 1), 1);
        hotel.shift(0, 3);
        hotel.shift(1, 3);
        due("1 can't go above 3", hotel.shifting(2, 2, 10), -2);
        due("so 0 goes", hotel.shifting(3, 2, 0) * 10 + hotel.shifting(3, 2, 1), 56);
        hotel.shift(0, 1);
        hotel.shift(1, 0);
        due("from what it is: 1 0 is two HOURS too near", hotel.shifting(3, 2, 10), 2);
        due("the least row: -1 0", hotel.shifting(3, 2, 0) * 10 + hotel.shifting(3, 2, 1), 23);
        due("with k 1: 0 1", hotel.shifting(3, 1, 0) * 10 + hotel.shifting(3, 1, 1), 34);
        due("it is so then", hotel.shifting(3, 1, 11) * 100 + hotel.count(40) * 10 + hotel.count(41), 234);
        due("k 0 and 3", hotel.shifting(3, 0, 10) + hotel.shifting(3, 3, 10), 2 * NONE);
        WeatherHotel six = Hotels.withStays(Hotels.times(6, "l0(0-1)"));
        due("1 to 5 STAYS", six.shifting(63, 1, 10) * 10 + six.shifting(62, 1, 10), 10 * NONE);
    }

    // ---- "LARGER: a set of STAYS and as much more PLANT as it takes (PIPES and CELLAR must do): PRICES less what that costs: most; of like ones of
    // fewest STAYS; of like ones the least set."

    private static void larger() {
        WeatherHotel hotel = threeInDrought();
        due("1 alone, as no two have water", hotel.larger(1) * 1000 + hotel.larger(0), 2070);
        hotel.cellar(34, 2);
        due("0 and 1, as 0 and 2 have no PIPES", hotel.larger(1) * 1000 + hotel.larger(0), 3120);
        due("PLANT is large enough for two", hotel.larger(2) + hotel.larger(3) + hotel.larger(4), 0);
        hotel.pipes(0, 12);
        // All three want 18 of RAIN and 9 of WARMTH: 4 more for 5 pence each and 2 more for 2.
        due("all three", hotel.larger(1) * 1000 + hotel.larger(0), 7000 + 170 - 24);
        due("more of RAIN, WARMTH and LIGHT", hotel.larger(2) * 100 + hotel.larger(3) * 10 + hotel.larger(4), 420);
        hotel.plant(1, 7, 15);
        due("a third one brings nothing: 0 and 1", hotel.larger(1) * 1000 + hotel.larger(0), 3120);
        hotel.plant(1, 7, 14);
        due("it brings 2", hotel.larger(1) * 1000 + hotel.larger(0), 7122);
    }

    // ---- "FAIR: what PLANT costs that is as large as STAYS of a set want it at most (from 0 on): the SHARE of each of the told STAYS (1 to 8): over
    // all orders what it costs more when it comes, on the mean."

    private static void fair() {
        WeatherHotel hotel = Hotels.withStays("r6(0-1)", "r4(0-1)", "r9(5-6);l2(5-6)");
        hotel.plant(0, 500, 1);
        hotel.plant(2, 500, 10);
        // What sets cost: 0: 6, 1: 4, 0 and 1: 10, 2: 29, 0 and 2: 29, 1 and 2: 29, all: 30.
        // STAY 0: first 6 (twice), behind 1: 6, behind 2: 0, last: 1 (twice), so 20 / 6; 1: 4, 4, 4, 0, 1, 1: 14 / 6; 2: 29, 29, 23, 25, 20, 20: 146 / 6.
        long[][] shares = {{10, 3}, {7, 3}, {73, 3}};
        for (int b = 0; b < 3; b++) {
            due("above the line " + b, hotel.fair(7, b, 0), shares[b][0]);
            due("below the line " + b, hotel.fair(7, b, 1), shares[b][1]);
        }
        due("from 0 on", hotel.fair(4, 2, 0), 29);
        due("two in one HOUR", hotel.fair(3, 1, 0) * 10 + hotel.fair(3, 1, 1), 41);
        due("two in two HOURS", hotel.fair(5, 0, 0) * 10 + hotel.fair(5, 0, 1), 31);
        WeatherHotel nine = Hotels.withStays(Hotels.times(9, "l8(0-1)"));
        nine.plant(2, 0, 1);
        due("1 to 8 STAYS", nine.fair(511, 0, 0) * 10 + nine.fair(510, 1, 0), -10 + 8);
    }

    // ---- "A DROUGHT: in which fixed order told STAYS (1 to 6) are served (all else as above, nobody else being there) HARM is least: of like ones
    // the least row."

    private static int order(WeatherHotel hotel, int stays) {
        int row = 0;
        for (int place = 0; place < Integer.bitCount(stays); place++) {
            row = 10 * row + hotel.drought(stays, place);
        }
        return row;
    }

    private static void drought() {
        WeatherHotel hotel = threeInDrought();
        // 12 of RAIN in HOUR 0 (9 at most for 0 and 2), 2 in HOUR 1; 36 are wanted. 7 of WARMTH, 9 are wanted.
        due("HARM without a LAW", hotel.drought(7, NONE), 36 - 14 + 2);
        due("of like ones the least row", order(hotel, 7), 12);
        Ask.law(hotel, "p9(s=0);m5(s=2);m3(s=1);m1(1=1)");
        // 2, 1, 0: 2 has 8 of 12, 1 has 6 of 12, 0 none of RAIN; 0 misses 2 of WARMTH.
        due("p has no say", order(hotel, 7), 210);
        due("HARM", hotel.drought(7, NONE), 5 * 4 + 3 * 6 + 12 + 2);
        due("nobody else being there", hotel.drought(2, NONE), 0);
        due("0 and 1", order(hotel, 3) * 100 + hotel.drought(3, NONE), 1000 + 3 * 4 + 6);
        Ask.law(hotel, "m9(k=1&s=0);m1(1=1)");
        due("for WARMTH 0 must not be last", order(hotel, 7) * 100 + hotel.drought(7, NONE), 1200 + 24);
        Ask.law(hotel, "m9(k=1&s=2);m9(k=1&s=1);m1(1=1)");
        due("for WARMTH 0 must be last, and 1 is less than 2", order(hotel, 7) * 100 + hotel.drought(7, NONE), 12000 + 24);
        Ask.law(hotel, "m9(t=0&k=0&s=0);m8(t=1&s=1);m1(1=1)");
        // 0 first: it has all in HOUR 0 and the 2 in HOUR 1; 1 misses 6 there. 1 first: it has the 2, and 0 what it wants in HOUR 0, if it is next.
        due("one order for all HOURS", order(hotel, 7) * 100 + hotel.drought(7, NONE), 10200 + 8 * 4 + 6 + 6 + 6 + 2);
        Ask.law(hotel, "m9(s=1);m1(1=1)");
        hotel.pipes(0, 1);
        // FLOOR 0 takes only 1 in each HOUR, so that 1 has its 6 of 12 in HOUR 0 and of 7 in HOUR 1; the last misses 2 of WARMTH.
        due("what the PIPES keep is there for others", order(hotel, 7) * 100 + hotel.drought(7, NONE), 1200 + 11 + 11 + 2);
        WeatherHotel seven = Hotels.withStays(Hotels.times(7, "l1(0-1)"));
        due("1 to 6 STAYS", seven.drought(127, NONE) * 10 + seven.drought(126, NONE), -30 + 6);
    }

    // ---- "METER: RAIN of all HOURS is told: rows of n (1 to 3) DAYS (told ones; not below the one ahead; each as it is, not SHIFTED) that come to
    // just this: how many, the first, DAYS that are in all."

    private static void meter() {
        WeatherHotel hotel = Hotels.withRooms(1);
        Ask.day(hotel, 2, "r5(0-2);l9(0-24)");
        Ask.day(hotel, 5, "r5(0-1)");
        Ask.day(hotel, 6, "r5(1-2);w9(0-24)");
        Ask.day(hotel, 9, "r0(0-1)");
        hotel.stay(0, 0, 2, 0);
        hotel.shift(0, 1);
        // 5 and 5: 2; 2 9, 5 6; 2 9 9, 5 6 9.
        int[] rows = {1, 2, 2};
        int[] firsts = {2, 29, 299};
        int[] inAll = {1 << 2, 0, 1 << 9};
        for (int n = 1; n <= 3; n++) {
            due("how many of " + n, Ask.meter(hotel, n, NONE, 5, 5), rows[n - 1]);
            int first = 0;
            for (int place = 0; place < n; place++) {
                first = 10 * first + Ask.meter(hotel, n, place, 5, 5);
            }
            due("the first of " + n, first, firsts[n - 1]);
            due("in all of " + n, Ask.meter(hotel, n, 3, 5, 5), inAll[n - 1]);
        }
        due("a DAY may come again", Ask.meter(hotel, 3, 3, 15, 15), 1 << 2);
        due("5 6 and 2 9 twice: 2 2, 2 5 6", Ask.meter(hotel, 3, NONE, 10, 10), 2);
        due("2 is in both", Ask.meter(hotel, 3, 3, 10, 10), 1 << 2);
        due("just this, not more", Ask.meter(hotel, 3, NONE, 5, 5, 1), 0);
        due("just this, not less", Ask.meter(hotel, 3, NONE, 5, 4), 0);
        due("not SHIFTED", Ask.meter(hotel, 1, NONE, 0, 5, 5), 0);
        due("no rows of 0, no rows of 4", Ask.meter(hotel, 0, NONE, 0), -3);
        due("no rows of 0, no rows of 4", hotel.meter(4, NONE), -3);
    }

    // ---- "DRAWN: n times (1 to 20): X = (25173 X + 13849) modulo 65536 (X is THE SEED at first, 1): STAY X modulo 10, if it is told, wants DAY
    // X / 10 modulo 12 then, if that is told."

    private static void drawn() {
        WeatherHotel hotel = Hotels.withRooms(10);
        for (int d = 0; d < 12; d++) {
            if (d != 5) {
                Ask.day(hotel, d, "w" + d + "(0-1)");
            }
        }
        for (int b = 0; b < 10; b++) {
            if (b != 7) {
                hotel.stay(b, b, 11, 0);
            }
        }
        int x = 1;
        int[] days = new int[10];
        java.util.Arrays.fill(days, 11);
        for (int i = 0; i < 60; i++) {
            x = (25173 * x + 13849) % 65536;
            if (x / 10 % 12 != 5) {
                days[x % 10] = x / 10 % 12;
            }
            int harm = 0;
            for (int b = 0; b < 10; b++) {
                harm += b == 7 ? 0 : days[b];
            }
            due("HARM then", hotel.draw(1), harm);
            due("X", hotel.count(5), x);
            due("the DAY", hotel.count(20 + x % 10), x % 10 == 7 ? NONE : days[x % 10]);
        }
        due("1 to 20 times", hotel.draw(0) + hotel.draw(21), 2 * NONE);
        for (int i = 0; i < 20; i++) {
            x = (25173 * x + 13849) % 65536;
        }
        due("20 times", hotel.draw(20) >= 0 ? hotel.count(5) : NONE, x);
        hotel.shift(2, -2);
        hotel.seed(1);
        hotel.draw(1);
        due("STAY 2 wants DAY 2, and is SHIFTED still", hotel.count(22) * 10 + hotel.count(42), 21);
    }

    // ---- "KEPT: STAYS, X; UNDONE: as they were KEPT last."

    private static void keptAndUndone() {
        WeatherHotel hotel = threeInDrought();
        hotel.room(3);
        due("none was KEPT", hotel.undo(), false);
        hotel.shift(1, 2);
        hotel.seed(500);
        due("KEPT", hotel.keep(), 3);
        hotel.leave(0);
        Ask.day(hotel, 1, "r1(0-1)");
        hotel.stay(1, 3, 1, 1);
        hotel.shift(2, -1);
        hotel.draw(7);
        hotel.stay(9, 0, 0, 9);
        due("UNDONE", hotel.undo(), true);
        int[][] counts = {{2, 7}, {5, 500}, {10, 0}, {11, 1}, {12, 2}, {20, 0}, {21, 0}, {31, 70}, {41, 5}, {42, 3}, {19, NONE}};
        for (int[] count : counts) {
            due("count " + count[0], hotel.count(count[0]), count[1]);
        }
        hotel.leave(1);
        due("UNDONE once more", hotel.undo() && hotel.count(2) == 7, true);
        hotel.leave(1);
        hotel.seed(600);
        due("KEPT", hotel.keep(), 2);
        hotel.leave(2);
        hotel.seed(700);
        due("UNDONE, as KEPT last", hotel.undo(), true);
        due("UNDONE, as KEPT last", hotel.count(2) * 1000 + hotel.count(5), 5600);
    }

    // ---- "CHECK of a DAY and KIND: by HOURS: right, or the first number that is not so."

    private static void checked() {
        WeatherHotel hotel = new WeatherHotel();
        Ask.day(hotel, 8, "r7(1-3);w8(0-2);l9(2-4)");
        due("RAIN is right", Ask.check(hotel, 8, 0, 0, 7, 7, 0), NONE);
        due("WARMTH is right", Ask.check(hotel, 8, 1, 8, 8, 0, 0), NONE);
        due("LIGHT is right", Ask.check(hotel, 8, 2, 0, 0, 9, 9), NONE);
        due("the first that is not so", Ask.check(hotel, 8, 0, 0, 7, 8, 1), 2);
        due("the first that is not so", Ask.check(hotel, 8, 1, 0, 7, 7, 0), 0);
        due("a number of four bytes", Ask.check(hotel, 8, 0, 0, 7 + 256), 1);
        int[] all = new int[24];
        all[2] = 9;
        all[3] = 9;
        due("all HOURS", Ask.check(hotel, 8, 2, all), NONE);
    }

    // ---- "All memory is the hotel's own. A call that is refused (NONE, false) changes nothing but the tape, where it is told." RefusedTest goes
    // through all such calls; here two hotels take turns, and each answers as if it were alone.

    private static void ownMemory() {
        WeatherHotel one = threeInDrought();
        WeatherHotel other = Hotels.withStays("l5(0-1)", "l5(0-1)");
        other.plant(2, 5, 3);
        one.keep();
        due("none was KEPT in the other", other.undo(), false);
        Ask.law(other, "p9(s=1);m4(1=1)");
        other.seed(77);
        one.feed(1, 2, 3, 4, 5);
        other.shift(1, 3);
        due("LAWS", one.count(3) * 10 + other.count(3), 2);
        due("X", one.count(5) * 100 + other.count(5), 177);
        due("tapes", one.count(4) * 100 + other.count(4), 2000);
        due("DAYS", one.count(0) * 10 + other.count(0), 13);
        due("ROOMS", one.count(1) * 10 + other.count(1), 32);
        due("SHIFTS", one.count(41) * 10 + other.count(41), 36);
        due("HARM of one", one.served(0), 24);
        due("HARM of the other", other.served(0), 0);
        due("HARM of one again", one.served(0), 24);
        due("BEST of one, then of the other", one.best(1) * 10 + other.best(1), 23);
        due("LARGER of one, then of the other", one.larger(1) * 10 + other.larger(1), 23);
        one.pipes(0, 999);
        one.cellar(9999, 0);
        due("PIPES and CELLAR of one", other.served(1) * 10 + other.gets(0, 2, 0), 99995);
    }
}
