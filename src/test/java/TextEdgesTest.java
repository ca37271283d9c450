/** The edges that the document names for the tape and for texts: promises 2, 3, 12 and 30. */
final class TextEdgesTest {
    private TextEdgesTest() {
    }

    public static void main(String[] args) {
        tapeIsFilled();
        tapeIsUsedFromItsStart();
        dayTextLengths();
        dayTextCutOrTorn();
        dayNumbers();
        dayHours();
        dayFirstFault();
        dayParts();
        dayToldAnew();
        lawTextLengths();
        lawTextCutOrTorn();
        lawSigns();
        lawNumbers();
        lawClauses();
        lawOpen();
        lawBounds();
        lawArithmetic();
        lawRefused();
        lawToldAnew();
        textsToldOften();
        checkEdges();
        Ask.end();
    }

    private static void due(String what, long got, long want) {
        Ask.due(what, got, want);
    }

    private static int dayOf(String text) {
        return Ask.day(new WeatherHotel(), 0, text);
    }

    private static int lawOf(String text) {
        return Ask.law(new WeatherHotel(), text);
    }

    // ---- the tape

    private static void tapeIsFilled() {
        WeatherHotel hotel = new WeatherHotel();
        due("2: an empty tape", hotel.count(4), 0);
        for (int size = 20; size <= 200; size += 20) {
            due("2: how many it has", hotel.feed(0x72312830, 0x2d312900, 0, 0, 0), size);
        }
        due("2: 220 would be more than 200", hotel.feed(-1, -1, -1, -1, -1), -1);
        due("2: still 200", hotel.count(4), 200);
        due("2: what is ahead is as it was", hotel.day(0, 7), 1);
        due("2: empty then", hotel.count(4), 0);
        due("2: from an empty tape on", hotel.feed(0, 0, 0, 0, 0), 20);
    }

    private static void tapeIsUsedFromItsStart() {
        WeatherHotel hotel = new WeatherHotel();
        due("2: four bytes of each of five ints", Ask.day(hotel, 0, "r11(0-12);w12(10-24)"), 2);
        due("2: twenty bytes behind twenty", Ask.day(hotel, 1, "r11(0-12);w12(10-24);l13(1-11);r14(2-13)"), 4);
        due("2: the first one", hotel.dayIs(1, 0, 0), 11);
        due("2: and the last one", hotel.dayIs(1, 0, 12), 14);
        Ask.feed(hotel, Ask.bytesOf("l1(0-1);l2(3-4);x"));
        due("3: by the first n bytes, whatever comes behind", hotel.day(2, 15), 2);
        due("3: all of the tape is gone", hotel.count(4), 0);
        due("3: it has not one", hotel.day(2, 1), -1);
        due("12: it has not one", hotel.law(1), -1);
        due("30: it has not one", hotel.check(0, 0, 1), -2);
        due("25: it has not one", hotel.meter(1, -1), -3);
    }

    // ---- DAYS

    private static void dayTextLengths() {
        String most = "r10(0-10);r1(0-10);r1(0-10);r1(0-10);r1(0-10);r1(0-10);r1(0-10);r1(0-10);"
                + "r1(0-1);r1(0-1);r1(0-1);r1(0-1);r1(0-1);l7(0-1)";
        due("3: the text of the next row", most.length(), 120);
        WeatherHotel hotel = new WeatherHotel();
        due("3: 120 bytes, all of them used", Ask.day(hotel, 11, most), 14);
        due("3: the last PART too", hotel.dayIs(11, 2, 0), 7);
        due("3: and the ones ahead", hotel.dayIs(11, 0, 0), 10 + 7 + 5);
        String more = "r10(0-10);" + "r1(0-10);".repeat(8) + "r1(0-1);".repeat(4) + "l7(0-1)";
        due("3: the text of the next row", more.length(), 121);
        due("3: 121 bytes", Ask.day(hotel, 11, more), -1);
        due("3: the tape stays", hotel.count(4), 140);
        due("3: 120 of these", hotel.day(11, 120), -1120);
        due("3: one byte", dayOf("r"), -1001);
        due("3: the shortest DAY", dayOf("r0(0-1)"), 1);
        due("3: one less than that", dayOf("r0(0-1"), -1006);
    }

    /** Numbers that stay right when they are cut, so that only the end or the blank is a FAULT. */
    private static void dayTextCutOrTorn() {
        String text = "r31(0-12);w15(01-24);l02(1-23)";
        for (int n = 1; n < text.length(); n++) {
            boolean isWhole = n == 9 || n == 20;
            due("3: the end at " + n, dayOf(text.substring(0, n)), isWhole ? n / 9 : -1000 - n);
        }
        for (int at = 0; at <= text.length(); at++) {
            for (char sign : new char[] {' ', '\0', '\u00ff', '\n', 'R', '+', '{'}) {
                due("3: no " + (int) sign + " at " + at, dayOf(text.substring(0, at) + sign + text.substring(at)), -1000 - at);
            }
        }
        due("3: whole", dayOf(text), 3);
    }

    private static void dayNumbers() {
        WeatherHotel hotel = new WeatherHotel();
        Object[][] sums = {
            {"r0(5-6)", 0}, {"r00(5-6)", 0}, {"r1(5-6)", 1}, {"r01(5-6)", 1}, {"r10(5-6)", 10}, {"r99(5-6)", 99},
            {"r98(5-6);r1(5-6)", 99}, {"r99(5-6);r0(5-6)", 99}, {"r99(5-6);r1(5-6)", 99}, {"r50(5-6);r50(5-6)", 99},
            {"r99(5-6);r99(5-6);r99(5-6)", 99}, {"r90(5-6);w90(5-6)", 90}, {"r90(5-6);r9(4-5);r9(6-7)", 90},
            {"r0(5-6);r0(0-24)", 0}, {"r1(0-24);r2(5-6)", 3},
        };
        for (Object[] sum : sums) {
            due("3: " + sum[0], Ask.day(hotel, 0, (String) sum[0]) > 0 ? 1 : 0, 1);
            due("3: so much by " + sum[0], hotel.dayIs(0, 0, 5), (Integer) sum[1]);
        }
        due("3: no digit", dayOf("w(5-6)"), -1001);
        due("3: a third digit", dayOf("w100(5-6)"), -1003);
        due("3: a third digit, whatever it is", dayOf("w000(5-6)"), -1003);
        due("3: a third digit of an HOUR", dayOf("w1(005-6)"), -1005);
        due("3: a third digit of the other HOUR", dayOf("w1(5-006"), -3005);
        due("3: a third digit of the other HOUR", dayOf("w1(5-060"), -1007);
        due("3: a third digit of the other HOUR", dayOf("w1(5-240)"), -1007);
    }

    private static void dayHours() {
        WeatherHotel hotel = new WeatherHotel();
        due("3: the first HOUR", Ask.day(hotel, 0, "l5(0-1)"), 1);
        due("3: from", hotel.dayIs(0, 2, 0), 5);
        due("3: not with it", hotel.dayIs(0, 2, 1), 0);
        due("3: the last HOUR", Ask.day(hotel, 0, "l5(23-24)"), 1);
        due("3: from", hotel.dayIs(0, 2, 23), 5);
        due("3: not ahead of it", hotel.dayIs(0, 2, 22), 0);
        due("3: not round the day", hotel.dayIs(0, 2, 0), 0);
        due("3: all HOURS", Ask.day(hotel, 0, "l5(0-24)"), 1);
        for (int hour = 0; hour < 24; hour++) {
            due("3: all HOURS", hotel.dayIs(0, 2, hour), 5);
        }
        for (int from = 0; from < 30; from++) {
            for (int to = 0; to < 30; to++) {
                String text = "r1(" + from + "-" + to + ")";
                int toAt = 4 + Integer.toString(from).length();
                int want = from > 23 ? -3003 : to <= from || to > 24 ? -3000 - toAt : 1;
                due("3: " + text, dayOf(text), want);
            }
        }
        due("3: two digits, one below the other", dayOf("r1(09-9)"), -3006);
        due("3: 99", dayOf("r1(99-99)"), -3003);
        due("3: 99", dayOf("r1(0-99)"), -3005);
    }

    private static void dayFirstFault() {
        Object[][] faults = {
            {"r1(24x", -3003}, {"r1(24", -3003}, {"r1(245", -3003}, {"r1(2", -1004}, {"r1(2x", -1004}, {"r1(9-5", -3005},
            {"r1(9-5x", -3005}, {"r1(9-25x", -3005}, {"r1(9-255", -3005}, {"r1(9-9", -3005}, {"r1(9-1", -3005}, {"r1(9-10", -1007},
            {"r1(9-100", -1007}, {"r1(9-1;", -3005}, {"r100(24-24)", -1003}, {"x100(24-24)", -1000}, {"r1(x24-24)", -1003},
            {"r1(24-0);x", -3003}, {"r1(0-1);r1(24-0);x", -3011}, {"r1(0-1)r1(24-0)", -1007}, {"r1(0-25);r(0-1)", -3005},
        };
        for (Object[] fault : faults) {
            due("3: " + fault[0], dayOf((String) fault[0]), (Integer) fault[1]);
        }
    }

    private static void dayParts() {
        for (int parts = 1; parts <= 14; parts++) {
            String text = "w3(5-6);".repeat(parts - 1) + "w3(5-6)";
            WeatherHotel hotel = new WeatherHotel();
            due("3: PARTS", Ask.day(hotel, 3, text), parts);
            due("3: so much more", hotel.dayIs(3, 1, 5), 3 * parts);
            due("3: a ; and nothing", dayOf(text + ";"), -1000 - 8 * parts);
        }
        String fourteen = "w3(5-6);".repeat(14);
        for (String letter : new String[] {"r", "w", "l"}) {
            due("3: a 15th PART, at its letter", dayOf(fourteen + letter), -4112);
            due("3: a 15th PART, whatever comes behind", dayOf(fourteen + letter + "x(24-0)"), -4112);
        }
        due("3: no letter of a 15th PART", dayOf(fourteen + "x"), -1112);
        due("3: no letter of a 15th PART", dayOf(fourteen + ";"), -1112);
        due("3: a FAULT ahead of the 15th PART", dayOf("w3(5-5);" + fourteen.substring(8) + "r"), -3005);
    }

    private static void dayToldAnew() {
        WeatherHotel hotel = Hotels.withStays("r9(0-24);w9(0-24);l9(0-24)");
        due("3: in place of the one before", Ask.day(hotel, 0, "l1(5-6)"), 1);
        for (int hour = 0; hour < 24; hour++) {
            due("3: nothing of RAIN is left", hotel.dayIs(0, 0, hour), 0);
            due("3: nothing of WARMTH is left", hotel.wants(1, hour), 0);
            due("3: nothing of LIGHT is left", hotel.wants(2, hour), hour == 5 ? 1 : 0);
        }
        due("3: a DAY of nothing is told", Ask.day(hotel, 7, "r0(0-1)"), 1);
        due("3: so it is there", hotel.count(0), 1 | 1 << 7);
        due("3: with nothing", hotel.dayIs(7, 0, 0), 0);
        Ask.day(hotel, 8, "r50(0-1);w60(2-3);x");
        Ask.day(hotel, 8, "r5(0-1)");
        due("3: nothing of a faulty text is left", hotel.dayIs(8, 0, 0) * 100 + hotel.dayIs(8, 1, 2), 500);
    }

    // ---- THE LAW

    /** What one that is missed harms by a LAW, for STAY 0 with DAY 0 and PRICE 100 in HOUR 0. */
    private static int harmBy(String law) {
        WeatherHotel hotel = Hotels.withStays("l1(0-1)");
        due("12: " + law, Ask.law(hotel, law) > 0 ? 1 : 0, 1);
        return hotel.served(0);
    }

    private static void lawTextLengths() {
        String most = "m01" + "+1".repeat(76) + "(1=1)";
        due("12: the text of the next row", most.length(), 160);
        due("12: 160 bytes, all of them used", harmBy(most), 77);
        String piecesLong = "m5(1=1" + "&1=1".repeat(38) + ")";
        due("12: many PIECES", harmBy(piecesLong), 5);
        due("12: many PIECES, the last does not hold", harmBy("m5(1=1" + "&1=1".repeat(37) + "&1=2)"), 1);
        due("12: many PARTS, the last holds", harmBy("m5(1=2" + "|1=2".repeat(37) + "|1=1)"), 5);
        due("12: many FACTORS", harmBy("m7" + "*1".repeat(75) + "(1=1)"), 7);
        WeatherHotel hotel = new WeatherHotel();
        due("12: 161 bytes", Ask.law(hotel, "m1" + "+1".repeat(77) + "(1=1)"), -1);
        due("12: the tape stays", hotel.count(4), 180);
        due("12: 160 of these", hotel.law(160), -1160);
        due("12: one byte", lawOf("p"), -1001);
        due("12: the shortest LAW", lawOf("p0(0=0)"), 1);
        due("12: one less than that", lawOf("p0(0=0"), -1006);
    }

    private static void lawTextCutOrTorn() {
        String text = "p12+[s]*3(!c=4&(r<5|t>6));m7%k(n/g=89)";
        for (int n = 1; n < text.length(); n++) {
            due("12: the end at " + n, lawOf(text.substring(0, n)), n == 25 ? 1 : -1000 - n);
        }
        for (int at = 0; at <= text.length(); at++) {
            for (char sign : new char[] {' ', '\0', '\u00ff', 'S', 'p', 'm', ';', '{', 'a', '.'}) {
                boolean isEnd = sign == ';' && (at == 25 || at == text.length());
                int want = isEnd ? -1000 - at - 1 : -1000 - at;
                // At the start, and behind the ; between two CLAUSES, p and m can stand.
                boolean isLetter = (sign == 'p' || sign == 'm') && (at == 0 || at == 26);
                due("12: no " + (int) sign + " at " + at, lawOf(text.substring(0, at) + sign + text.substring(at)),
                        isLetter ? want - 1 : want);
            }
        }
        due("12: whole", lawOf(text), 2);
    }

    /** Each sign that wants something on both sides, without it. */
    private static void lawSigns() {
        for (char sign : "+-*/%".toCharArray()) {
            due("12: a CLAUSE's E behind " + sign, lawOf("m5" + sign + "(s=0)"), -1003);
            due("12: a CLAUSE's E ahead of " + sign, lawOf("m" + sign + "5(s=0)"), -1001);
            due("12: two of " + sign, lawOf("m5" + sign + sign + "5(s=0)"), -1003);
            due("12: in [] behind " + sign, lawOf("m[5" + sign + "](s=0)"), -1004);
            due("12: in [] ahead of " + sign, lawOf("m[" + sign + "5](s=0)"), -1002);
            due("12: on the left behind " + sign, lawOf("m5(s" + sign + "=0)"), -1005);
            due("12: on the left ahead of " + sign, lawOf("m5(" + sign + "s=0)"), -1003);
            due("12: on the right behind " + sign, lawOf("m5(s=0" + sign + ")"), -1007);
            due("12: on the right ahead of " + sign, lawOf("m5(s=" + sign + "0)"), -1005);
            due("12: ahead of & behind " + sign, lawOf("m5(s=0" + sign + "&s=0)"), -1007);
            due("12: ahead of | behind " + sign, lawOf("m5(s=0" + sign + "|s=0)"), -1007);
        }
        for (char sign : "<>=".toCharArray()) {
            due("12: nothing behind " + sign, lawOf("m5(s" + sign + ")"), -1005);
            due("12: nothing ahead of " + sign, lawOf("m5(" + sign + "s)"), -1003);
            due("12: two of " + sign, lawOf("m5(s" + sign + "s" + sign + "s)"), -1006);
            due("12: in the E of a CLAUSE " + sign, lawOf("m5" + sign + "5(s=0)"), -1002);
            due("12: in [] " + sign, lawOf("m5([s" + sign + "s]=0)"), -1005);
        }
        for (char sign : "&|".toCharArray()) {
            due("12: nothing behind " + sign, lawOf("m5(s=0" + sign + ")"), -1007);
            due("12: nothing ahead of " + sign, lawOf("m5(" + sign + "s=0)"), -1003);
            due("12: two of " + sign, lawOf("m5(s=0" + sign + sign + "s=0)"), -1007);
            due("12: between two E " + sign, lawOf("m5(s" + sign + "s)"), -1004);
            due("12: between two CLAUSES " + sign, lawOf("m5(s=0)" + sign + "m5(s=0)"), -1007);
        }
        Object[][] brackets = {
            {"m5(s=0))", -1007}, {"m5((s=0)", -1008}, {"m5()", -1003}, {"m5(())", -1004}, {"m[](s=0)", -1002}, {"m5(s=[])", -1006},
            {"m5([s=0])", -1005}, {"m5((s)=0)", -1005}, {"m(5)(s=0)", -1001}, {"m5(s=(0))", -1005}, {"m5[s=0]", -1002}, {"m5(!)", -1004},
            {"m5(s=!0)", -1005}, {"m!5(s=0)", -1001}, {"m5(s!=0)", -1004}, {"m5((s=0)(s=0))", -1008}, {"m5((s=0)!s=0)", -1008},
            {"m5((s=0)+1=1)", -1008}, {"m5(s=00r)", -1007}, {"m5(sr=0)", -1004}, {"m5(5[s]=0)", -1004}, {"m5([s]5=0)", -1006},
        };
        for (Object[] bracket : brackets) {
            due("12: " + bracket[0], lawOf((String) bracket[0]), (Integer) bracket[1]);
        }
    }

    private static void lawNumbers() {
        due("12: five digits", lawOf("p99999(00000=12345)"), 1);
        due("12: a sixth digit, at it", lawOf("p999990(0=0)"), -2006);
        due("12: a sixth digit, whatever it is", lawOf("p000001(0=0)"), -2006);
        due("12: a sixth digit in a C", lawOf("p0(0=100000)"), -2010);
        due("12: a sixth digit in [", lawOf("p[123456](0=0)"), -2007);
        due("12: five digits and the end", lawOf("p12345"), -1006);
        due("12: seven digits", lawOf("p1234567(0=0)"), -2006);
        due("12: ahead of what can't stand there", lawOf("p123456x"), -2006);
        due("12: behind what can't stand there", lawOf("p1x123456"), -1002);
        due("12: one digit", harmBy("m9(1=1)"), 9);
        due("12: five digits", harmBy("m00009(1=1)"), 9);
    }

    private static void lawClauses() {
        for (int clauses = 1; clauses <= 12; clauses++) {
            String text = "m9(1=2);".repeat(clauses - 1) + "m8(1=1)";
            WeatherHotel hotel = Hotels.withStays("l1(0-1)");
            due("12: CLAUSES", Ask.law(hotel, text), clauses);
            due("12: CLAUSES", hotel.count(3), clauses);
            due("12: the last one holds", hotel.served(0), 8);
            due("12: a ; and nothing", lawOf(text + ";"), -1000 - 8 * clauses);
        }
        String twelve = "m9(1=2);".repeat(12);
        due("12: a 13th CLAUSE, at its letter", lawOf(twelve + "p"), -4096);
        due("12: a 13th CLAUSE, at its letter", lawOf(twelve + "m"), -4096);
        due("12: whatever comes behind", lawOf(twelve + "m123456((((((("), -4096);
        due("12: if that can stand there", lawOf(twelve + "s"), -1096);
        due("12: if that can stand there", lawOf(twelve + ";"), -1096);
        due("12: a FAULT ahead of it", lawOf("m9(1=2;" + twelve + "p"), -1006);
    }

    private static void lawOpen() {
        String[] openers = {"(", "!", "[", "(!", "!(", "((!", "(![", "!!["};
        for (String opener : openers) {
            StringBuilder six = new StringBuilder("p1(");
            // [ only opens an E, so no ( or ! may follow it.
            String all = (opener.contains("[") ? opener : opener.repeat(5)) + "[[[[[";
            six.append(all, 0, 5);
            for (char seventh : new char[] {'(', '!', '['}) {
                boolean canStand = seventh == '[' || six.indexOf("[") < 0;
                due("12: a seventh " + seventh + " behind " + six, lawOf(six.toString() + seventh), canStand ? -5008 : -1008);
            }
            due("12: six of them and the end: " + six, lawOf(six.toString()), -1008);
            due("12: six of them and an E: " + six, lawOf(six + "s"), -1009);
        }
        due("12: six in the E of a CLAUSE", lawOf("p[[[[[[1]]]]]](1=1)"), 1);
        due("12: seven in the E of a CLAUSE", lawOf("p[[[[[[[1]]]]]]](1=1)"), -5007);
        due("12: six there and six in the C", lawOf("p[[[[[[1]]]]]]([[[[[1]]]]]=[[[[[1]]]]])"), 1);
        due("12: the ( of the CLAUSE counts", lawOf("p1([[[[[[1]]]]]]=1)"), -5008);
        due("12: those that are closed do not", lawOf("p1((((((1=1)))))&(((((1=1))))))"), 1);
        due("12: a ! is open till its PIECE ends", lawOf("p1(!!!!!1=1|!!!!!1=1&!!!!!1=1)"), 1);
        due("12: a ! is open in its PIECE", lawOf("p1(!!!!!1=[1])"), -5010);
        due("12: a ! is open in both E of its PIECE", lawOf("p1(!!!!![1]=1)"), -5008);
        due("12: a ! is open in its (C)", lawOf("p1(!(!(!(1=1))))"), -5008);
        due("12: a ! is open to the end of its (C)", lawOf("p1(!(1=1&!(1=1|[1]=1)))"), 1);
        due("12: a ! is open to the end of its (C)", lawOf("p1(!(1=1&!(1=1|[[1]]=1)))"), -5016);
        due("12: but not behind it", lawOf("p1(!(1=1)&!(1=1)|[[[[[1]]]]]=1)"), 1);
        due("12: four open, two more ! can be", lawOf("p1((((!!1=1))))"), 1);
        due("12: what is meant by five !", harmBy("m5(!!!!!1=2)"), 5);
    }

    private static void lawBounds() {
        Object[][] harms = {
            {"m98(1=1)", 98}, {"m99(1=1)", 99}, {"m100(1=1)", 99}, {"m99999(1=1)", 99}, {"m1(1=1)", 1}, {"m0(1=1)", 0}, {"m0-1(1=1)", 0},
            {"m0-99999(1=1)", 0}, {"m9(1=2)", 1}, {"p9(1=1)", 1}, {"m9(1=2);m0(1=1)", 0}, {"m4(1=1);m5(1=1)", 4}, {"p4(1=1);m5(1=1)", 5},
            {"mk+n+g(1=1)", 4}, {"m9(k=2&n=1&g=1&t=0&s=0&r=0&f=0&d=0&c=100)", 9},
        };
        for (Object[] harm : harms) {
            due("12: HARM by " + harm[0], harmBy((String) harm[0]), (Integer) harm[1]);
        }
        Object[][] firsts = {
            {"p999(s=1);p998(s=0)", 1}, {"p1000(s=1);p999(s=0)", 0}, {"p99999(s=1);p999(s=0)", 0}, {"p999(s=1);p99999(s=0)", 0},
            {"p1(s=1)", 1}, {"p0(s=1)", 0}, {"p0-1(s=0);p0(s=1)", 0}, {"p0(s=0);p1(s=1)", 1}, {"p0-9(s=0)", 0}, {"p9(s=2)", 0},
            {"p1+k+n+g(s=1);p1(s=0)", 0}, {"m9(s=1)", 0},
        };
        for (Object[] first : firsts) {
            WeatherHotel hotel = Hotels.withStays("l5(7-8)", "l5(7-8)");
            hotel.plant(2, 5, 0);
            Ask.law(hotel, (String) first[0]);
            due("12: the first by " + first[0], hotel.gets(1, 2, 7), (Integer) first[1] == 1 ? 5 : 0);
        }
    }

    private static void lawArithmetic() {
        Object[][] harms = {
            {"m99999*99999%100(1=1)", 9}, {"m65535*65537%100(1=1)", 0}, {"m46341*46341+0(1=1)", 0}, {"m46340*46340%100(1=1)", 0},
            {"m9(46341*46341<0)", 9}, {"m9(46340*46340>0)", 9}, {"m9(65536*32768-1>0)", 9}, {"m9(65536*32767+65535+1<0)", 9},
            {"m9([0-65536]*32768/[0-1]=65536*32768)", 9}, {"m9([0-65536]*32768%[0-1]=0)", 9}, {"m9([0-7]/2=0-3)", 9},
            {"m9([0-7]%4=0-3)", 9}, {"m9(7%[0-4]=3)", 9}, {"m9(7/[0-4]=0-1)", 9}, {"m2-3+5(1=1)", 4}, {"m2*3%4(1=1)", 2},
            {"m20/3*3(1=1)", 18}, {"m2+12/3*2-1(1=1)", 9}, {"m8-[5-[3-1]](1=1)", 5},
        };
        for (Object[] harm : harms) {
            due("12: HARM by " + harm[0], harmBy((String) harm[0]), (Integer) harm[1]);
        }
    }

    private static void lawRefused() {
        Object[][] harms = {
            {"m7/0(1=1)", 0}, {"m7%0(1=1)", 0}, {"m0/0(1=1)", 0}, {"m5+7/s(1=1)", 0}, {"m7/0+5(1=1)", 0}, {"m[7/0]*0+5(1=1)", 0},
            {"m7/0(1=1);m9(1=1)", 0}, {"m7/0(1=2);m9(1=1)", 9}, {"m9(1/0=0)", 1}, {"m9(1%0=0)", 1}, {"m9(0=1/s)", 1}, {"m9(!0=1/s)", 1},
            {"m9(1/0=0);m8(1=1)", 8}, {"m9(1=1|1/0=0)", 9}, {"m9(1/0=0|1=1)", 1}, {"m9(1=2&1/0=0|1=1)", 9}, {"m9(1=1&1/0=0|1=1)", 1},
            {"m9((1=1|1/0=0)&(2=2|1/0=0))", 9}, {"m9(!(1=1&(2=1&1/0=0)))", 9}, {"m9(!(1=1&1/0=0))", 1}, {"m9(0/1=0)", 9},
        };
        for (Object[] harm : harms) {
            due("12: HARM by " + harm[0], harmBy((String) harm[0]), (Integer) harm[1]);
        }
    }

    private static void lawToldAnew() {
        WeatherHotel hotel = Hotels.withStays("l1(0-1)");
        due("12: none at first", hotel.count(3) * 10 + hotel.served(0), 1);
        Ask.law(hotel, "m9(1=1);m8(1=1);p7(1=1)");
        due("12: three CLAUSES", hotel.count(3) * 10 + hotel.served(0), 39);
        Ask.law(hotel, "p7(1=1)");
        due("12: nothing of the one before is left", hotel.count(3) * 10 + hotel.served(0), 11);
        Ask.law(hotel, "m6(1=1);m5(2=2);x");
        due("12: nothing of a faulty one is there", hotel.count(3) * 10 + hotel.served(0), 11);
        Ask.law(hotel, "m5(2=2)");
        due("12: in place of the one before", hotel.count(3) * 10 + hotel.served(0), 15);
        hotel.keep();
        Ask.law(hotel, "m4(2=2)");
        hotel.undo();
        due("12: not KEPT", hotel.count(3) * 10 + hotel.served(0), 14);
    }

    /** Whatever was read before, right or faulty, leaves room for the next text. */
    private static void textsToldOften() {
        WeatherHotel hotel = Hotels.withStays("l1(0-1)");
        for (int round = 2; round < 20; round++) {
            due("12: a long one with a FAULT", Ask.law(hotel, "m01" + "+1".repeat(75) + "(1=1)x"), -1158);
            due("12: told often", Ask.law(hotel, "m" + round + "+s*1-[1-1](s=0&t=0|1=2);m9(1=1)"), 2);
            due("12: the last one holds", hotel.served(0), round);
            due("3: a long one with a FAULT", Ask.day(hotel, 1, "r9(0-1);".repeat(13) + "r9(0-1)x"), -1111);
            due("3: told often", Ask.day(hotel, 1, "r" + round + "(5-6)"), 1);
            due("3: the last one is so", hotel.dayIs(1, 0, 5) * 100 + hotel.dayIs(1, 0, 0), 100 * round);
        }
    }

    // ---- CHECK

    private static void checkEdges() {
        WeatherHotel hotel = new WeatherHotel();
        Ask.day(hotel, 0, "r1(0-1);r2(1-2);r99(23-24);l3(0-24)");
        int[] all = new int[24];
        all[0] = 1;
        all[1] = 2;
        all[23] = 99;
        due("30: 24 numbers", Ask.check(hotel, 0, 0, all), -1);
        for (int hour = 0; hour < 24; hour++) {
            for (int bit = 0; bit < 32; bit += 7) {
                int[] wrong = all.clone();
                wrong[hour] ^= 1 << bit;
                hotel = new WeatherHotel();
                Ask.day(hotel, 0, "r1(0-1);r2(1-2);r99(23-24);l3(0-24)");
                due("30: the place of the first one", Ask.check(hotel, 0, 0, wrong), hour);
                wrong[23] = -1;
                due("30: the place of the first one", Ask.check(hotel, 0, 0, wrong), hour);
                due("30: empty then", hotel.count(4), 0);
            }
        }
        Ask.feed(hotel, new int[80]);
        due("30: 21 of 20", hotel.check(0, 1, 21), -2);
        due("30: the tape stays", hotel.count(4), 80);
        due("30: 20 of 20", hotel.check(0, 1, 20), -1);
        due("30: none of none", hotel.check(0, 0, 0), -1);
        Ask.feed(hotel, new int[120]);
        due("30: 25 of 30", hotel.check(0, 1, 25), -2);
        due("30: -1 of 30", hotel.check(0, 1, -1), -2);
        due("30: the tape stays", hotel.count(4), 120);
        due("30: 24 of 30", hotel.check(0, 1, 24), -1);
        due("30: all of the tape is gone", hotel.count(4), 0);
    }
}
