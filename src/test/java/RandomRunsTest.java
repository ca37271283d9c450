import java.util.Random;

/** Runs of drawn calls, the class held against the plain reference; the draws are the same each time. */
final class RandomRunsTest {
    private static final int RUNS = 400;

    // So many calls at most ahead of the last step and the last counts: 512 in all are promised.
    private static final int CALLS = 420;

    private final Random random;
    private final int run;
    private final WeatherHotel hotel = new WeatherHotel();
    private final Reference reference = new Reference();
    private final int scale;
    private int calls = 0;

    // 1 PLANT of one KIND, 2 PIPES, 3 CELLAR: what alone is short in this run, so that more can be; 0 all.
    private final int onlyTight;

    private RandomRunsTest(int run) {
        this.run = run;
        random = new Random(run * 7919L + 3);
        scale = 1 + random.nextInt(30);
        onlyTight = run % 4;
    }

    public static void main(String[] args) {
        int runs = args.length > 0 ? Integer.parseInt(args[0]) : RUNS;
        for (int run = 0; run < runs; run++) {
            new RandomRunsTest(run).play();
        }
        Ask.end();
    }

    private void play() {
        if (onlyTight != 0) {
            for (int kind = 0; kind < 3; kind++) {
                due("plant", hotel.plant(kind, 999, 1), reference.plant(kind, 999, 1));
            }
        }
        int stays = 2 + below(9);
        for (int i = 0; i < stays; i++) {
            tellDay();
            room();
            stay();
        }
        for (int i = 0; i < CALLS && calls < CALLS; i++) {
            step();
        }
        for (int what = -1; what < 62; what++) {
            due("count " + what, hotel.count(what), reference.count(what));
        }
        Ask.due("run " + run + ": at most 512 calls", calls <= 512, true);
    }

    private void due(String call, long got, long want) {
        calls++;
        Ask.due("run " + run + ": " + call, got, want);
    }

    private void due(String call, boolean got, boolean want) {
        calls++;
        Ask.due("run " + run + ": " + call, got, want);
    }

    private int below(int bound) {
        return random.nextInt(bound);
    }

    /** Mostly from 0 up to a bound, sometimes one that can't be. */
    private int some(int bound) {
        if (below(25) > 0) {
            return below(bound);
        }
        int[] odd = {-1, -2, bound, bound + 1, Integer.MIN_VALUE, Integer.MAX_VALUE, 31, 32, 64, -32};
        return odd[below(odd.length)];
    }

    /** Mostly some of the STAYS that are there. */
    private int someStays() {
        int there = reference.count(2);
        if (below(20) == 0) {
            return some(1100);
        }
        int set = there & below(1024);
        return set == 0 || below(4) == 0 ? there : set;
    }

    private void step() {
        switch (below(34)) {
            case 0, 1 -> tellDay();
            case 2 -> room();
            case 3, 4 -> plant();
            case 5 -> pipes();
            case 6 -> cellar();
            case 7, 8, 9, 10 -> stay();
            case 11 -> shift();
            case 12, 13 -> tellLaw();
            case 14 -> leave();
            case 15 -> wants();
            case 16 -> gets();
            case 17, 18 -> served();
            case 19 -> can();
            case 20 -> best();
            case 21 -> smallest();
            case 22 -> costs();
            case 23 -> rooms();
            case 24 -> shifting();
            case 25 -> larger();
            case 26 -> fair();
            case 27 -> drought();
            case 28, 29 -> meter();
            case 30 -> draw();
            case 31 -> keepOrUndo();
            case 32 -> check();
            default -> count();
        }
    }

    private void feedBytes(int[] bytes) {
        for (int at = 0; at < bytes.length; at += 20) {
            int[] five = new int[5];
            for (int i = 0; i < 20; i++) {
                five[i / 4] = five[i / 4] << 8 | (at + i < bytes.length ? bytes[at + i] & 255 : below(256));
            }
            due("feed", hotel.feed(five[0], five[1], five[2], five[3], five[4]), reference.feed(five));
        }
    }

    private String garbled(String text, String signs) {
        if (text.isEmpty() || below(3) > 0) {
            return text;
        }
        int at = below(text.length());
        String sign = "" + signs.charAt(below(signs.length()));
        return switch (below(4)) {
            case 0 -> text.substring(0, at) + text.substring(at + 1);
            case 1 -> text.substring(0, at) + sign + text.substring(at);
            case 2 -> text.substring(0, at) + sign + text.substring(at + 1);
            default -> text.substring(0, at);
        };
    }

    private int lengthFor(String text) {
        return below(30) == 0 ? some(201) : text.length();
    }

    private void tellDay() {
        StringBuilder text = new StringBuilder();
        int parts = below(12) == 0 ? 13 + below(3) : 1 + below(4);
        for (int i = 0; i < parts; i++) {
            text.append(i > 0 ? ";" : "");
            int from = below(24);
            int to = Math.min(24, from + 1 + below(below(3) == 0 ? 24 : 3));
            text.append("rwl".charAt(below(4) % 3)).append(parts > 5 ? below(3) : below(scale));
            if (parts > 5) {
                from = below(9);
                to = from + 1 + below(9 - from);
            }
            text.append('(').append(from).append('-').append(to).append(')');
        }
        String whole = text.length() > 120 ? text.substring(0, 113 + below(8)) : text.toString();
        String told = garbled(whole, "rwl0123456789(-);x");
        feedBytes(Ask.bytesOf(told));
        int d = some(below(2) == 0 ? 3 : 12);
        int n = lengthFor(told);
        due("day " + d + " " + told + " " + n, hotel.day(d, n), reference.day(d, n));
        int kind = some(3);
        int hour = some(24);
        due("dayIs", hotel.dayIs(d, kind, hour), reference.dayIs(d, kind, hour));
    }

    private void room() {
        int floor = some(4);
        due("room " + floor, hotel.room(floor), reference.room(floor));
    }

    private boolean isLeft(int tight) {
        return onlyTight == 0 || onlyTight == tight || below(30) == 0;
    }

    private void plant() {
        if (!isLeft(1)) {
            return;
        }
        int kind = onlyTight == 0 ? some(3) : run % 3;
        int most = below(12) == 0 ? some(1000) : below(3) == 0 ? below(scale * 4) : nearPeak(kind);
        int pence = below(6) == 0 ? some(1000) : below(20);
        due("plant", hotel.plant(kind, most, pence), reference.plant(kind, most, pence));
    }

    /** So that some sets fit and others just don't. */
    private int nearPeak(int kind) {
        int peak = 0;
        for (int hour = 0; hour < 24; hour++) {
            peak = Math.max(peak, reference.wants(kind, hour));
        }
        return Math.max(0, Math.min(999, peak + 1 - below(1 + scale)));
    }

    private void pipes() {
        if (!isLeft(2)) {
            return;
        }
        int floor = some(4);
        int most = below(3) == 0 ? some(1000) : below(3) == 0 ? below(scale * 3) : nearPeak(0);
        due("pipes", hotel.pipes(floor, most), reference.pipes(floor, most));
    }

    private void cellar() {
        if (!isLeft(3)) {
            return;
        }
        int water = below(2) == 0 ? some(10000) : below(scale * 20);
        int comes = below(2) == 0 ? some(100) : below(scale);
        due("cellar", hotel.cellar(water, comes), reference.cellar(water, comes));
    }

    private void stay() {
        int b = some(10);
        int room = some(Math.max(1, reference.count(1)));
        int d = some(12);
        for (int t = 0; t < 5 && reference.count(10 + b) >= 0; t++) {
            b = some(10);
        }
        for (int t = 0; t < 10 && isTaken(room); t++) {
            room = some(Math.max(1, reference.count(1)));
        }
        for (int t = 0; t < 10 && reference.dayIs(d, 0, 0) < 0; t++) {
            d = some(12);
        }
        int price = below(2) == 0 ? some(1000) : below(4) * 20;
        due("stay", hotel.stay(b, room, d, price), reference.stay(b, room, d, price));
    }

    private boolean isTaken(int room) {
        for (int b = 0; b < 10; b++) {
            if (reference.count(10 + b) == room) {
                return true;
            }
        }
        return false;
    }

    private int oneStay() {
        int b = some(10);
        for (int t = 0; t < 4 && reference.count(10 + b) < 0; t++) {
            b = some(10);
        }
        return b;
    }

    private void leave() {
        int b = some(10);
        due("leave", hotel.leave(b), reference.leave(b));
    }

    private void shift() {
        int b = oneStay();
        int hours = below(20) == 0 ? some(10) : below(7) - 3;
        due("shift", hotel.shift(b, hours), reference.shift(b, hours));
    }

    private String factor(int deep) {
        int kind = below(7);
        if (kind == 0 && deep > 0) {
            return "[" + sum(deep - 1) + "]";
        }
        return kind < 3 ? "" + below(below(4) == 0 ? 99999 : 6) : "" + "srfdctkng".charAt(below(9));
    }

    private String sum(int deep) {
        StringBuilder text = new StringBuilder(factor(deep));
        for (int i = below(3); i > 0; i--) {
            text.append("+-*/%".charAt(below(5))).append(factor(deep));
        }
        return text.toString();
    }

    private String piece(int deep) {
        int kind = below(8);
        if (kind == 0 && deep > 0) {
            return "!" + piece(deep - 1);
        }
        if (kind == 1 && deep > 0) {
            return "(" + condition(deep - 1) + ")";
        }
        return sum(deep > 0 ? 1 : 0) + "<>=".charAt(below(3)) + sum(deep > 0 ? 1 : 0);
    }

    private String condition(int deep) {
        StringBuilder text = new StringBuilder(piece(deep));
        for (int i = below(5) - 2; i > 0; i--) {
            text.append("&|".charAt(below(2))).append(piece(deep));
        }
        return text.toString();
    }

    private String drawnLaw() {
        if (below(8) == 0) {
            String opened = "";
            int deep = 4 + below(4);
            for (int i = 0; i < deep; i++) {
                opened += "(!([".charAt(below(4));
            }
            return "p" + "[[[[[[".substring(below(6)) + "1" + "]]".substring(below(2)) + "(" + opened + "s=1))))";
        }
        StringBuilder text = new StringBuilder();
        int clauses = below(10) == 0 ? 11 + below(4) : 1 + below(5);
        for (int i = 0; i < clauses; i++) {
            text.append(i > 0 ? ";" : "").append(below(2) == 0 ? "p" : "m");
            text.append(clauses > 5 ? "" + below(9) : sum(1));
            text.append('(').append(clauses > 5 ? "t<" + below(24) : condition(2)).append(')');
        }
        return text.toString();
    }

    private void tellLaw() {
        String text = garbled(drawnLaw(), "pmsrfdctkng0123456789()[]!&|<>=+-*/%;ax");
        if (text.length() > 160 && below(4) > 0) {
            text = "m" + below(5) + "(k=" + below(3) + "&t/[s-1]>2|n>g);p" + below(9) + "*r(!d=" + below(4) + ")";
        }
        feedBytes(Ask.bytesOf(text));
        int n = lengthFor(text);
        due("law " + text + " " + n, hotel.law(n), reference.law(n));
    }

    private void wants() {
        int kind = some(3);
        int hour = some(24);
        due("wants", hotel.wants(kind, hour), reference.wants(kind, hour));
    }

    private void gets() {
        int b = oneStay();
        int kind = some(3);
        int hour = some(24);
        due("gets", hotel.gets(b, kind, hour), reference.gets(b, kind, hour));
    }

    private void served() {
        int what = below(2) == 0 ? some(3) : 10 + oneStay();
        due("served " + what, hotel.served(what), reference.served(what));
    }

    private void can() {
        int set = someStays();
        int what = some(3);
        due("can " + set + " " + what, hotel.can(set, what), reference.can(set, what));
    }

    private void best() {
        int what = some(2);
        due("best " + what, hotel.best(what), reference.best(what));
    }

    private void smallest() {
        due("smallest", hotel.smallest(), reference.smallest());
    }

    private void costs() {
        int b = oneStay();
        due("costs " + b, hotel.costs(b), reference.costs(b));
    }

    /** At most so many STAYS, so that the reference is not too slow. */
    private int fewStays(int most) {
        int set = someStays();
        for (int b = 0; b < 10 && below(30) > 0 && Integer.bitCount(set) > most; b++) {
            set &= ~(1 << below(10));
        }
        return set;
    }

    private int oneOf(int set) {
        int b = some(12);
        for (int t = 0; t < 9 && b >= 0 && b < 12 && (set >> b & 1) == 0; t++) {
            b = some(12);
        }
        return b;
    }

    private void rooms() {
        int set = fewStays(below(4) == 0 ? 6 : 4);
        int n = below(20) == 0 ? some(8) : Integer.bitCount(set);
        int free = 0;
        for (int r = 0; r < reference.count(1); r++) {
            free |= 1 << r;
        }
        for (int b = 0; b < 10; b++) {
            if (reference.count(10 + b) >= 0 && (set >> b & 1) == 0) {
                free &= ~(1 << reference.count(10 + b));
            }
        }
        int[] told = new int[6];
        for (int i = 0; i < 6; i++) {
            told[i] = below(10);
            for (int t = 0; t < 40 && free != 0 && (free >> told[i] & 1) == 0; t++) {
                told[i] = below(10);
            }
            free &= below(20) == 0 ? free : ~(1 << told[i]);
        }
        feedBytes(told);
        int what = below(2) == 0 ? 10 : oneOf(set);
        due("rooms " + set + " " + n + " " + what, hotel.rooms(set, n, what), reference.rooms(set, n, what));
        emptyTape();
    }

    private void shifting() {
        int k = below(3) == 0 ? some(4) : 1 + below(2);
        int set = fewStays(k == 1 ? 5 : below(10) == 0 ? 5 : 3);
        int what = below(2) == 0 ? 10 + below(2) : oneOf(set);
        due("shifting " + set + " " + k + " " + what, hotel.shifting(set, k, what), reference.shifting(set, k, what));
    }

    private void larger() {
        int what = some(5);
        due("larger " + what, hotel.larger(what), reference.larger(what));
    }

    private void fair() {
        int set = fewStays(below(20) == 0 ? 9 : 6);
        int b = oneOf(set);
        int what = some(2);
        due("fair " + set + " " + b + " " + what, hotel.fair(set, b, what), reference.fair(set, b, what));
    }

    private void drought() {
        int set = fewStays(below(10) == 0 ? 6 : 4);
        int what = below(3) == 0 ? -1 : some(Math.max(1, Integer.bitCount(set)));
        due("drought " + set + " " + what, hotel.drought(set, what), reference.drought(set, what));
    }

    private void meter() {
        emptyTape();
        int n = below(30) == 0 ? some(5) : 1 + below(3);
        int[] bytes = new int[48];
        int[] which = {below(12), below(12), below(12)};
        for (int hour = 0; hour < 24; hour++) {
            int sum = below(500) == 0 ? 1 : 0;
            for (int i = 0; i < n && i < 3; i++) {
                for (int t = 0; t < 40 && hour == 0 && reference.dayIs(which[i], 0, 0) < 0; t++) {
                    which[i] = below(12);
                }
                sum += Math.max(0, reference.dayIs(which[i], 0, hour));
            }
            bytes[2 * hour] = sum >> 8;
            bytes[2 * hour + 1] = sum & 255;
        }
        if (below(20) > 0) {
            feedBytes(bytes);
        }
        int what = some(5) - 1;
        due("meter " + n + " " + what, hotel.meter(n, what), reference.meter(n, what));
        emptyTape();
    }

    private void draw() {
        if (below(3) == 0) {
            int x = some(65536);
            due("seed", hotel.seed(x), reference.seed(x));
        }
        int n = some(21);
        due("draw " + n, hotel.draw(n), reference.draw(n));
    }

    private void keepOrUndo() {
        if (below(2) == 0) {
            due("keep", hotel.keep(), reference.keep());
        } else {
            due("undo", hotel.undo(), reference.undo());
        }
    }

    private void check() {
        emptyTape();
        int d = some(12);
        int kind = some(3);
        int n = some(25);
        int[] bytes = new int[100];
        for (int hour = 0; hour < 24; hour++) {
            int number = reference.dayIs(d, kind, hour) + (below(60) == 0 ? 1 << below(32) : 0);
            for (int i = 0; i < 4; i++) {
                bytes[4 * hour + i] = number >> 24 - 8 * i & 255;
            }
        }
        if (below(20) > 0) {
            feedBytes(bytes);
        }
        due("check " + d + " " + kind + " " + n, hotel.check(d, kind, n), reference.check(d, kind, n));
        emptyTape();
    }

    private void count() {
        int what = some(60);
        due("count " + what, hotel.count(what), reference.count(what));
        if (below(4) == 0) {
            feedBytes(new int[20 * below(11)]);
            emptyTape();
        }
    }

    private void emptyTape() {
        if (reference.count(4) > 0) {
            due("law", hotel.law(1), reference.law(1));
        }
    }
}
