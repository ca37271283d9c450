import java.util.ArrayList;
import java.util.Arrays;
import java.util.List;
import java.util.function.IntBinaryOperator;
import java.math.BigInteger;

/**
 * The document once more, as plainly and as slowly as can be: all sets, orders and rows are tried,
 * and texts are read into functions. The random runs hold the class against it.
 */
final class Reference {
    record Stay(int room, int day, int price, int shift) {
    }

    private static final class Fault extends RuntimeException {
        private static final long serialVersionUID = 1L;
        private final int answer;

        Fault(int number, int place) {
            answer = -1000 * number - place;
        }
    }

    private static final class Refused extends RuntimeException {
        private static final long serialVersionUID = 1L;
    }

    private interface Sum {
        int of(int[] letters);
    }

    private interface Condition {
        boolean of(int[] letters);
    }

    private record Clause(char letter, Sum sum, Condition condition) {
    }

    private record Result(int[][][] given, int harm, int[] missed, int water) {
    }

    private List<Integer> tape = new ArrayList<>();
    private final int[][][] days = new int[12][][];
    private final List<Integer> floors = new ArrayList<>();
    private final int[] plant = new int[3];
    private final int[] pence = new int[3];
    private final int[] pipes = {999, 999, 999, 999};
    private int water = 9999;
    private int comes = 0;
    private Stay[] stays = new Stay[10];
    private int x = 1;
    private Stay[] keptStays = null;
    private int keptX = 0;
    private List<Clause> law = new ArrayList<>();

    // ---- texts

    private static final class Reader {
        private final List<Integer> text;
        private int at = 0;

        Reader(List<Integer> text) {
            this.text = text;
        }

        boolean ended() {
            return at == text.size();
        }

        boolean sees(String signs) {
            return !ended() && signs.indexOf(text.get(at)) >= 0;
        }

        char must(String signs) {
            if (!sees(signs)) {
                throw new Fault(1, at);
            }
            return (char) (int) text.get(at++);
        }
    }

    private static final String DIGITS = "0123456789";

    private static int dayNumber(Reader reader) {
        int value = reader.must(DIGITS) - '0';
        return reader.sees(DIGITS) ? 10 * value + reader.must(DIGITS) - '0' : value;
    }

    private static int dayHour(Reader reader, int least, int most) {
        int start = reader.at;
        int hour = dayNumber(reader);
        if (hour < least || hour > most) {
            throw new Fault(3, start);
        }
        return hour;
    }

    private static int readDay(Reader reader, int[][] day) {
        int parts = 0;
        while (true) {
            int start = reader.at;
            int kind = "rwl".indexOf(reader.must("rwl"));
            if (++parts == 15) {
                throw new Fault(4, start);
            }
            int amount = dayNumber(reader);
            reader.must("(");
            int from = dayHour(reader, 0, 23);
            reader.must("-");
            int to = dayHour(reader, from + 1, 24);
            reader.must(")");
            for (int hour = from; hour < to; hour++) {
                day[kind][hour] = Math.min(99, day[kind][hour] + amount);
            }
            if (reader.ended()) {
                return parts;
            }
            reader.must(";");
        }
    }

    private static void opens(Reader reader, int open) {
        if (open == 6) {
            throw new Fault(5, reader.at);
        }
        reader.at++;
    }

    private static Sum readFactor(Reader reader, int open) {
        if (reader.sees("[")) {
            opens(reader, open);
            Sum inner = readSum(reader, open + 1);
            reader.must("]");
            return inner;
        }
        String letters = "srfdctkng";
        int first = reader.must(letters + DIGITS);
        if (letters.indexOf(first) >= 0) {
            int which = letters.indexOf(first);
            return values -> values[which];
        }
        int value = first - '0';
        int digits = 1;
        while (reader.sees(DIGITS)) {
            if (++digits == 6) {
                throw new Fault(2, reader.at);
            }
            value = 10 * value + reader.must(DIGITS) - '0';
        }
        int all = value;
        return values -> all;
    }

    private static Sum joined(Sum left, Sum right, IntBinaryOperator by) {
        return values -> by.applyAsInt(left.of(values), right.of(values));
    }

    private static int checked(int divisor) {
        if (divisor == 0) {
            throw new Refused();
        }
        return divisor;
    }

    private static Sum readTerm(Reader reader, int open) {
        Sum left = readFactor(reader, open);
        while (reader.sees("*/%")) {
            char by = reader.must("*/%");
            Sum right = readFactor(reader, open);
            left = by == '*' ? joined(left, right, (a, b) -> a * b)
                    : by == '/' ? joined(left, right, (a, b) -> a / checked(b))
                    : joined(left, right, (a, b) -> a % checked(b));
        }
        return left;
    }

    private static Sum readSum(Reader reader, int open) {
        Sum left = readTerm(reader, open);
        while (reader.sees("+-")) {
            char by = reader.must("+-");
            Sum right = readTerm(reader, open);
            left = by == '+' ? joined(left, right, (a, b) -> a + b) : joined(left, right, (a, b) -> a - b);
        }
        return left;
    }

    private static Condition readPiece(Reader reader, int open) {
        if (reader.sees("!")) {
            opens(reader, open);
            Condition inner = readPiece(reader, open + 1);
            return values -> !inner.of(values);
        }
        if (reader.sees("(")) {
            opens(reader, open);
            Condition inner = readCondition(reader, open + 1);
            reader.must(")");
            return inner;
        }
        Sum left = readSum(reader, open);
        char by = reader.must("<>=");
        Sum right = readSum(reader, open);
        return values -> {
            int a = left.of(values);
            int b = right.of(values);
            return by == '<' ? a < b : by == '>' ? a > b : a == b;
        };
    }

    private static Condition readPart(Reader reader, int open) {
        Condition left = readPiece(reader, open);
        while (reader.sees("&")) {
            reader.must("&");
            Condition before = left;
            Condition right = readPiece(reader, open);
            left = values -> before.of(values) && right.of(values);
        }
        return left;
    }

    private static Condition readCondition(Reader reader, int open) {
        Condition left = readPart(reader, open);
        while (reader.sees("|")) {
            reader.must("|");
            Condition before = left;
            Condition right = readPart(reader, open);
            left = values -> before.of(values) || right.of(values);
        }
        return left;
    }

    private static List<Clause> readLaw(Reader reader) {
        List<Clause> clauses = new ArrayList<>();
        while (true) {
            int start = reader.at;
            char letter = reader.must("pm");
            if (clauses.size() == 12) {
                throw new Fault(4, start);
            }
            Sum sum = readSum(reader, 0);
            reader.must("(");
            Condition condition = readCondition(reader, 1);
            reader.must(")");
            clauses.add(new Clause(letter, sum, condition));
            if (reader.ended()) {
                return clauses;
            }
            reader.must(";");
        }
    }

    private int lawSays(char letter, int none, int most, int... letters) {
        for (Clause clause : law) {
            if (clause.letter() == letter) {
                boolean holds;
                try {
                    holds = clause.condition().of(letters);
                } catch (Refused refused) {
                    holds = false;
                }
                if (holds) {
                    try {
                        return Math.max(0, Math.min(most, clause.sum().of(letters)));
                    } catch (Refused refused) {
                        return 0;
                    }
                }
            }
        }
        return none;
    }

    // ---- serving

    private static int want(int[][][] days, Stay stay, int kind, int hour) {
        return days[stay.day()][kind][(hour - stay.shift() + 48) % 24];
    }

    private int floorOf(Stay stay) {
        return floors.get(stay.room());
    }

    private int soon(Stay[] all, int b, int hour) {
        Stay s = all[b];
        return lawSays('p', 0, 999, b, s.room(), floorOf(s), s.day(), s.price(), hour, 0, 0, 0);
    }

    /** In a told order, or, if that is null, as THE LAW says. */
    private Result serve(Stay[] all, int[] fixed) {
        int[][][] given = new int[10][3][24];
        int[] missed = new int[10];
        int harm = 0;
        int cellar = water;
        for (int hour = 0; hour < 24; hour++) {
            cellar = Math.min(9999, cellar + comes);
            int[] left = plant.clone();
            int[] pipe = pipes.clone();
            List<Integer> order = new ArrayList<>();
            if (fixed != null) {
                for (int b : fixed) {
                    order.add(b);
                }
            } else {
                int[] p = new int[10];
                for (int b = 0; b < 10; b++) {
                    if (all[b] != null) {
                        order.add(b);
                        p[b] = soon(all, b, hour);
                    }
                }
                if (!law.isEmpty()) {
                    order.sort((a, b) -> p[a] != p[b] ? p[b] - p[a] : a - b);
                }
            }
            for (int b : order) {
                Stay s = all[b];
                for (int kind = 0; kind < 3; kind++) {
                    int wanted = want(days, s, kind, hour);
                    int got = Math.min(wanted, left[kind]);
                    if (kind == 0) {
                        got = Math.min(got, Math.min(pipe[floorOf(s)], cellar));
                        pipe[floorOf(s)] -= got;
                        cellar -= got;
                    }
                    left[kind] -= got;
                    given[b][kind][hour] = got;
                    int gone = wanted - got;
                    missed[b] += gone;
                    if (gone > 0) {
                        harm += gone * lawSays('m', 1, 99, b, s.room(), floorOf(s), s.day(), s.price(),
                                hour, kind, wanted, gone);
                    }
                }
            }
        }
        return new Result(given, harm, missed, cellar);
    }

    private static Stay[] only(Stay[] all, int set) {
        Stay[] some = new Stay[10];
        for (int b = 0; b < 10; b++) {
            some[b] = (set >> b & 1) == 1 ? all[b] : null;
        }
        return some;
    }

    /** Whether something is missed does not hang on THE LAW; without it, this is faster. */
    private boolean fits(Stay[] all) {
        List<Clause> own = law;
        law = List.of();
        int missed = Arrays.stream(serve(all, null).missed()).sum();
        law = own;
        return missed == 0;
    }

    private int present() {
        int bits = 0;
        for (int b = 0; b < 10; b++) {
            bits |= stays[b] != null ? 1 << b : 0;
        }
        return bits;
    }

    private boolean areStays(int set, int most) {
        return set > 0 && (set & ~present()) == 0 && Integer.bitCount(set) <= most;
    }

    private int prices(int set) {
        int sum = 0;
        for (int b = 0; b < 10; b++) {
            sum += (set >> b & 1) == 1 ? stays[b].price() : 0;
        }
        return sum;
    }

    private static boolean beats(int value, int set, int otherValue, int other) {
        if (value != otherValue) {
            return value > otherValue;
        }
        int size = Integer.bitCount(set);
        int otherSize = Integer.bitCount(other);
        return size != otherSize ? size < otherSize : set < other;
    }

    private int bestOf(int all) {
        int best = 0;
        for (int set = 0; set < 1024; set++) {
            if ((set & ~all) == 0 && beats(prices(set), set, prices(best), best) && fits(only(stays, set))) {
                best = set;
            }
        }
        return best;
    }

    private int wantOf(int set, int kind, int hour, int floor) {
        int sum = 0;
        for (int b = 0; b < 10; b++) {
            if ((set >> b & 1) == 1 && (floor < 0 || floorOf(stays[b]) == floor)) {
                sum += want(days, stays[b], kind, hour);
            }
        }
        return sum;
    }

    private int peak(int set, int kind) {
        int peak = 0;
        for (int hour = 0; hour < 24; hour++) {
            peak = Math.max(peak, wantOf(set, kind, hour, -1));
        }
        return peak;
    }

    private static List<int[]> orders(int[] of) {
        List<int[]> all = new ArrayList<>();
        if (of.length == 0) {
            all.add(new int[0]);
        }
        for (int first = 0; first < of.length; first++) {
            int[] others = new int[of.length - 1];
            for (int i = 0; i < others.length; i++) {
                others[i] = of[i < first ? i : i + 1];
            }
            for (int[] rest : orders(others)) {
                int[] row = new int[of.length];
                row[0] = of[first];
                System.arraycopy(rest, 0, row, 1, rest.length);
                all.add(row);
            }
        }
        return all;
    }

    private static int[] members(int set) {
        int[] answer = new int[Integer.bitCount(set)];
        int at = 0;
        for (int b = 0; b < 31; b++) {
            if ((set >> b & 1) == 1) {
                answer[at++] = b;
            }
        }
        return answer;
    }

    private static int placeIn(int[] row, int value) {
        for (int i = 0; i < row.length; i++) {
            if (row[i] == value) {
                return i;
            }
        }
        return -1;
    }

    private boolean told(int d) {
        return d >= 0 && d < 12 && days[d] != null;
    }

    private boolean isStay(int b) {
        return b >= 0 && b < 10 && stays[b] != null;
    }

    private static boolean slot(int kind, int hour) {
        return kind >= 0 && kind < 3 && hour >= 0 && hour < 24;
    }

    private static boolean upTo(int value, int most) {
        return value >= 0 && value <= most;
    }

    private List<Integer> takeTape(int n) {
        List<Integer> text = new ArrayList<>(tape.subList(0, n));
        tape = new ArrayList<>();
        return text;
    }

    // ---- the calls

    int feed(int... five) {
        if (tape.size() > 180) {
            return -1;
        }
        for (int number : five) {
            for (int bits = 24; bits >= 0; bits -= 8) {
                tape.add(number >>> bits & 255);
            }
        }
        return tape.size();
    }

    int day(int d, int n) {
        if (!upTo(d, 11) || n < 1 || n > 120 || n > tape.size()) {
            return -1;
        }
        int[][] row = new int[3][24];
        try {
            int parts = readDay(new Reader(takeTape(n)), row);
            days[d] = row;
            return parts;
        } catch (Fault fault) {
            return fault.answer;
        }
    }

    int dayIs(int d, int kind, int hour) {
        return told(d) && slot(kind, hour) ? days[d][kind][hour] : -1;
    }

    int room(int floor) {
        if (!upTo(floor, 3) || floors.size() == 10) {
            return -1;
        }
        floors.add(floor);
        return floors.size() - 1;
    }

    boolean plant(int kind, int most, int each) {
        if (!upTo(kind, 2) || !upTo(most, 999) || !upTo(each, 999)) {
            return false;
        }
        plant[kind] = most;
        pence[kind] = each;
        return true;
    }

    boolean pipes(int floor, int most) {
        if (!upTo(floor, 3) || !upTo(most, 999)) {
            return false;
        }
        pipes[floor] = most;
        return true;
    }

    boolean cellar(int first, int each) {
        if (!upTo(first, 9999) || !upTo(each, 99)) {
            return false;
        }
        water = first;
        comes = each;
        return true;
    }

    boolean stay(int b, int room, int d, int price) {
        if (!upTo(b, 9) || !upTo(room, floors.size() - 1) || !told(d) || !upTo(price, 999)) {
            return false;
        }
        for (int other = 0; other < 10; other++) {
            if (other != b && stays[other] != null && stays[other].room() == room) {
                return false;
            }
        }
        stays[b] = new Stay(room, d, price, 0);
        return true;
    }

    boolean leave(int b) {
        if (!isStay(b)) {
            return false;
        }
        stays[b] = null;
        return true;
    }

    boolean shift(int b, int hours) {
        if (!isStay(b) || hours < -3 || hours > 3) {
            return false;
        }
        Stay s = stays[b];
        stays[b] = new Stay(s.room(), s.day(), s.price(), hours);
        return true;
    }

    int law(int n) {
        if (n < 1 || n > 160 || n > tape.size()) {
            return -1;
        }
        try {
            law = readLaw(new Reader(takeTape(n)));
            return law.size();
        } catch (Fault fault) {
            return fault.answer;
        }
    }

    int wants(int kind, int hour) {
        return slot(kind, hour) ? wantOf(present(), kind, hour, -1) : -1;
    }

    int gets(int b, int kind, int hour) {
        return isStay(b) && slot(kind, hour) ? serve(stays, null).given()[b][kind][hour] : -1;
    }

    int served(int what) {
        Result result = serve(stays, null);
        if (what == 0) {
            return result.harm();
        }
        if (what == 1) {
            return result.water();
        }
        if (what == 2) {
            return Arrays.stream(result.missed()).sum();
        }
        return isStay(what - 10) ? result.missed()[what - 10] : -1;
    }

    int can(int set, int what) {
        if (!areStays(set, 10) || !upTo(what, 2)) {
            return -3;
        }
        if (what == 0) {
            return fits(only(stays, set)) ? 1 : 0;
        }
        int cellar = water;
        for (int hour = 0; hour < 24; hour++) {
            cellar = Math.min(9999, cellar + comes);
            boolean[] why = new boolean[8];
            for (int i = 0; i < 3; i++) {
                why[i] = wantOf(set, i, hour, -1) > plant[i];
            }
            for (int f = 0; f < 4; f++) {
                why[3 + f] = wantOf(set, 0, hour, f) > pipes[f];
            }
            why[7] = wantOf(set, 0, hour, -1) > cellar;
            for (int i = 0; i < 8; i++) {
                if (why[i]) {
                    return what == 1 ? hour : i;
                }
            }
            cellar -= wantOf(set, 0, hour, -1);
        }
        return -2;
    }

    int best(int what) {
        if (!upTo(what, 1)) {
            return -1;
        }
        int best = bestOf(present());
        return what == 0 ? prices(best) : best;
    }

    int smallest() {
        int smallest = 0;
        for (int set = 1; set < 1024; set++) {
            boolean fewer = smallest == 0 || Integer.bitCount(set) < Integer.bitCount(smallest);
            if ((set & ~present()) == 0 && fewer && !fits(only(stays, set))) {
                smallest = set;
            }
        }
        return smallest;
    }

    int costs(int b) {
        if (!isStay(b)) {
            return -1000000;
        }
        int best = bestOf(present());
        int its = (best >> b & 1) == 1 ? stays[b].price() : 0;
        return prices(bestOf(present() & ~(1 << b))) - (prices(best) - its);
    }

    int rooms(int set, int n, int what) {
        boolean asked = what == 10 || upTo(what, 9) && (set >> what & 1) == 1;
        if (!areStays(set, 6) || n != Integer.bitCount(set) || !asked || tape.size() < n) {
            return -1;
        }
        int[] told = takeTape(n).stream().mapToInt(i -> i).sorted().toArray();
        for (int i = 0; i < n; i++) {
            if (told[i] >= floors.size() || i > 0 && told[i] == told[i - 1]) {
                return -3;
            }
            for (int b = 0; b < 10; b++) {
                if (stays[b] != null && stays[b].room() == told[i] && (set >> b & 1) == 0) {
                    return -3;
                }
            }
        }
        int[] who = members(set);
        for (int[] row : orders(told)) {
            Stay[] moved = stays.clone();
            for (int i = 0; i < n; i++) {
                Stay s = stays[who[i]];
                moved[who[i]] = new Stay(row[i], s.day(), s.price(), s.shift());
            }
            if (fits(moved)) {
                if (what == 10) {
                    stays = moved;
                    return 1;
                }
                return row[placeIn(who, what)];
            }
        }
        return what == 10 ? 0 : -2;
    }

    int shifting(int set, int k, int what) {
        boolean asked = what == 10 || what == 11 || upTo(what, 9) && (set >> what & 1) == 1;
        if (!areStays(set, 5) || k < 1 || k > 2 || !asked) {
            return -1;
        }
        int[] who = members(set);
        int width = 2 * k + 1;
        int rows = (int) Math.pow(width, who.length);
        Stay[] best = null;
        int fewest = 1000;
        for (int row = 0; row < rows; row++) {
            Stay[] moved = stays.clone();
            int rest = row;
            int hours = 0;
            boolean within = true;
            for (int i = who.length - 1; i >= 0; i--) {
                int by = rest % width - k;
                rest /= width;
                Stay s = stays[who[i]];
                moved[who[i]] = new Stay(s.room(), s.day(), s.price(), s.shift() + by);
                hours += Math.abs(by);
                within &= Math.abs(s.shift() + by) <= 3;
            }
            if (within && hours < fewest && fits(moved)) {
                fewest = hours;
                best = moved;
            }
        }
        if (best == null) {
            return -2;
        }
        if (what == 11) {
            stays = best;
        }
        return what >= 10 ? fewest : best[what].shift() + 3;
    }

    int larger(int what) {
        if (!upTo(what, 4)) {
            return -1;
        }
        int[] own = plant.clone();
        int best = 0;
        int bestBrings = 0;
        int[] bestMore = new int[3];
        for (int set = 0; set < 1024; set++) {
            if ((set & ~present()) == 0) {
                int[] more = new int[3];
                int brings = prices(set);
                for (int i = 0; i < 3; i++) {
                    more[i] = Math.max(0, peak(set, i) - own[i]);
                    brings -= more[i] * pence[i];
                    plant[i] = own[i] + more[i];
                }
                if (beats(brings, set, bestBrings, best) && fits(only(stays, set))) {
                    best = set;
                    bestBrings = brings;
                    bestMore = more;
                }
                System.arraycopy(own, 0, plant, 0, 3);
            }
        }
        return what == 0 ? bestBrings : what == 1 ? best : bestMore[what - 2];
    }

    long fair(int set, int b, int what) {
        if (!areStays(set, 8) || !upTo(b, 9) || (set >> b & 1) == 0 || !upTo(what, 1)) {
            return -1;
        }
        List<int[]> all = orders(members(set));
        long sum = 0;
        long[] costOf = new long[1024];
        Arrays.fill(costOf, -1);
        for (int[] order : all) {
            int ahead = 0;
            for (int i = 0; order[i] != b; i++) {
                ahead |= 1 << order[i];
            }
            for (int some : new int[] {ahead, ahead | 1 << b}) {
                if (costOf[some] < 0) {
                    costOf[some] = 0;
                    for (int kind = 0; kind < 3; kind++) {
                        costOf[some] += (long) pence[kind] * peak(some, kind);
                    }
                }
            }
            sum += costOf[ahead | 1 << b] - costOf[ahead];
        }
        BigInteger above = BigInteger.valueOf(sum);
        BigInteger below = BigInteger.valueOf(all.size());
        BigInteger common = above.gcd(below);
        return (what == 0 ? above : below).divide(common).longValueExact();
    }

    int drought(int set, int what) {
        if (!areStays(set, 6)) {
            return -3;
        }
        if (what != -1 && !upTo(what, Integer.bitCount(set) - 1)) {
            return -2;
        }
        int least = Integer.MAX_VALUE;
        int[] best = null;
        for (int[] order : orders(members(set))) {
            int harm = serve(only(stays, set), order).harm();
            if (harm < least) {
                least = harm;
                best = order;
            }
        }
        return what == -1 ? least : best[what];
    }

    int meter(int n, int what) {
        if (n < 1 || n > 3 || !(what == -1 || what == 3 || upTo(what, n - 1)) || tape.size() < 48) {
            return -3;
        }
        List<Integer> bytes = takeTape(48);
        int count = 0;
        int[] first = null;
        int inAll = 4095;
        for (int row = 0; row < Math.pow(12, n); row++) {
            int[] which = new int[n];
            int rest = row;
            for (int i = n - 1; i >= 0; i--) {
                which[i] = rest % 12;
                rest /= 12;
            }
            if (isJust(which, bytes)) {
                count++;
                first = first == null ? which : first;
                int bits = 0;
                for (int d : which) {
                    bits |= 1 << d;
                }
                inAll &= bits;
            }
        }
        if (what == -1) {
            return count;
        }
        return count == 0 ? -2 : what == 3 ? inAll : first[what];
    }

    private boolean isJust(int[] which, List<Integer> bytes) {
        for (int i = 0; i < which.length; i++) {
            if (!told(which[i]) || i > 0 && which[i] < which[i - 1]) {
                return false;
            }
        }
        for (int hour = 0; hour < 24; hour++) {
            int sum = 0;
            for (int d : which) {
                sum += days[d][0][hour];
            }
            if (sum != 256 * bytes.get(2 * hour) + bytes.get(2 * hour + 1)) {
                return false;
            }
        }
        return true;
    }

    boolean seed(int value) {
        if (!upTo(value, 65535)) {
            return false;
        }
        x = value;
        return true;
    }

    int draw(int n) {
        if (n < 1 || n > 20) {
            return -1;
        }
        for (int i = 0; i < n; i++) {
            x = (int) ((25173L * x + 13849) % 65536);
            Stay s = stays[x % 10];
            int d = x / 10 % 12;
            if (s != null && told(d)) {
                stays[x % 10] = new Stay(s.room(), d, s.price(), s.shift());
            }
        }
        return serve(stays, null).harm();
    }

    int keep() {
        keptStays = stays.clone();
        keptX = x;
        return Integer.bitCount(present());
    }

    boolean undo() {
        if (keptStays == null) {
            return false;
        }
        stays = keptStays.clone();
        x = keptX;
        return true;
    }

    int check(int d, int kind, int n) {
        if (!told(d) || !upTo(kind, 2) || !upTo(n, 24) || tape.size() < 4 * n) {
            return -2;
        }
        List<Integer> bytes = takeTape(4 * n);
        for (int i = 0; i < n; i++) {
            long number = 0;
            for (int j = 0; j < 4; j++) {
                number = 256 * number + bytes.get(4 * i + j);
            }
            if ((int) number != days[d][kind][i]) {
                return i;
            }
        }
        return -1;
    }

    int count(int what) {
        if (what == 0) {
            int bits = 0;
            for (int d = 0; d < 12; d++) {
                bits |= told(d) ? 1 << d : 0;
            }
            return bits;
        }
        if (what >= 1 && what <= 5) {
            return new int[] {0, floors.size(), present(), law.size(), tape.size(), x}[what];
        }
        if (what >= 50 && what < 60) {
            return what - 50 < floors.size() ? floors.get(what - 50) : -1;
        }
        if (what >= 10 && what < 50 && stays[what % 10] != null) {
            Stay s = stays[what % 10];
            return new int[] {s.room(), s.day(), s.price(), s.shift() + 3}[what / 10 - 1];
        }
        return -1;
    }
}
