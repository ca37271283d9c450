import java.io.IOException;
import java.lang.management.ManagementFactory;
import java.lang.reflect.Array;
import java.lang.reflect.Field;
import java.lang.reflect.Method;
import java.lang.reflect.Modifier;
import java.nio.file.Files;
import java.nio.file.Path;
import java.util.Arrays;
import java.util.Collections;
import java.util.IdentityHashMap;
import java.util.List;
import java.util.Set;
import java.util.TreeSet;
import java.util.regex.Matcher;
import java.util.regex.Pattern;

/** Rules of ../shared/LANGUAGE.md that are asked of the text and the compiled class (TreeRulesTest has the others); run at the project's root. */
final class RulesTest {
    private static final Path SOURCE = Path.of("src/main/java/WeatherHotel.java");
    private static final String NUMBERS = "feed/5 day/2 dayIs/3 room/1 law/1 wants/2 gets/3 served/1 can/2 best/1 smallest/0 costs/1"
            + " rooms/3 shifting/3 larger/1 drought/2 meter/2 draw/1 keep/0 check/3 count/1";
    private static final String LONG_NUMBERS = "fair/3";
    private static final String BOOLEANS = "plant/3 pipes/2 cellar/2 stay/4 leave/1 shift/2 seed/1 undo/0";

    private RulesTest() {
    }

    public static void main(String[] args) throws IOException, IllegalAccessException {
        face();
        source();
        size();
        memory();
        Ask.end();
    }

    private static void face() {
        Class<?> hotel = WeatherHotel.class;
        due("public and final", Modifier.isPublic(hotel.getModifiers()) && Modifier.isFinal(hotel.getModifiers()));
        Set<String> names = new TreeSet<>();
        for (Method method : hotel.getDeclaredMethods()) {
            if (!Modifier.isPrivate(method.getModifiers())) {
                names.add(method.getName());
                due(method + " takes ints", Arrays.stream(method.getParameterTypes()).allMatch(type -> type == int.class));
                due(method + " belongs to the object", !Modifier.isStatic(method.getModifiers()));
            }
        }
        methodsAre(int.class, NUMBERS);
        methodsAre(long.class, LONG_NUMBERS);
        methodsAre(boolean.class, BOOLEANS);
        for (Method method : hotel.getDeclaredMethods()) {
            due(method + " bears a public name", Modifier.isPublic(method.getModifiers()) || !names.contains(method.getName()));
        }
        for (Field field : hotel.getDeclaredFields()) {
            due(field + " is open", Modifier.isPrivate(field.getModifiers()) != field.getName().equals("NONE"));
        }
        due("no other open method", names.size() == 30);
        due("one constructor", hotel.getDeclaredConstructors().length == 1 && hotel.getConstructors().length == 1);
    }

    private static void methodsAre(Class<?> answer, String face) {
        Set<String> open = new TreeSet<>();
        for (Method method : WeatherHotel.class.getDeclaredMethods()) {
            if (!Modifier.isPrivate(method.getModifiers()) && method.getReturnType() == answer) {
                open.add(method.getName() + "/" + method.getParameterCount());
            }
        }
        due("methods of the document that answer " + answer, open.equals(new TreeSet<>(List.of(face.split(" ")))));
    }

    /** Rules 1, 3 and 4: no package, no library but what is listed, no strange signs. */
    private static void source() throws IOException {
        String code = Files.readString(SOURCE);
        due("a package line", !Pattern.compile("(?m)^package\\b").matcher(code).find());
        Matcher imports = Pattern.compile("(?m)^import (.+);").matcher(code);
        while (imports.find()) {
            due("import " + imports.group(1), List.of("java.util.Arrays", "java.util.ArrayList", "java.util.List").contains(imports.group(1)));
        }
        for (int i = 0; i < code.length(); i++) {
            if (code.charAt(i) > 126) {
                due("a sign above 126 at " + i, false);
            }
        }
    }

    /** All calls of a run live in one room; even if each of 512 calls made a hotel, all of them would be in it. */
    private static void size() throws IllegalAccessException {
        Set<Object> seen = Collections.newSetFromMap(new IdentityHashMap<>());
        long elements = elementsOf(new WeatherHotel(), seen);
        due("objects of a hotel: " + seen.size(), 512L * seen.size() <= 600_000);
        due("fields and elements of a hotel: " + elements, 512 * elements <= 7_300_000);
    }

    private static long elementsOf(Object one, Set<Object> seen) throws IllegalAccessException {
        if (one == null || !seen.add(one)) {
            return 0;
        }
        long elements = 0;
        if (one instanceof int[][] rows) {
            for (int[] row : rows) {
                elements += 1 + elementsOf(row, seen);
            }
            return elements;
        }
        if (one.getClass().isArray()) {
            return Array.getLength(one);
        }
        for (Field field : one.getClass().getDeclaredFields()) {
            if (!Modifier.isStatic(field.getModifiers())) {
                field.setAccessible(true);
                elements += 1 + (field.getType().isPrimitive() ? 0 : elementsOf(field.get(one), seen));
            }
        }
        return elements;
    }

    /** No call makes an object: all is made with the hotel. */
    private static void memory() {
        com.sun.management.ThreadMXBean threads = (com.sun.management.ThreadMXBean) ManagementFactory.getThreadMXBean();
        WeatherHotel hotel = new WeatherHotel();
        int[] day = Ask.bytesOf("r9(0-24);w3(2-5);l7(9-14)           ");
        int[] law = Ask.bytesOf("mg+1(k=0|s>3);p[s+t]%5(!t=3)            ");
        for (int b = 0; b < 10; b++) {
            hotel.room(b % 4);
        }
        long most = 0;
        for (int round = 0; round < 5; round++) {
            long before = threads.getThreadAllocatedBytes(Thread.currentThread().getId());
            callAll(hotel, packed(day), packed(law));
            most = threads.getThreadAllocatedBytes(Thread.currentThread().getId()) - before;
        }
        due("a round of all calls made " + most + " bytes", most < 2000);
    }

    private static int[] packed(int[] bytes) {
        int[] ints = new int[10];
        for (int i = 0; i < 40 && i < bytes.length; i++) {
            ints[i / 4] |= bytes[i] << 24 - 8 * (i % 4);
        }
        return ints;
    }

    private static void feed(WeatherHotel hotel, int[] ten) {
        hotel.feed(ten[0], ten[1], ten[2], ten[3], ten[4]);
        hotel.feed(ten[5], ten[6], ten[7], ten[8], ten[9]);
    }

    private static void callAll(WeatherHotel hotel, int[] day, int[] law) {
        feed(hotel, day);
        hotel.day(0, 25);
        feed(hotel, law);
        hotel.law(28);
        for (int b = 0; b < 10; b++) {
            hotel.stay(b, b, 0, 10 * b);
            hotel.shift(b, b % 4);
            hotel.gets(b, 0, 0);
            hotel.costs(b);
        }
        hotel.plant(0, 40, 1);
        hotel.plant(1, 20, 1);
        hotel.plant(2, 50, 1);
        hotel.cellar(500, 9);
        hotel.pipes(2, 20);
        hotel.wants(0, 0);
        hotel.served(0);
        hotel.can(1023, 0);
        hotel.best(0);
        hotel.smallest();
        hotel.feed(0x00010203, 0x04050000, 0, 0, 0);
        hotel.rooms(63, 6, 10);
        hotel.shifting(31, 2, 11);
        hotel.larger(0);
        hotel.fair(255, 0, 0);
        hotel.drought(63, -1);
        feed(hotel, day);
        hotel.feed(0, 0, 0, 0, 0);
        hotel.meter(3, -1);
        hotel.feed(0, 0, 0, 0, 0);
        hotel.check(0, 0, 5);
        hotel.seed(3);
        hotel.draw(20);
        hotel.keep();
        hotel.undo();
        hotel.count(0);
        hotel.dayIs(0, 0, 0);
        hotel.leave(9);
    }

    private static void due(String what, boolean holds) {
        Ask.due(what, holds, true);
    }
}
