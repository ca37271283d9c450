import java.io.IOException;
import java.lang.management.ManagementFactory;
import java.lang.reflect.Field;
import java.lang.reflect.Method;
import java.lang.reflect.Modifier;
import java.nio.file.Files;
import java.nio.file.Path;
import java.util.List;
import java.util.Set;
import java.util.TreeSet;
import java.util.regex.Matcher;
import java.util.regex.Pattern;

/** Those rules of ../shared/LANGUAGE.md that can be asked of the source and the compiled class; run at the project's root. */
final class RulesTest {
    private static final Path SOURCE = Path.of("src/main/java/WeatherHotel.java");
    private static final String FACE = "feed/5 day/2 dayIs/3 room/1 plant/3 pipes/2 cellar/2 stay/4 leave/1 shift/2 law/1 wants/2"
            + " gets/3 served/1 can/2 best/1 smallest/0 costs/1 rooms/3 shifting/3 larger/1 fair/3 drought/2 meter/2 seed/1"
            + " draw/1 keep/0 undo/0 check/3 count/1";

    private RulesTest() {
    }

    public static void main(String[] args) throws IOException {
        face();
        nestedClasses();
        words();
        methods();
        memory();
        Ask.end();
    }

    private static void face() {
        Class<?> hotel = WeatherHotel.class;
        due("public and final", Modifier.isPublic(hotel.getModifiers()) && Modifier.isFinal(hotel.getModifiers()));
        Set<String> open = new TreeSet<>();
        Set<String> names = new TreeSet<>();
        for (Method method : hotel.getDeclaredMethods()) {
            if (!Modifier.isPrivate(method.getModifiers())) {
                open.add(method.getName() + "/" + method.getParameterCount());
                names.add(method.getName());
            }
        }
        due("the methods of the document", open.equals(new TreeSet<>(List.of(FACE.split(" ")))));
        for (Method method : hotel.getDeclaredMethods()) {
            due(method + " bears a public name", Modifier.isPublic(method.getModifiers()) || !names.contains(method.getName()));
        }
        for (Field field : hotel.getDeclaredFields()) {
            due(field + " is open", Modifier.isPrivate(field.getModifiers()) != field.getName().equals("NONE"));
        }
        due("one constructor", hotel.getDeclaredConstructors().length == 1 && hotel.getConstructors().length == 1);
    }

    private static void nestedClasses() {
        Class<?>[] nested = WeatherHotel.class.getDeclaredClasses();
        due("at most twelve classes", nested.length + 1 <= 12);
        for (Class<?> one : nested) {
            due(one + " is static", Modifier.isStatic(one.getModifiers()));
            due(one + " is not open", !Modifier.isPublic(one.getModifiers()) && !Modifier.isProtected(one.getModifiers()));
            int fields = 0;
            for (Field field : one.getDeclaredFields()) {
                fields += Modifier.isStatic(field.getModifiers()) ? 0 : 1;
                due(field + " is final if static",
                        !Modifier.isStatic(field.getModifiers()) || Modifier.isFinal(field.getModifiers()));
            }
            due(one + " has at most twenty fields", fields <= 20);
        }
    }

    private static void words() throws IOException {
        String code = bare(Files.readString(SOURCE));
        for (String word : List.of("throw", "throws", "try", "catch", "finally", "synchronized", "assert", "package", "native",
                "System\\.out", "Exception", "Object", "equals", "hashCode", "toString", "var", "protected", "volatile", "transient")) {
            due("the word " + word, !Pattern.compile("\\b" + word + "\\b").matcher(code).find());
        }
        due("a lambda or a method reference", !code.contains("->") && !code.contains("::"));
        Matcher imports = Pattern.compile("import ([\\w.]+);").matcher(code);
        while (imports.find()) {
            due("import " + imports.group(1), List.of("java.util.Arrays", "java.util.ArrayList", "java.util.List").contains(imports.group(1)));
        }
        for (int i = 0; i < code.length(); i++) {
            if (code.charAt(i) > 126) {
                due("a sign above 126 at " + i, false);
            }
        }
    }

    private static void methods() throws IOException {
        String code = bare(Files.readString(SOURCE));
        Matcher heads = Pattern.compile("(?m)^ +(?:public |private |static |final )*[\\w\\[\\]]+ (\\w+)\\(([^)]*)\\) \\{\\n").matcher(code);
        int found = 0;
        while (heads.find()) {
            if (List.of("if", "for", "while", "switch").contains(heads.group(1))) {
                continue;
            }
            found++;
            int open = 1;
            int at = heads.end();
            int lines = 1;
            while (open > 0) {
                char sign = code.charAt(at++);
                open += sign == '{' ? 1 : sign == '}' ? -1 : 0;
                lines += sign == '\n' ? 1 : 0;
            }
            due(heads.group(1) + " has " + lines + " lines", lines <= 60);
            due(heads.group(1) + " has too many parameters", heads.group(2).split(",").length <= 7);
        }
        due("methods were found", found > 60);
    }

    /** Without comments, texts and signs in quotes. */
    private static String bare(String code) {
        return code.replaceAll("(?s)/\\*.*?\\*/", "").replaceAll("//[^\\n]*", "")
                .replaceAll("\"[^\"\\n]*\"", "\"\"").replaceAll("'[^'\\n]'", "' '");
    }

    /** No call makes an object: all is made with the hotel. */
    private static void memory() {
        com.sun.management.ThreadMXBean threads = (com.sun.management.ThreadMXBean) ManagementFactory.getThreadMXBean();
        WeatherHotel hotel = new WeatherHotel();
        int[] day = Ask.bytesOf("r9(0-24);w3(2-5);l7(9-14)           ");
        int[] law = Ask.bytesOf("mg+1(k=0|s>3);p[s+t]%5(!t=3)            ");
        for (int b = 0; b < 10; b++) {
            hotel.room(b % 4);
        }
        long most = 0;
        for (int round = 0; round < 5; round++) {
            long before = threads.getThreadAllocatedBytes(Thread.currentThread().getId());
            callAll(hotel, packed(day), packed(law));
            most = threads.getThreadAllocatedBytes(Thread.currentThread().getId()) - before;
        }
        due("a round of all calls made " + most + " bytes", most < 2000);
    }

    private static int[] packed(int[] bytes) {
        int[] ints = new int[10];
        for (int i = 0; i < 40 && i < bytes.length; i++) {
            ints[i / 4] |= bytes[i] << 24 - 8 * (i % 4);
        }
        return ints;
    }

    private static void feed(WeatherHotel hotel, int[] ten) {
        hotel.feed(ten[0], ten[1], ten[2], ten[3], ten[4]);
        hotel.feed(ten[5], ten[6], ten[7], ten[8], ten[9]);
    }

    private static void callAll(WeatherHotel hotel, int[] day, int[] law) {
        feed(hotel, day);
        hotel.day(0, 25);
        feed(hotel, law);
        hotel.law(28);
        for (int b = 0; b < 10; b++) {
            hotel.stay(b, b, 0, 10 * b);
            hotel.shift(b, b % 4);
            hotel.gets(b, 0, 0);
            hotel.costs(b);
        }
        hotel.plant(0, 40, 1);
        hotel.plant(1, 20, 1);
        hotel.plant(2, 50, 1);
        hotel.cellar(500, 9);
        hotel.pipes(2, 20);
        hotel.wants(0, 0);
        hotel.served(0);
        hotel.can(1023, 0);
        hotel.best(0);
        hotel.smallest();
        hotel.feed(0x00010203, 0x04050000, 0, 0, 0);
        hotel.rooms(63, 6, 10);
        hotel.shifting(31, 2, 11);
        hotel.larger(0);
        hotel.fair(255, 0, 0);
        hotel.drought(63, -1);
        feed(hotel, day);
        hotel.feed(0, 0, 0, 0, 0);
        hotel.meter(3, -1);
        hotel.feed(0, 0, 0, 0, 0);
        hotel.check(0, 0, 5);
        hotel.seed(3);
        hotel.draw(20);
        hotel.keep();
        hotel.undo();
        hotel.count(0);
        hotel.dayIs(0, 0, 0);
        hotel.leave(9);
    }

    private static void due(String what, boolean holds) {
        Ask.due(what, holds, true);
    }
}
