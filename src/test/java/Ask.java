import java.nio.charset.StandardCharsets;

/** What the tests share: comparing answers, and putting texts and numbers on the tape. */
final class Ask {
    private static int wrong = 0;
    private static int asked = 0;

    private Ask() {
    }

    static void due(String what, long got, long want) {
        asked++;
        if (got != want) {
            wrong++;
            System.out.println(what + " answered " + got + ", due is " + want);
        }
    }

    static void due(String what, boolean got, boolean want) {
        due(what, got ? 1 : 0, want ? 1 : 0);
    }

    /** Ends the test: exit code 1 if an answer was wrong. */
    static void end() {
        System.out.println(asked + " answers, " + wrong + " not as due");
        if (wrong != 0) {
            System.exit(1);
        }
    }

    /** Feeds bytes, with zeros up to a multiple of twenty. */
    static void feed(WeatherHotel hotel, int... bytes) {
        for (int at = 0; at < bytes.length; at += 20) {
            int[] five = new int[5];
            for (int i = 0; i < 20; i++) {
                int one = at + i < bytes.length ? bytes[at + i] : 0;
                five[i / 4] = five[i / 4] << 8 | one & 255;
            }
            hotel.feed(five[0], five[1], five[2], five[3], five[4]);
        }
    }

    static int[] bytesOf(String text) {
        byte[] bytes = text.getBytes(StandardCharsets.ISO_8859_1);
        int[] answer = new int[bytes.length];
        for (int i = 0; i < bytes.length; i++) {
            answer[i] = bytes[i] & 255;
        }
        return answer;
    }

    static int day(WeatherHotel hotel, int d, String text) {
        feed(hotel, bytesOf(text));
        return hotel.day(d, text.length());
    }

    static int law(WeatherHotel hotel, String text) {
        feed(hotel, bytesOf(text));
        return hotel.law(text.length());
    }

    static int rooms(WeatherHotel hotel, int stays, int what, int... rooms) {
        feed(hotel, rooms);
        return hotel.rooms(stays, rooms.length, what);
    }

    /** RAIN of the HOURS from 0 on; 0 in those that are not told. */
    static int meter(WeatherHotel hotel, int n, int what, int... rain) {
        int[] bytes = new int[48];
        for (int i = 0; i < rain.length; i++) {
            bytes[2 * i] = rain[i] >> 8;
            bytes[2 * i + 1] = rain[i];
        }
        feed(hotel, bytes);
        return hotel.meter(n, what);
    }

    static int check(WeatherHotel hotel, int d, int kind, int... numbers) {
        int[] bytes = new int[4 * numbers.length];
        for (int i = 0; i < bytes.length; i++) {
            bytes[i] = numbers[i / 4] >> 24 - 8 * (i % 4);
        }
        feed(hotel, bytes);
        return hotel.check(d, kind, numbers.length);
    }
}
