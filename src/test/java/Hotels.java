/** Hotels that several tests begin with. */
final class Hotels {
    private Hotels() {
    }

    /** ROOMS on FLOORS 0, 1, 2, .. in turn. */
    static WeatherHotel withRooms(int rooms) {
        WeatherHotel hotel = new WeatherHotel();
        for (int r = 0; r < rooms; r++) {
            hotel.room(r % 4);
        }
        return hotel;
    }

    /** STAYS 0, 1, 2, .. in ROOMS of the same numbers, each with a DAY of its own, each for 100. */
    static WeatherHotel withStays(String... texts) {
        WeatherHotel hotel = withRooms(texts.length);
        moveIn(hotel, texts);
        return hotel;
    }

    /** As withStays, but all ROOMS are on one FLOOR. */
    static WeatherHotel onOneFloor(int floor, String... texts) {
        WeatherHotel hotel = new WeatherHotel();
        for (int r = 0; r < texts.length; r++) {
            hotel.room(floor);
        }
        moveIn(hotel, texts);
        return hotel;
    }

    private static void moveIn(WeatherHotel hotel, String... texts) {
        for (int i = 0; i < texts.length; i++) {
            Ask.day(hotel, i, texts[i]);
            hotel.stay(i, i, i, 100);
        }
    }

    /** So many like texts. */
    static String[] times(int count, String text) {
        String[] all = new String[count];
        java.util.Arrays.fill(all, text);
        return all;
    }

    static void plenty(WeatherHotel hotel) {
        for (int kind = 0; kind < 3; kind++) {
            hotel.plant(kind, 999, 0);
        }
    }
}
