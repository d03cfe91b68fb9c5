/** Houses that are far enough along for a test to begin. */
final class Houses {
    static final int ALL = 255;

    private Houses() {
    }

    /** One file of the day 0 in which all persons are accused, and ten items: nine for each of the elements. */
    static Chargehouse proven(int points) {
        Chargehouse x = new Chargehouse();
        x.file(0, ALL, points);
        for (int element = 0; element < 10; element++) {
            x.item(0, element, 9, ALL, Chargehouse.LAWFULLY, false);
        }
        return x;
    }

    /** The same with one offence for each of the elements 0 to 7, all of this gravity. */
    static Chargehouse provenWithOffences(int gravity) {
        Chargehouse x = proven(0);
        for (int number = 0; number < 8; number++) {
            x.offence(1 << number, gravity, 2000);
        }
        return x;
    }

    /** As pass lets at most a hundred days pass at once. */
    static void passTo(Chargehouse x, int day) {
        while (x.day() < day) {
            x.pass(Math.min(100, day - x.day()));
        }
    }

    static int item(Chargehouse x, int element, int weight, int against) {
        return x.item(0, element, weight, against, Chargehouse.LAWFULLY, false);
    }
}
