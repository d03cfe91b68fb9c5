/** A first run of Chargehouse; README.md shows it with what it prints. */
public final class Example {
    public static void main(String[] args) {
        Chargehouse house = new Chargehouse();                  // no offences, no files, the day 0
        int theft = house.offence(0b0011, 5, 500);              // the elements 0 and 1, gravity 5, 500 days
        int fraud = house.offence(0b0100, 3, 500);
        int file = house.file(house.day(), 0b0011, -1);         // today's event, against the persons 0 and 1
        for (int element = 0; element < 3; element++) {
            house.item(file, element, 8, 0b0011, Chargehouse.LAWFULLY, false);
        }
        int alibi = house.item(file, 2, -2, 0b0001, Chargehouse.LAWFULLY, false);
        System.out.println("the best set: " + Integer.toBinaryString(house.best(file, 0, house.day())));

        System.out.println("days of custody left: " + house.arrest(file, 0));
        house.pass(2);
        System.out.println("gravity charged: " + house.charge(file, 0, 1 << theft | 1 << fraud));
        try {
            house.trial(file, 0);
        } catch (IllegalStateException e) {
            System.out.println("no trial yet, items are lacked: " + house.lacks(file, 0));
        }
        house.show(alibi, 0);
        System.out.println("convicted of: " + Integer.toBinaryString(house.trial(file, 0)));
        System.out.println("spent: " + Integer.toBinaryString(house.ofAccused(file, 0, 7)));
        System.out.println("why not again: " + house.whyNot(file, 0, fraud, house.day()));

        house.charge(file, 1, 1 << theft);
        house.pass(11);
        System.out.println("months of the plea: " + house.plea(file, 1, 1 << theft));
    }
}
