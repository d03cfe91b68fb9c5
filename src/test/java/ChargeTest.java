/** Promises 10 and 21 to 23: what can be charged, the best set, and charging. */
public final class ChargeTest {
    private static final Check check = new Check();
    private static final int ALL = 255;

    public static void main(String[] args) {
        limits();
        strengthsToCharge();
        interest();
        spentByTrial();
        spentWheneverTold();
        firstReasons();
        wrongQuestions();
        bestByGravity();
        bestOfFewest();
        bestOfFewestAgainstLower();
        bestOfLowest();
        bestUnderLaw();
        bestOnDays();
        charging();
        chargingOtherSets();
        check.report("ChargeTest");
    }

    /** One file of the day 0 in which all persons are accused, and nine for each of the elements. */
    private static Chargehouse proven(int points) {
        Chargehouse x = new Chargehouse();
        x.file(0, ALL, points);
        for (int element = 0; element < 10; element++) {
            x.item(0, element, 9, ALL, Chargehouse.LAWFULLY, false);
        }
        return x;
    }

    private static void bestIs(Chargehouse x, String what, int due, int person, int day) {
        check.is("22: " + what, due, x.best(0, person, day));
        check.is("23: " + what, due, x.bestAnew(0, person, day));
    }

    private static void limits() {
        Chargehouse x = new Chargehouse();
        x.pass(20);
        x.file(5, 1, 0);
        x.file(20, 1, 0);
        x.item(0, 0, 9, 1, Chargehouse.LAWFULLY, false);
        x.offence(1, 5, 20);
        x.offence(1, 5, 10);
        x.pass(50);
        check.is("21: on the last day", 0, x.whyNot(0, 0, 0, 25));
        check.is("21: behind it", 1, x.whyNot(0, 0, 0, 26));
        check.is("21: a shorter limit", 1, x.whyNot(0, 0, 1, 20));
        check.is("21: over ahead of the items", 1, x.whyNot(0, 0, 1, 16));
        check.is("21: not over, but no items", 3, x.whyNot(0, 0, 1, 15));
        check.is("21: ahead of the event", 3, x.whyNot(1, 0, 0, 0));
        check.is("21: another event", 3, x.whyNot(1, 0, 0, 40));
        check.is("21: another event, behind it", 1, x.whyNot(1, 0, 0, 41));
    }

    private static void strengthsToCharge() {
        Chargehouse x = new Chargehouse();
        x.file(0, 0b11, 0);
        x.offence(0b1000000011, 5, 2000);
        x.item(0, 0, 5, 0b11, Chargehouse.LAWFULLY, false);
        x.item(0, 1, 5, 0b11, Chargehouse.LAWFULLY, false);
        x.item(0, 9, 4, 0b11, Chargehouse.LAWFULLY, false);
        check.is("21: one element has 4", 3, x.whyNot(0, 0, 0, 0));
        x.pass(1);
        x.item(0, 9, 1, 0b01, Chargehouse.LAWFULLY, false);
        check.is("21: all have 5", 0, x.whyNot(0, 0, 0, 1));
        check.is("21: the day ahead", 3, x.whyNot(0, 0, 0, 0));
        check.is("21: the other one", 3, x.whyNot(0, 1, 0, 1));
        x.item(0, 0, -1, 0b01, Chargehouse.UNWARRANTED, false);
        check.is("21: not admitted", 0, x.whyNot(0, 0, 0, 1));
        x.pass(1);
        x.admit(4);
        check.is("21: admitted today", 3, x.whyNot(0, 0, 0, 2));
        check.is("21: as was known", 0, x.whyNot(0, 0, 0, 1));
    }

    private static void interest() {
        Chargehouse x = new Chargehouse();
        x.offence(1, 3, 2000);
        x.offence(1, 4, 2000);
        x.offence(1, 9, 2000);
        x.file(0, 1, -3);
        x.file(0, 1, -9);
        x.file(0, 1, 9);
        for (int file = 0; file < 3; file++) {
            x.item(file, 0, 9, 1, Chargehouse.LAWFULLY, false);
        }
        int[][] due = {{4, 0, 0}, {4, 4, 4}, {0, 0, 0}};
        for (int file = 0; file < 3; file++) {
            for (int offence = 0; offence < 3; offence++) {
                check.is("21: points of file " + file, due[file][offence], x.whyNot(file, 0, offence, 0));
            }
        }
    }

    private static void spentByTrial() {
        Chargehouse x = proven(0);
        x.offence(0b0011, 5, 2000);
        x.offence(0b0011, 4, 2000);
        x.offence(0b0001, 3, 2000);
        x.offence(0b0111, 2, 2000);
        x.offence(0b0110, 1, 2000);
        x.offence(0b1000, 1, 2000);
        x.file(0, ALL, 0);
        for (int element = 0; element < 4; element++) {
            x.item(1, element, 9, ALL, Chargehouse.LAWFULLY, false);
        }
        x.pass(3);
        x.charge(0, 0, 1);
        x.pass(3);
        check.is("21: charged is not spent", 0, x.whyNot(0, 0, 0, 6));
        x.trial(0, 0);
        x.pass(3);
        int[] due = {2, 2, 2, 2, 0, 0};
        for (int offence = 0; offence < 6; offence++) {
            check.is("21: the day of the trial, " + offence, due[offence], x.whyNot(0, 0, offence, 6));
            check.is("21: behind it, " + offence, due[offence], x.whyNot(0, 0, offence, 9));
            check.is("21: ahead of it, " + offence, 0, x.whyNot(0, 0, offence, 5));
            check.is("21: another person, " + offence, 0, x.whyNot(0, 1, offence, 9));
            check.is("21: another file, " + offence, 0, x.whyNot(1, 0, offence, 9));
        }
        check.is("26: spent by today", 0b1111, x.ofAccused(0, 0, 7));
        check.is("26: another person", 0, x.ofAccused(0, 1, 7));
        check.is("26: another file", 0, x.ofAccused(1, 0, 7));
        bestIs(x, "the day ahead of the trial", 0b110001, 0, 5);
        bestIs(x, "the day of the trial", 0b110000, 0, 6);
    }

    private static void spentWheneverTold() {
        Chargehouse x = proven(0);
        x.offence(0b01, 5, 2000);
        x.offence(0b10, 4, 2000);
        x.offence(0b100, 4, 2000);
        x.pass(1);
        x.charge(0, 0, 0b11);
        x.plea(0, 0, 0b01);
        x.pass(4);
        x.offence(0b11, 1, 2000);
        x.offence(0b10, 2, 2000);
        x.offence(0b110, 2, 2000);
        x.offence(0b1100, 2, 2000);
        check.is("21: of the plea", 2, x.whyNot(0, 0, 0, 5));
        check.is("21: charged, not pleaded", 2, x.whyNot(0, 0, 1, 5));
        check.is("21: another one", 0, x.whyNot(0, 0, 2, 5));
        check.is("21: told later, both nest in it", 2, x.whyNot(0, 0, 3, 5));
        check.is("21: told later, the same elements", 2, x.whyNot(0, 0, 4, 1));
        check.is("21: told later, nests", 2, x.whyNot(0, 0, 5, 1));
        check.is("21: told later, none of both", 0, x.whyNot(0, 0, 6, 5));
        check.is("21: told later, ahead of the plea", 0, x.whyNot(0, 0, 4, 0));
        check.is("26: all that are spent", 0b0111011, x.ofAccused(0, 0, 7));
    }

    private static void firstReasons() {
        Chargehouse x = new Chargehouse();
        x.file(0, 1, -4);
        x.item(0, 0, 9, 1, Chargehouse.LAWFULLY, false);
        x.offence(0b01, 5, 10);
        x.offence(0b01, 4, 20);
        x.offence(0b11, 4, 30);
        x.charge(0, 0, 1);
        x.pass(2);
        x.trial(0, 0);
        x.pass(40);
        check.is("21: 4 alone", 4, x.whyNot(0, 0, 1, 1));
        check.is("21: 3 ahead of 4", 3, x.whyNot(0, 0, 2, 1));
        check.is("21: 2 ahead of 4", 2, x.whyNot(0, 0, 1, 2));
        check.is("21: 2 ahead of 3", 2, x.whyNot(0, 0, 2, 30));
        check.is("21: 1 ahead of 2", 1, x.whyNot(0, 0, 2, 31));
        check.is("21: 1 ahead of all", 1, x.whyNot(0, 0, 0, 11));
    }

    private static void wrongQuestions() {
        Chargehouse x = new Chargehouse();
        x.pass(2);
        x.file(0, 0b10, 0);
        x.offence(1, 1, 1);
        check.fails("21: no such file", Check.INDEX, () -> x.whyNot(1, 1, 0, 0));
        check.fails("21: a file below 0", Check.INDEX, () -> x.whyNot(-1, 1, 0, 0));
        check.fails("21: not accused", Check.INDEX, () -> x.whyNot(0, 0, 0, 0));
        check.fails("21: no such person", Check.INDEX, () -> x.whyNot(0, 8, 0, 0));
        check.fails("21: a person below 0", Check.INDEX, () -> x.whyNot(0, -1, 0, 0));
        check.fails("21: no such offence", Check.INDEX, () -> x.whyNot(0, 1, 1, 0));
        check.fails("21: an offence below 0", Check.INDEX, () -> x.whyNot(0, 1, -1, 0));
        check.fails("21: an offence 8", Check.INDEX, () -> x.whyNot(0, 1, 8, 0));
        check.fails("21: tomorrow", Check.ARGUMENT, () -> x.whyNot(0, 1, 0, 3));
        check.fails("21: a day below 0", Check.ARGUMENT, () -> x.whyNot(0, 1, 0, -1));
        check.fails("21: no such offence, and tomorrow", Check.INDEX, () -> x.whyNot(0, 1, 1, 3));
        check.is("21: today", 1, x.whyNot(0, 1, 0, 2));
        check.fails("22: no such file", Check.INDEX, () -> x.best(1, 1, 0));
        check.fails("22: not accused", Check.INDEX, () -> x.best(0, 0, 0));
        check.fails("22: not accused, and tomorrow", Check.INDEX, () -> x.best(0, 0, 3));
        check.fails("22: tomorrow", Check.ARGUMENT, () -> x.best(0, 1, 3));
        check.fails("22: a day below 0", Check.ARGUMENT, () -> x.best(0, 1, -1));
        check.fails("23: no such file", Check.INDEX, () -> x.bestAnew(1, 1, 0));
        check.fails("23: not accused", Check.INDEX, () -> x.bestAnew(0, 0, 0));
        check.fails("23: not accused, and tomorrow", Check.INDEX, () -> x.bestAnew(0, 0, 3));
        check.fails("23: tomorrow", Check.ARGUMENT, () -> x.bestAnew(0, 1, 3));
        check.fails("23: a day below 0", Check.ARGUMENT, () -> x.bestAnew(0, 1, -1));
    }

    private static void bestByGravity() {
        Chargehouse x = proven(0);
        bestIs(x, "no offences", 0, 0, 0);
        for (int number = 0; number < 8; number++) {
            x.offence(1 << number, new int[] {2, 9, 3, 1, 8, 4, 7, 5}[number], 2000);
        }
        bestIs(x, "the three heaviest", 0b01010010, 0, 0);
        x.exclude(4, 1);
        bestIs(x, "without the one excluded", 0b11000010, 0, 0);
        x.exclude(6, 7);
        bestIs(x, "without two more", 0b01100010, 7, 0);
    }

    private static void bestOfFewest() {
        Chargehouse x = proven(0);
        x.offence(0b001, 2, 2000);
        x.offence(0b010, 3, 2000);
        x.offence(0b100, 4, 2000);
        x.offence(0b111, 9, 2000);
        bestIs(x, "one instead of three", 0b1000, 0, 0);
        x.offence(0b1000, 1, 2000);
        x.exclude(3, 4);
        bestIs(x, "one instead of any three", 0b1000, 0, 0);
        x.offence(0b1000011, 5, 2000);
        x.exclude(5, 3);
        x.exclude(5, 4);
        bestIs(x, "one instead of two", 0b1000, 0, 0);
        x.offence(0b10000000, 1, 2000);
        bestIs(x, "two instead of three", 0b1001000, 0, 0);
    }

    private static void bestOfFewestAgainstLower() {
        Chargehouse x = proven(0);
        x.offence(0b001, 4, 2000);
        x.offence(0b010, 5, 2000);
        x.offence(0b100, 9, 2000);
        x.exclude(0, 2);
        x.exclude(1, 2);
        bestIs(x, "one instead of two lower ones", 0b100, 0, 0);
        Chargehouse y = proven(0);
        int[] gravity = {5, 3, 3, 3, 4};
        for (int number = 0; number < 5; number++) {
            y.offence(1 << number, gravity[number], 2000);
        }
        for (int number = 1; number < 4; number++) {
            y.exclude(0, number);
            y.exclude(number, 4);
        }
        bestIs(y, "two instead of three lower ones", 0b10001, 0, 0);
    }

    private static void bestOfLowest() {
        Chargehouse x = proven(0);
        x.offence(0b0001, 4, 2000);
        x.offence(0b0010, 4, 2000);
        x.offence(0b0100, 5, 2000);
        x.offence(0b1000, 3, 2000);
        x.exclude(0, 1);
        x.exclude(0, 2);
        x.exclude(1, 2);
        bestIs(x, "the heaviest pair", 0b1100, 0, 0);
        x.exclude(2, 3);
        bestIs(x, "the lower pair", 0b1001, 0, 0);
        x.exclude(3, 0);
        bestIs(x, "the pair that is left", 0b1010, 0, 0);
        x.exclude(1, 3);
        bestIs(x, "alone", 0b0100, 0, 0);
        x.offence(0b10000, 5, 2000);
        x.exclude(4, 0);
        x.exclude(4, 1);
        x.exclude(4, 2);
        x.exclude(4, 3);
        bestIs(x, "the lower of both alone", 0b00100, 0, 0);
    }

    private static void bestUnderLaw() {
        Chargehouse x = proven(0);
        x.offence(0b0011, 6, 2000);
        x.offence(0b0011, 6, 2000);
        x.offence(0b0001, 5, 2000);
        x.offence(0b0010, 4, 2000);
        bestIs(x, "two that nest, not the one", 0b1100, 0, 0);
        x.offence(0b0110, 7, 2000);
        bestIs(x, "elements may be shared", 0b10001, 0, 0);
        x.exclude(4, 0);
        bestIs(x, "the twin of the excluded one", 0b10010, 0, 0);
        x.exclude(1, 4);
        bestIs(x, "without both twins", 0b10100, 0, 0);
    }

    private static void bestOnDays() {
        Chargehouse x = new Chargehouse();
        x.file(0, 0b11, -2);
        x.offence(0b001, 9, 20);
        x.offence(0b010, 5, 2000);
        x.offence(0b100, 2, 2000);
        x.pass(10);
        x.item(0, 0, 5, 0b01, Chargehouse.LAWFULLY, false);
        x.item(0, 2, 9, 0b01, Chargehouse.LAWFULLY, false);
        x.pass(5);
        x.item(0, 1, 5, 0b01, Chargehouse.LAWFULLY, false);
        x.pass(20);
        bestIs(x, "nothing known yet", 0, 0, 9);
        bestIs(x, "the first item", 0b001, 0, 10);
        bestIs(x, "the other one", 0b011, 0, 15);
        bestIs(x, "the last day of the limit", 0b011, 0, 20);
        bestIs(x, "behind the limit", 0b010, 0, 21);
        bestIs(x, "another person", 0, 1, 20);
        check.is("21: no interest", 4, x.whyNot(0, 0, 2, 20));
        x.exclude(0, 1);
        bestIs(x, "exclusions hold on all days", 0b001, 0, 15);
    }

    private static void charging() {
        Chargehouse x = proven(-1);
        x.offence(0b0001, 4, 2000);
        x.offence(0b0010, 3, 2000);
        x.offence(0b0100, 2, 2000);
        x.offence(0b1000, 1, 2000);
        x.offence(0b0011, 2, 2000);
        x.offence(0b0001, 3, 2000);
        x.exclude(1, 2);
        check.fails("10: no such file", Check.INDEX, () -> x.charge(1, 0, 1));
        check.fails("10: a file below 0", Check.INDEX, () -> x.charge(-1, 0, 1));
        check.fails("10: no such person", Check.INDEX, () -> x.charge(0, 8, 1));
        check.fails("10: no such file, and others", Check.INDEX, () -> x.charge(1, 0, 64));
        check.fails("10: others than are there", Check.ARGUMENT, () -> x.charge(0, 0, 64));
        check.fails("10: others too", Check.ARGUMENT, () -> x.charge(0, 0, 65));
        check.fails("10: below 0", Check.ARGUMENT, () -> x.charge(0, 0, -1));
        check.fails("10: far below 0", Check.ARGUMENT, () -> x.charge(0, 0, Integer.MIN_VALUE));
        check.fails("10: none", Check.STATE, () -> x.charge(0, 0, 0));
        check.fails("10: one that cannot be charged", Check.STATE, () -> x.charge(0, 0, 0b001001));
        check.fails("10: two that exclude", Check.STATE, () -> x.charge(0, 0, 0b000110));
        check.fails("10: one nests", Check.STATE, () -> x.charge(0, 0, 0b010001));
        check.fails("10: the same elements", Check.STATE, () -> x.charge(0, 0, 0b100001));
        check.is("10: still open", Chargehouse.OPEN, x.ofAccused(0, 0, 0));
        check.is("10: no charges", 0, x.ofAccused(0, 0, 1));
        check.is("10: the sum", 7, x.charge(0, 0, 0b000011));
        check.is("10: charged", Chargehouse.CHARGED, x.ofAccused(0, 0, 0));
        check.is("10: the charges", 0b000011, x.ofAccused(0, 0, 1));
        check.is("10: the other one stays open", Chargehouse.OPEN, x.ofAccused(0, 1, 0));
        check.fails("10: charged already", Check.STATE, () -> x.charge(0, 0, 0b000011));
        check.fails("10: charged already, and others", Check.ARGUMENT, () -> x.charge(0, 0, 64));
        check.is("10: not the best set", 2, x.charge(0, 1, 0b010000));
        x.drop(0, 2);
        check.fails("10: dropped", Check.STATE, () -> x.charge(0, 2, 0b000011));
        x.trial(0, 0);
        check.fails("10: spent", Check.STATE, () -> x.charge(0, 0, 0b000001));
        check.is("10: open again, one not spent", 2, x.charge(0, 0, 0b000100));
    }

    private static void chargingOtherSets() {
        Chargehouse x = proven(0);
        for (int number = 0; number < 8; number++) {
            x.offence(1 << number, number + 1, number == 7 ? 1 : 2000);
        }
        check.fails("10: four", Check.STATE, () -> x.charge(0, 0, 0b1111));
        check.is("10: three", 6, x.charge(0, 0, 0b0111));
        check.fails("10: a ninth offence", Check.ARGUMENT, () -> x.charge(0, 1, 256));
        check.is("10: the last offence", 8, x.charge(0, 1, 128));
        x.pass(2);
        check.fails("10: over by today", Check.STATE, () -> x.charge(0, 2, 128));
        check.is("10: others are not", 7, x.charge(0, 2, 64));
    }
}
