/** Promises 10 and 21 to 23, and "Charges": each edge that the document names, and what lies right beyond it. */
public final class ChargeEdgesTest {
    private static final Check check = new Check();

    public static void main(String[] args) {
        theLimit();
        theGreatestLimit();
        aheadOfTheEvent();
        strengthOfFive();
        gravityAndPoints();
        spentByTheDay();
        spentByAPleaOnTheDay();
        spentByWhichOffences();
        spentWhenToldLater();
        notSpent();
        reasonsInTheirOrder();
        setsOfOneToThree();
        twoOfASet();
        noneToCharge();
        theBestOfEquals();
        bestArguments();
        whyNotArguments();
        chargeArguments();
        setsWithOthers();
        whoIsOpen();
        rightToday();
        check.report("ChargeEdgesTest");
    }

    private static void why(Chargehouse x, String what, int due, int offence, int day) {
        check.is("21: " + what, due, x.whyNot(0, 0, offence, day));
    }

    private static void bestIs(Chargehouse x, String what, int due, int day) {
        check.is("22: " + what, due, x.best(0, 0, day));
        check.is("23: " + what, due, x.bestAnew(0, 0, day));
    }

    private static void theLimit() {
        int[] limits = {1, 2, 30, 99};
        for (int limit : limits) {
            for (int event = 0; event <= 40; event += 40) {
                Chargehouse x = new Chargehouse();
                Houses.passTo(x, event);
                x.file(event, 1, 0);
                x.offence(1, 5, limit);
                Houses.item(x, 0, 5, 1);
                x.pass(100);
                why(x, "on the event", 0, 0, event);
                why(x, "one day ahead of the limit " + limit, 0, 0, event + limit - 1);
                why(x, "the event and the limit, together", 0, 0, event + limit);
                why(x, "one day above the limit " + limit, 1, 0, event + limit + 1);
                why(x, "far above the limit " + limit, 1, 0, event + 100);
                bestIs(x, "the event and the limit, together", 1, event + limit);
                bestIs(x, "one day above the limit " + limit, 0, event + limit + 1);
            }
        }
    }

    private static void theGreatestLimit() {
        Chargehouse x = new Chargehouse();
        x.file(0, 1, 0);
        x.offence(1, 5, 2000);
        x.offence(1, 5, 1999);
        Houses.item(x, 0, 5, 1);
        Houses.passTo(x, 3000);
        x.file(3000, 1, 0);
        x.file(2999, 1, 0);
        x.item(1, 0, 5, 1, Chargehouse.LAWFULLY, false);
        x.item(2, 0, 5, 1, Chargehouse.LAWFULLY, false);
        why(x, "the limit 2000", 0, 0, 2000);
        why(x, "behind the limit 2000", 1, 0, 2001);
        why(x, "the limit 1999", 0, 1, 1999);
        why(x, "behind the limit 1999", 1, 1, 2000);
        Houses.passTo(x, 5000);
        check.is("21: up to the last day of all", 0, x.whyNot(1, 0, 0, 5000));
        check.is("21: the last day of all is above it", 1, x.whyNot(2, 0, 0, 5000));
        check.is("21: the day ahead is not", 0, x.whyNot(2, 0, 0, 4999));
        check.is("10: not above it", 5, x.charge(1, 0, 1));
        check.fails("10: above it", Check.STATE, () -> x.charge(2, 0, 1));
    }

    /** Nothing of the file is known ahead of its event, so that what is left there is the third reason. */
    private static void aheadOfTheEvent() {
        Chargehouse x = new Chargehouse();
        x.pass(50);
        x.file(50, 1, 0);
        x.offence(1, 5, 1);
        Houses.item(x, 0, 5, 1);
        x.pass(2);
        why(x, "far ahead of the event", 3, 0, 0);
        why(x, "right ahead of the event", 3, 0, 49);
        why(x, "the event", 0, 0, 50);
        why(x, "the event and the limit", 0, 0, 51);
        why(x, "behind both", 1, 0, 52);
    }

    private static void strengthOfFive() {
        for (int element = 0; element < 10; element++) {
            for (int strength = 3; strength <= 7; strength++) {
                Chargehouse x = new Chargehouse();
                x.file(0, 1, 0);
                x.offence(1023, 5, 2000);
                x.offence(1 << element, 5, 2000);
                for (int other = 0; other < 10; other++) {
                    Houses.item(x, other, other == element ? strength : 5, 1);
                }
                int due = strength < 5 ? 3 : 0;
                why(x, strength + " of the element " + element, due, 0, 0);
                why(x, strength + " of the element " + element + " alone", due, 1, 0);
            }
        }
        Chargehouse y = new Chargehouse();
        y.file(0, 1, 0);
        y.offence(1, 5, 2000);
        why(y, "a strength of 0", 3, 0, 0);
        Houses.item(y, 0, 9, 1);
        Houses.item(y, 0, -4, 1);
        why(y, "9 less 4", 0, 0, 0);
        Houses.item(y, 0, -1, 1);
        why(y, "9 less 5", 3, 0, 0);
        Houses.item(y, 0, -9, 1);
        why(y, "below 0", 3, 0, 0);
    }

    private static void gravityAndPoints() {
        for (int points = -9; points <= 9; points++) {
            Chargehouse x = Houses.proven(points);
            for (int number = 0; number < 8; number++) {
                x.offence(1 << number, number + 1, 2000);
            }
            Chargehouse y = Houses.proven(points);
            y.offence(1, 9, 2000);
            for (int number = 0; number < 8; number++) {
                why(x, "gravity " + (number + 1) + " and " + points, number + 1 + points > 0 ? 0 : 4, number, 0);
            }
            why(y, "gravity 9 and " + points, points > -9 ? 0 : 4, 0, 0);
            bestIs(y, "gravity 9 and " + points, points > -9 ? 1 : 0, 0);
        }
    }

    private static void spentByTheDay() {
        for (int day = 0; day <= 20; day += 10) {
            Chargehouse x = Houses.provenWithOffences(5);
            Houses.passTo(x, day);
            x.charge(0, 0, 1);
            check.is("26: not spent while charged", 0, x.ofAccused(0, 0, 7));
            why(x, "charged is not spent", 0, 0, day);
            x.trial(0, 0);
            check.is("26: spent on that day", 1, x.ofAccused(0, 0, 7));
            x.pass(1);
            check.is("26: spent behind it", 1, x.ofAccused(0, 0, 7));
            if (day > 0) {
                why(x, "the day ahead of the trial", 0, 0, day - 1);
                bestIs(x, "the day ahead of the trial", 0b111, day - 1);
            }
            why(x, "the day of the trial", 2, 0, day);
            why(x, "the day behind the trial", 2, 0, day + 1);
            why(x, "another one", 0, 1, day);
            bestIs(x, "the day of the trial", 0b1110, day);
        }
    }

    private static void spentByAPleaOnTheDay() {
        Chargehouse x = Houses.provenWithOffences(5);
        x.pass(3);
        x.charge(0, 0, 0b11);
        x.pass(4);
        x.plea(0, 0, 0b01);
        x.pass(2);
        x.charge(0, 0, 0b100);
        x.trial(0, 0);
        for (int offence = 0; offence < 2; offence++) {
            why(x, "as they were charged", 0, offence, 3);
            why(x, "the day ahead of the plea", 0, offence, 6);
            why(x, "the day of the plea", 2, offence, 7);
            why(x, "the day behind the plea", 2, offence, 8);
        }
        why(x, "the day ahead of the next trial", 0, 2, 8);
        why(x, "the day of the next trial", 2, 2, 9);
        why(x, "never charged", 0, 3, 9);
        check.is("26: spent by both", 0b111, x.ofAccused(0, 0, 7));
    }

    /** Who was tried for the elements 1 to 3, and is asked for every set of elements. */
    private static void spentByWhichOffences() {
        for (int first = 1; first < 1024; first += 7) {
            Chargehouse x = Houses.proven(0);
            x.offence(0b1110, 5, 2000);
            x.charge(0, 0, 1);
            x.trial(0, 0);
            for (int number = 1; number < 8; number++) {
                int elements = first + number - 1;
                if (elements < 1024) {
                    x.offence(elements, 5, 2000);
                    int shared = elements & 0b1110;
                    boolean isSpent = shared == elements || shared == 0b1110;
                    why(x, "tried for 1 to 3, asked for " + elements, isSpent ? 2 : 0, number, 0);
                }
            }
        }
    }

    private static void spentWhenToldLater() {
        Chargehouse x = Houses.proven(0);
        x.offence(0b11, 5, 2000);
        x.pass(1);
        x.charge(0, 0, 1);
        x.trial(0, 0);
        x.pass(1);
        int[] told = {0b11, 0b01, 0b111, 0b101, 0b100};
        int[] due = {2, 2, 2, 0, 0};
        for (int k = 0; k < told.length; k++) {
            int number = x.offence(told[k], 5, 2000);
            why(x, "told later, the day ahead of the trial", 0, number, 0);
            why(x, "told later, the day of the trial", due[k], number, 1);
            why(x, "told later, today", due[k], number, 2);
        }
        check.is("26: spent today", 0b001111, x.ofAccused(0, 0, 7));
    }

    private static void notSpent() {
        Chargehouse x = Houses.provenWithOffences(5);
        x.file(0, 1, 0);
        x.item(1, 0, 9, 1, Chargehouse.LAWFULLY, false);
        x.charge(0, 0, 1);
        x.trial(0, 0);
        check.is("21: the same person in another file", 0, x.whyNot(1, 0, 0, 0));
        check.is("21: another person in the same file", 0, x.whyNot(0, 1, 0, 0));
        check.is("26: the same person in another file", 0, x.ofAccused(1, 0, 7));
        check.is("26: another person in the same file", 0, x.ofAccused(0, 1, 7));
        x.drop(0, 2);
        check.is("21: dropped is not spent", 0, x.whyNot(0, 2, 0, 0));
        x.charge(0, 3, 1);
        x.pass(100);
        check.is("21: charged is not spent", 0, x.whyNot(0, 3, 0, 100));
        check.is("26: charged is not spent", 0, x.ofAccused(0, 3, 7));
    }

    /** Every mix of the four reasons: the first that holds is told. */
    private static void reasonsInTheirOrder() {
        for (int mix = 0; mix < 16; mix++) {
            boolean isOver = (mix & 1) != 0;
            boolean isSpent = (mix & 2) != 0;
            boolean isWeak = (mix & 4) != 0;
            boolean isPetty = (mix & 8) != 0;
            Chargehouse x = new Chargehouse();
            x.file(0, 1, isPetty ? -5 : -4);
            x.offence(0b10, 9, 2000);
            x.offence(0b11, 5, isOver ? 9 : 10);
            Houses.item(x, 1, 5, 1);
            Houses.item(x, 0, 5, 1);
            if (isSpent) {
                x.charge(0, 0, 1);
                x.trial(0, 0);
            }
            x.pass(10);
            if (isWeak) {
                Houses.item(x, 0, -1, 1);
            }
            int due = isOver ? 1 : isSpent ? 2 : isWeak ? 3 : isPetty ? 4 : 0;
            why(x, "the first of the mix " + mix, due, 1, 10);
            bestIs(x, "the mix " + mix, (isSpent ? 0 : 1) | (due == 0 && isSpent ? 2 : 0), 10);
        }
    }

    private static void setsOfOneToThree() {
        for (int set = 0; set < 256; set++) {
            Chargehouse x = Houses.provenWithOffences(2);
            int offences = set;
            int many = Integer.bitCount(set);
            check.note("10: one to three, not " + many, many >= 1 && many <= 3 ? "" + 2 * many : Check.STATE.getName(),
                Check.outcome(() -> x.charge(0, 0, offences)));
            check.is("26: the charges", many >= 1 && many <= 3 ? set : 0, x.ofAccused(0, 0, 1));
        }
    }

    private static void twoOfASet() {
        int[][] elements = {{0b11, 0b11}, {0b01, 0b11}, {0b11, 0b01}, {0b01, 0b10}, {0b011, 0b110}, {0b111, 0b101}};
        boolean[] isRight = {false, false, false, true, true, false};
        for (int k = 0; k < elements.length; k++) {
            Chargehouse x = Houses.proven(0);
            x.offence(elements[k][0], 5, 2000);
            x.offence(elements[k][1], 4, 2000);
            x.offence(0b1000, 3, 2000);
            check.note("10: the two " + k, isRight[k] ? "9" : Check.STATE.getName(),
                Check.outcome(() -> x.charge(0, 0, 0b11)));
            check.note("10: the two and another " + k, isRight[k] ? "12" : Check.STATE.getName(),
                Check.outcome(() -> x.charge(0, 1, 0b111)));
            check.is("10: the one and another", 8, x.charge(0, 2, 0b101));
            check.is("10: the other and another", 7, x.charge(0, 3, 0b110));
            check.is("22: the two " + k, isRight[k] ? 0b111 : 0b101, x.best(0, 4, 0));
            check.is("23: the two " + k, isRight[k] ? 0b111 : 0b101, x.bestAnew(0, 4, 0));
        }
    }

    private static void noneToCharge() {
        Chargehouse x = Houses.proven(-3);
        bestIs(x, "no offences are there", 0, 0);
        x.offence(1, 3, 2000);
        bestIs(x, "none can be charged", 0, 0);
        check.fails("10: the best set, if there is none", Check.STATE, () -> x.charge(0, 0, x.best(0, 0, 0)));
        x.offence(1, 4, 2000);
        bestIs(x, "one can be charged", 0b10, 0);
        check.is("10: the best set", 4, x.charge(0, 0, x.best(0, 0, 0)));
    }

    private static Chargehouse withGravities(int... gravities) {
        Chargehouse x = Houses.proven(0);
        for (int number = 0; number < gravities.length; number++) {
            x.offence(1 << number, gravities[number], 2000);
        }
        return x;
    }

    private static void allExclude(Chargehouse x, int one, int others) {
        for (int other = 0; other < 8; other++) {
            if ((others >> other & 1) == 1) {
                x.exclude(one, other);
            }
        }
    }

    private static void theBestOfEquals() {
        bestIs(withGravities(3, 3, 3, 3), "three of four equal ones, the lowest", 0b0111, 0);
        bestIs(withGravities(3, 3, 3, 4), "the heaviest and the two lowest", 0b1011, 0);
        bestIs(withGravities(1, 1, 1, 1, 1, 1, 1, 1), "three of eight", 0b111, 0);
        bestIs(withGravities(1, 2, 3, 4, 5, 6, 7, 8), "the three highest", 0b11100000, 0);
        Chargehouse six = withGravities(3, 2, 1, 6);
        allExclude(six, 3, 0b0111);
        bestIs(six, "one of 6 and not three of 6", 0b1000, 0);
        Chargehouse five = withGravities(3, 2, 1, 5);
        allExclude(five, 3, 0b0111);
        bestIs(five, "three of 6 and not one of 5", 0b0111, 0);
        Chargehouse two = withGravities(2, 2, 2, 4, 2);
        allExclude(two, 3, 0b0111);
        allExclude(two, 4, 0b0111);
        bestIs(two, "two of 6 and not three of 6", 0b11000, 0);
        Chargehouse pairs = withGravities(2, 4, 3, 3);
        pairs.exclude(0, 2);
        pairs.exclude(0, 3);
        pairs.exclude(1, 2);
        pairs.exclude(1, 3);
        bestIs(pairs, "the lower pair of 6", 0b0011, 0);
        Chargehouse crossed = withGravities(2, 3, 3, 4);
        crossed.exclude(0, 1);
        crossed.exclude(0, 2);
        crossed.exclude(3, 1);
        crossed.exclude(3, 2);
        bestIs(crossed, "0 and 3 are higher than 1 and 2", 0b0110, 0);
    }

    private static void bestArguments() {
        Chargehouse x = Houses.proven(0);
        for (int number = 1; number < 6; number++) {
            x.file(0, 255, 0);
        }
        x.pass(20);
        check.range("22: file", 0, 5, Check.INDEX, value -> x.best(value, 0, 0));
        check.range("22: person", 0, 7, Check.INDEX, value -> x.best(0, value, 0));
        check.range("22: day", 0, 20, Check.ARGUMENT, value -> x.best(0, 0, value));
        check.refuses("22: file, and tomorrow", Check.INDEX, value -> x.best(value, 0, 21), -1, 6);
        check.refuses("22: person, and a day below 0", Check.INDEX, value -> x.best(0, value, -1), -1, 8);
        check.range("23: file", 0, 5, Check.INDEX, value -> x.bestAnew(value, 0, 0));
        check.range("23: person", 0, 7, Check.INDEX, value -> x.bestAnew(0, value, 0));
        check.range("23: day", 0, 20, Check.ARGUMENT, value -> x.bestAnew(0, 0, value));
        check.refuses("23: file, and tomorrow", Check.INDEX, value -> x.bestAnew(value, 0, 21), -1, 6);
        check.refuses("23: person, and a day below 0", Check.INDEX, value -> x.bestAnew(0, value, -1), -1, 8);
        Chargehouse y = new Chargehouse();
        check.fails("22: none is there", Check.INDEX, () -> y.best(0, 0, 0));
        check.fails("23: none is there", Check.INDEX, () -> y.bestAnew(0, 0, 0));
        y.file(0, 0b0110, 0);
        check.refuses("22: not accused", Check.INDEX, value -> y.best(0, value, 0), 0, 3, 7);
        check.refuses("23: not accused", Check.INDEX, value -> y.bestAnew(0, value, 0), 0, 3, 7);
        check.refuses("22: the day 1 on the day 0", Check.ARGUMENT, value -> y.best(0, 1, value), 1, -1);
        check.refuses("23: the day 1 on the day 0", Check.ARGUMENT, value -> y.bestAnew(0, 1, value), 1, -1);
    }

    private static void whyNotArguments() {
        for (int many = 1; many <= 8; many++) {
            Chargehouse x = Houses.proven(0);
            for (int number = 0; number < many; number++) {
                x.offence(1 << number, 5, 2000);
            }
            check.range("21: offence of " + many, 0, many - 1, Check.INDEX, value -> x.whyNot(0, 0, value, 0));
            check.refuses("21: offence of " + many + ", and tomorrow", Check.INDEX,
                value -> x.whyNot(0, 0, value, 1), -1, many);
        }
        Chargehouse x = Houses.provenWithOffences(5);
        check.refuses("21: day 1 on the day 0", Check.ARGUMENT, value -> x.whyNot(0, 0, 0, value), 1, -1);
        for (int number = 1; number < 6; number++) {
            x.file(0, 255, 0);
        }
        x.pass(20);
        check.range("21: file", 0, 5, Check.INDEX, value -> x.whyNot(value, 0, 0, 0));
        check.range("21: person", 0, 7, Check.INDEX, value -> x.whyNot(0, value, 0, 0));
        check.range("21: day", 0, 20, Check.ARGUMENT, value -> x.whyNot(0, 0, 0, value));
        check.refuses("21: file, and tomorrow", Check.INDEX, value -> x.whyNot(value, 0, 0, 21), -1, 6);
        check.refuses("21: person, and a day below 0", Check.INDEX, value -> x.whyNot(0, value, 0, -1), -1, 8);
        Chargehouse y = new Chargehouse();
        y.offence(1, 1, 1);
        check.fails("21: no file is there", Check.INDEX, () -> y.whyNot(0, 0, 0, 0));
        y.file(0, 0b0110, 0);
        check.refuses("21: not accused", Check.INDEX, value -> y.whyNot(0, value, 0, 0), 0, 3, 7);
        check.refuses("21: not accused, and no such offence", Check.INDEX, value -> y.whyNot(0, 0, value, 0), -1, 1);
    }

    private static Chargehouse sixFiles() {
        Chargehouse x = Houses.provenWithOffences(2);
        for (int file = 1; file < 6; file++) {
            x.file(0, 255, 0);
            x.item(file, 0, 5, 255, Chargehouse.LAWFULLY, false);
        }
        return x;
    }

    private static void chargeArguments() {
        check.range("10: file", 0, 5, Check.INDEX, value -> sixFiles().charge(value, 0, 1));
        check.range("10: person", 0, 7, Check.INDEX, value -> sixFiles().charge(0, value, 1));
        check.refuses("10: file, and others", Check.INDEX, value -> sixFiles().charge(value, 0, 256), -1, 6);
        check.refuses("10: person, and others", Check.INDEX, value -> sixFiles().charge(0, value, -1), -1, 8);
        check.refuses("10: file, and none", Check.INDEX, value -> sixFiles().charge(value, 0, 0), -1, 6);
        check.refuses("10: person, and none", Check.INDEX, value -> sixFiles().charge(0, value, 0), -1, 8);
        Chargehouse x = new Chargehouse();
        check.fails("10: none is there", Check.INDEX, () -> x.charge(0, 0, 0));
        x.file(0, 0b0110, 0);
        check.refuses("10: not accused", Check.INDEX, value -> x.charge(0, value, 0), 0, 3, 7);
        check.fails("10: no offences, none", Check.STATE, () -> x.charge(0, 1, 0));
        check.refuses("10: no offences, some", Check.ARGUMENT, value -> x.charge(0, 1, value), 1, 128, -1);
    }

    /** A set with the first number that is not there is out of range, with the last that is there it is not. */
    private static void setsWithOthers() {
        for (int many = 1; many <= 8; many++) {
            Chargehouse x = Houses.proven(0);
            for (int number = 0; number < many; number++) {
                x.offence(1 << number, 2, 2000);
            }
            int all = (1 << many) - 1;
            int next = 1 << many;
            check.refuses("10: others than the " + many, Check.ARGUMENT, value -> x.charge(0, 0, value),
                next, next | 1, next | all, 1 << 8, 1 << 9 | 1, 1 << 16, 1 << 30, -1, ~all, Integer.MIN_VALUE,
                Integer.MIN_VALUE | 1, Integer.MAX_VALUE);
            x.drop(0, 1);
            check.fails("10: others, while dropped", Check.ARGUMENT, () -> x.charge(0, 1, next));
            check.fails("10: the last, while dropped", Check.STATE, () -> x.charge(0, 1, next >> 1));
            check.note("10: all that are there, of " + many, many <= 3 ? "" + 2 * many : Check.STATE.getName(),
                Check.outcome(() -> x.charge(0, 2, all)));
            check.is("10: the last", 2, x.charge(0, 0, next >> 1));
            check.fails("10: others, while charged", Check.ARGUMENT, () -> x.charge(0, 0, next | 1));
            check.fails("10: the last again", Check.STATE, () -> x.charge(0, 0, next >> 1));
        }
    }

    private static void whoIsOpen() {
        Chargehouse x = Houses.provenWithOffences(5);
        check.is("10: open at first", 5, x.charge(0, 0, 1));
        check.fails("10: charged with another one", Check.STATE, () -> x.charge(0, 0, 2));
        x.trial(0, 0);
        check.is("10: open behind a trial", 5, x.charge(0, 0, 2));
        x.plea(0, 0, 2);
        check.is("10: open behind a plea", 5, x.charge(0, 0, 4));
        x.drop(0, 1);
        check.fails("10: dropped", Check.STATE, () -> x.charge(0, 1, 1));
        x.review(0, 1);
        check.is("10: open behind a review", 5, x.charge(0, 1, 1));
        check.is("10: whoever is in custody", 5, chargedFromCustody());
    }

    private static int chargedFromCustody() {
        Chargehouse x = Houses.provenWithOffences(5);
        x.arrest(0, 0);
        return x.charge(0, 0, 1);
    }

    private static void rightToday() {
        Chargehouse x = Houses.proven(0);
        x.offence(1, 5, 10);
        x.pass(10);
        check.is("10: on the last day of the limit", 5, x.charge(0, 0, 1));
        x.pass(1);
        check.fails("10: the day behind it", Check.STATE, () -> x.charge(0, 1, 1));
        check.is("22: still right the day ahead", 1, x.best(0, 1, 10));
        check.is("22: today no more", 0, x.best(0, 1, 11));
        Chargehouse y = new Chargehouse();
        y.file(0, 3, 0);
        y.offence(1, 5, 2000);
        y.pass(1);
        check.fails("10: the day ahead of the item", Check.STATE, () -> y.charge(0, 0, 1));
        y.pass(1);
        Houses.item(y, 0, 5, 3);
        check.is("10: the day of the item", 5, y.charge(0, 0, 1));
        y.pass(1);
        Houses.item(y, 0, -1, 3);
        check.fails("10: the day of the item that weakens", Check.STATE, () -> y.charge(0, 1, 1));
    }
}
