/** Promises 1 to 5, 18 and 19, and "Law": each edge that the document names, and what lies right beyond it. */
public final class LawEdgesTest {
    private static final Check check = new Check();

    public static void main(String[] args) {
        nothingAtFirst();
        offenceArguments();
        eightOffences();
        theEighthIsOneOfThem();
        elementsOfOffences();
        exclusionsAtTheEdge();
        exclusionsBothWays();
        daysAtOnce();
        daysInAll();
        theLastDayIsADay();
        fileArguments();
        eventsAtTheEdge();
        sixFiles();
        nestingAtTheEdge();
        check.report("LawEdgesTest");
    }

    private static void nothingAtFirst() {
        Chargehouse x = new Chargehouse();
        check.is("18: the day 0", 0, x.day());
        check.fails("1: no offence 0", Check.INDEX, () -> x.nests(0, 0) ? 1 : 0);
        check.fails("1: no file 0", Check.INDEX, () -> x.ofAccused(0, 0, 0));
        check.fails("1: no item 0", Check.INDEX, () -> x.ofItem(0, 0));
        check.is("1: the first offence is 0", 0, x.offence(1, 1, 1));
        check.is("1: the first file is 0", 0, x.file(0, 1, 0));
        check.is("1: the first item is 0", 0, Houses.item(x, 0, 1, 1));
        check.is("1: another object has none of them", 0, new Chargehouse().offence(1, 1, 1));
    }

    private static void offenceArguments() {
        check.range("2: elements", 1, 1023, Check.ARGUMENT, value -> new Chargehouse().offence(value, 5, 5));
        check.range("2: gravity", 1, 9, Check.ARGUMENT, value -> new Chargehouse().offence(5, value, 5));
        check.range("2: limit", 1, 2000, Check.ARGUMENT, value -> new Chargehouse().offence(5, 5, value));
        check.refuses("2: elements with others", Check.ARGUMENT, value -> new Chargehouse().offence(value, 5, 5),
            1024, 1025, 2047, 2048, 1 << 30, -1, -1023, -1024);
    }

    private static void eightOffences() {
        Chargehouse x = new Chargehouse();
        for (int number = 0; number < 8; number++) {
            int next = number;
            check.fails("2: no offence ahead of its number " + next, Check.INDEX, () -> x.nests(next, next) ? 1 : 0);
            check.is("2: the number " + number, number, x.offence(1 << number, 1, 1));
            check.is("2: there from then on " + number, false, x.nests(number, number));
        }
        check.fails("2: a ninth", Check.STATE, () -> x.offence(1, 1, 1));
        check.fails("2: the same one a ninth time", Check.STATE, () -> x.offence(128, 1, 1));
        check.fails("2: a ninth with no elements", Check.ARGUMENT, () -> x.offence(0, 1, 1));
        check.fails("2: a ninth with an element 10", Check.ARGUMENT, () -> x.offence(1024, 1, 1));
        check.fails("2: a ninth of gravity 0", Check.ARGUMENT, () -> x.offence(1, 0, 1));
        check.fails("2: a ninth of gravity 10", Check.ARGUMENT, () -> x.offence(1, 10, 1));
        check.fails("2: a ninth of limit 0", Check.ARGUMENT, () -> x.offence(1, 1, 0));
        check.fails("2: a ninth of limit 2001", Check.ARGUMENT, () -> x.offence(1, 1, 2001));
        check.fails("2: there is no ninth", Check.INDEX, () -> x.nests(8, 0) ? 1 : 0);
        check.fails("2: there is no ninth, as the other", Check.INDEX, () -> x.nests(0, 8) ? 1 : 0);
    }

    private static void theEighthIsOneOfThem() {
        Chargehouse x = Houses.provenWithOffences(3);
        check.is("21: the eighth", 0, x.whyNot(0, 0, 7, 0));
        check.is("3: the eighth", false, x.exclude(7, 0));
        check.is("22: with the eighth", 0b111, x.best(0, 0, 0));
        check.is("10: the eighth", 3, x.charge(0, 0, 128));
        check.is("14: the eighth", 24, x.plea(0, 0, 128));
        check.is("26: the eighth is spent", 128, x.ofAccused(0, 0, 7));
        check.is("26: convicted of the eighth", 128, x.ofAccused(0, 0, 6));
        check.is("13: charged with the last three", 9, x.charge(0, 1, 0b11100000));
        check.is("13: tried of the last three", 0b11100000, x.trial(0, 1));
    }

    private static void elementsOfOffences() {
        Chargehouse x = new Chargehouse();
        x.file(0, 1, 0);
        x.offence(1, 5, 2000);
        x.offence(512, 5, 2000);
        x.offence(1023, 5, 2000);
        Houses.item(x, 0, 5, 1);
        check.is("2: the element 0 alone", 0, x.whyNot(0, 0, 0, 0));
        check.is("2: the element 9 is not there", 3, x.whyNot(0, 0, 1, 0));
        Houses.item(x, 9, 5, 1);
        check.is("2: the element 9 alone", 0, x.whyNot(0, 0, 1, 0));
        for (int element = 1; element < 9; element++) {
            check.is("2: all ten of them, not " + element, 3, x.whyNot(0, 0, 2, 0));
            Houses.item(x, element, 5, 1);
        }
        check.is("2: all ten of them", 0, x.whyNot(0, 0, 2, 0));
    }

    private static Chargehouse withOffences(int many) {
        Chargehouse x = new Chargehouse();
        for (int number = 0; number < many; number++) {
            x.offence(1 << number, 1, 1);
        }
        return x;
    }

    private static void exclusionsAtTheEdge() {
        for (int many = 2; many <= 8; many++) {
            int last = many - 1;
            int told = many;
            check.range("3: the first of " + many, 0, last, Check.INDEX,
                value -> withOffences(told).exclude(value, value == 0 ? 1 : 0) ? 1 : 0);
            check.range("3: the other of " + many, 0, last, Check.INDEX,
                value -> withOffences(told).exclude(value == 0 ? 1 : 0, value) ? 1 : 0);
            check.refuses("3: the same, of " + many, Check.ARGUMENT,
                value -> withOffences(told).exclude(value, value) ? 1 : 0, 0, last);
            check.refuses("3: the same, and no such one of " + many, Check.INDEX,
                value -> withOffences(told).exclude(value, value) ? 1 : 0, -1, many, 8, 9);
        }
        check.refuses("3: none is there", Check.INDEX, value -> withOffences(0).exclude(0, value) ? 1 : 0, 0, 1);
        check.refuses("3: one is there, the same", Check.ARGUMENT,
            value -> withOffences(1).exclude(0, value) ? 1 : 0, 0);
    }

    private static void exclusionsBothWays() {
        for (int one = 0; one < 8; one++) {
            for (int other = 0; other < 8; other++) {
                if (one != other) {
                    exclusionOf(one, other);
                }
            }
        }
        Chargehouse x = Houses.provenWithOffences(2);
        for (int one = 0; one < 8; one++) {
            for (int other = one + 1; other < 8; other++) {
                check.is("3: not told yet", false, x.exclude(one, other));
            }
        }
        check.is("22: one alone, as all exclude each other", 1, x.best(0, 0, 0));
        check.is("23: one alone, as all exclude each other", 1, x.bestAnew(0, 0, 0));
        check.fails("10: no two of them", Check.STATE, () -> x.charge(0, 0, 0b10000001));
        check.is("10: one of them", 2, x.charge(0, 0, 0b10000000));
    }

    private static void exclusionOf(int one, int other) {
        int pair = 1 << one | 1 << other;
        Chargehouse x = onlyOf(pair);
        check.is("22: both, not told", pair, x.best(0, 0, 0));
        check.is("23: both, not told", pair, x.bestAnew(0, 0, 0));
        check.is("3: not told", false, x.exclude(one, other));
        check.is("22: the lower, once it is told", 1 << Math.min(one, other), x.best(0, 0, 0));
        check.is("23: the lower, once it is told", 1 << Math.min(one, other), x.bestAnew(0, 0, 0));
        check.fails("10: not both, once it is told", Check.STATE, () -> x.charge(0, 0, pair));
        check.is("3: told", true, x.exclude(one, other));
        check.is("3: told, the other way round", true, x.exclude(other, one));
        check.is("3: told still, however often", true, x.exclude(one, other) && x.exclude(one, other));
        check.is("3: told still, the other way round", true, x.exclude(other, one) && x.exclude(other, one));
        check.fails("10: not both, however often it is told", Check.STATE, () -> x.charge(0, 0, pair));
    }

    /** A house in which these offences alone can be charged. */
    private static Chargehouse onlyOf(int pair) {
        Chargehouse x = new Chargehouse();
        x.file(0, 1, 0);
        for (int number = 0; number < 8; number++) {
            x.offence(1 << number, 2, 2000);
            if ((pair >> number & 1) == 1) {
                Houses.item(x, number, 5, 1);
            }
        }
        return x;
    }

    private static void daysAtOnce() {
        check.range("4: days", 1, 100, Check.ARGUMENT, value -> new Chargehouse().pass(value));
        check.is("4: the least", 1, new Chargehouse().pass(1));
        check.is("4: the most", 100, new Chargehouse().pass(100));
    }

    private static void daysInAll() {
        Chargehouse x = new Chargehouse();
        Houses.passTo(x, 4900);
        check.is("4: a hundred up to the last day", 5000, x.pass(100));
        check.is("18: the last day", 5000, x.day());
        check.fails("4: one day more", Check.STATE, () -> x.pass(1));
        check.fails("4: a hundred days more", Check.STATE, () -> x.pass(100));
        check.fails("4: 101 days more", Check.ARGUMENT, () -> x.pass(101));
        check.fails("4: no day more", Check.ARGUMENT, () -> x.pass(0));
        check.fails("4: far too many", Check.ARGUMENT, () -> x.pass(Integer.MAX_VALUE));
        check.is("18: the last day still", 5000, x.day());
        Chargehouse y = new Chargehouse();
        Houses.passTo(y, 4901);
        check.fails("4: the day 5001", Check.STATE, () -> y.pass(100));
        check.is("4: the day 5000", 5000, y.pass(99));
        Chargehouse z = new Chargehouse();
        Houses.passTo(z, 4999);
        check.fails("4: the day 5001, by two", Check.STATE, () -> z.pass(2));
        check.is("4: the day 5000, by one", 5000, z.pass(1));
    }

    private static void theLastDayIsADay() {
        Chargehouse x = new Chargehouse();
        Houses.passTo(x, 5000);
        check.is("5: an event of the last day", 0, x.file(5000, 1, 0));
        check.fails("5: one behind it", Check.ARGUMENT, () -> x.file(5001, 1, 0));
        x.offence(1, 1, 1);
        check.is("6: on the last day", 0, x.item(0, 0, 9, 1, Chargehouse.UNWARRANTED, false));
        x.admit(0);
        check.is("25: came on the last day", 5000, x.ofItem(0, 4));
        check.is("25: admitted on the last day", 5000, x.ofItem(0, 5));
        check.is("20: on the last day", 9, x.strength(0, 0, 0, 5000));
        check.is("20: the day ahead of it", 0, x.strength(0, 0, 0, 4999));
        check.fails("20: the day 5001", Check.ARGUMENT, () -> x.strength(0, 0, 0, 5001));
        check.is("21: on the last day", 0, x.whyNot(0, 0, 0, 5000));
        check.is("22: on the last day", 1, x.best(0, 0, 5000));
        check.is("23: on the last day", 1, x.bestAnew(0, 0, 5000));
        x.drop(0, 0);
        check.is("12: on the last day", true, x.review(0, 0));
        check.is("10: on the last day", 1, x.charge(0, 0, 1));
        check.is("13: on the last day", 1, x.trial(0, 0));
        check.is("26: spent on the last day", 1, x.ofAccused(0, 0, 7));
    }

    private static Chargehouse onDay(int day) {
        Chargehouse x = new Chargehouse();
        Houses.passTo(x, day);
        return x;
    }

    private static void fileArguments() {
        check.range("5: accused", 1, 255, Check.ARGUMENT, value -> new Chargehouse().file(0, value, 0));
        check.refuses("5: accused with others", Check.ARGUMENT, value -> new Chargehouse().file(0, value, 0),
            256, 257, 511, 512, 1 << 30, -1, -255, -256);
        check.range("5: points", -9, 9, Check.ARGUMENT, value -> new Chargehouse().file(0, 1, value));
        for (int person = 0; person < 8; person++) {
            int one = person;
            Chargehouse x = new Chargehouse();
            x.file(0, 1 << person, 0);
            for (int other = -1; other < 9; other++) {
                int two = other;
                if (other == person) {
                    check.is("5: accused is " + person, 0, x.ofAccused(0, person, 0));
                } else {
                    check.fails("5: accused is " + one + ", not " + two, Check.INDEX, () -> x.ofAccused(0, two, 0));
                }
            }
        }
    }

    private static void eventsAtTheEdge() {
        check.range("5: event, on the day 0", 0, 0, Check.ARGUMENT, value -> onDay(0).file(value, 1, 0));
        check.range("5: event, on the day 1", 0, 1, Check.ARGUMENT, value -> onDay(1).file(value, 1, 0));
        check.range("5: event, on the day 250", 0, 250, Check.ARGUMENT, value -> onDay(250).file(value, 1, 0));
        check.range("5: event, on the day 5000", 0, 5000, Check.ARGUMENT, value -> onDay(5000).file(value, 1, 0));
    }

    private static void sixFiles() {
        Chargehouse x = new Chargehouse();
        x.offence(1, 5, 10);
        for (int number = 0; number < 6; number++) {
            int next = number;
            check.fails("5: no file ahead of its number " + next, Check.INDEX, () -> x.ofAccused(next, 7, 0));
            check.is("5: the number " + number, number, x.file(0, 128, number));
            check.is("5: there from then on " + number, 0, x.ofAccused(number, 7, 0));
        }
        check.fails("5: a seventh", Check.STATE, () -> x.file(0, 1, 0));
        check.fails("5: a seventh of tomorrow", Check.ARGUMENT, () -> x.file(1, 1, 0));
        check.fails("5: a seventh of the day ahead of all", Check.ARGUMENT, () -> x.file(-1, 1, 0));
        check.fails("5: a seventh with nobody", Check.ARGUMENT, () -> x.file(0, 0, 0));
        check.fails("5: a seventh with a person 8", Check.ARGUMENT, () -> x.file(0, 256, 0));
        check.fails("5: a seventh with points 10", Check.ARGUMENT, () -> x.file(0, 1, 10));
        check.fails("5: a seventh with points -10", Check.ARGUMENT, () -> x.file(0, 1, -10));
        check.fails("5: there is no seventh", Check.INDEX, () -> x.ofAccused(6, 0, 0));
        check.is("6: an item of the sixth", 0, x.item(5, 0, 5, 128, Chargehouse.LAWFULLY, false));
        check.is("21: in the sixth", 0, x.whyNot(5, 7, 0, 0));
        check.is("21: in the fifth", 3, x.whyNot(4, 7, 0, 0));
        check.is("10: in the sixth", 5, x.charge(5, 7, 1));
    }

    private static void nestingAtTheEdge() {
        Chargehouse x = new Chargehouse();
        x.offence(0b1000000000, 1, 1);
        x.offence(0b1000000001, 9, 2000);
        x.offence(0b1000000001, 1, 1);
        x.offence(0b0111111110, 1, 1);
        x.offence(0b1111111110, 1, 1);
        x.offence(0b1111111111, 1, 1);
        check.is("19: one element less", true, x.nests(0, 1));
        check.is("19: one element more", false, x.nests(1, 0));
        check.is("19: just the same", false, x.nests(1, 2));
        check.is("19: just the same, the other way", false, x.nests(2, 1));
        check.is("19: in itself", false, x.nests(5, 5));
        check.is("19: nothing shared", false, x.nests(3, 1));
        check.is("19: less, but not among those", false, x.nests(1, 4));
        check.is("19: nine of ten", true, x.nests(4, 5));
        check.is("19: nine of ten, the other way", false, x.nests(5, 4));
        check.range("19: the first", 0, 5, Check.INDEX, value -> x.nests(value, 0) ? 1 : 0);
        check.range("19: the other", 0, 5, Check.INDEX, value -> x.nests(0, value) ? 1 : 0);
        check.refuses("19: both", Check.INDEX, value -> x.nests(value, value) ? 1 : 0, -1, 6, 7, 8, 9);
    }
}
