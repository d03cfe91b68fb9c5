/** Promises 1 to 5, 18 and 19: a new object, offences, exclusions, days and files. */
public final class LawTest {
    private static final Check check = new Check();

    public static void main(String[] args) {
        aNewObject();
        offences();
        exclusions();
        days();
        files();
        nesting();
        check.report("LawTest");
    }

    private static void aNewObject() {
        Chargehouse x = new Chargehouse();
        check.is("1: the day", 0, x.day());
        for (int what = 0; what <= 5; what++) {
            check.is("1: count " + what, 0, x.count(what));
        }
        check.fails("1: no offence", Check.INDEX, () -> x.nests(0, 0) ? 1 : 0);
        check.fails("1: no file", Check.INDEX, () -> x.lacks(0, 0));
        check.fails("1: no item", Check.INDEX, () -> x.ofItem(0, 0));
    }

    private static void offences() {
        Chargehouse x = new Chargehouse();
        check.fails("2: no elements", Check.ARGUMENT, () -> x.offence(0, 1, 1));
        check.fails("2: elements below 0", Check.ARGUMENT, () -> x.offence(-1, 1, 1));
        check.fails("2: an element 10", Check.ARGUMENT, () -> x.offence(1024, 1, 1));
        check.fails("2: gravity 0", Check.ARGUMENT, () -> x.offence(1, 0, 1));
        check.fails("2: gravity 10", Check.ARGUMENT, () -> x.offence(1, 10, 1));
        check.fails("2: limit 0", Check.ARGUMENT, () -> x.offence(1, 1, 0));
        check.fails("2: limit 2001", Check.ARGUMENT, () -> x.offence(1, 1, 2001));
        check.is("2: the least", 0, x.offence(1, 1, 1));
        check.is("2: the most", 1, x.offence(1023, 9, 2000));
        for (int number = 2; number < 8; number++) {
            check.is("2: its number", number, x.offence(5, 5, 5));
        }
        check.fails("2: a ninth", Check.STATE, () -> x.offence(1, 1, 1));
        check.fails("2: a ninth, out of range", Check.ARGUMENT, () -> x.offence(1, 0, 1));
    }

    private static void exclusions() {
        Chargehouse x = new Chargehouse();
        for (int number = 0; number < 4; number++) {
            x.offence(1 << number, 1, 1);
        }
        check.fails("3: no such first", Check.INDEX, () -> x.exclude(4, 0) ? 1 : 0);
        check.fails("3: no such other", Check.INDEX, () -> x.exclude(0, 4) ? 1 : 0);
        check.fails("3: first below 0", Check.INDEX, () -> x.exclude(-1, 0) ? 1 : 0);
        check.fails("3: other below 0", Check.INDEX, () -> x.exclude(0, -1) ? 1 : 0);
        check.fails("3: first above all", Check.INDEX, () -> x.exclude(Integer.MAX_VALUE, 0) ? 1 : 0);
        check.fails("3: the same, and no such one", Check.INDEX, () -> x.exclude(4, 4) ? 1 : 0);
        check.fails("3: both the same", Check.ARGUMENT, () -> x.exclude(2, 2) ? 1 : 0);
        check.is("3: not yet", false, x.exclude(1, 3));
        check.is("3: told", true, x.exclude(1, 3));
        check.is("3: the other way round", true, x.exclude(3, 1));
        check.is("3: another pair of the first", false, x.exclude(1, 2));
        check.is("3: another pair of the other", false, x.exclude(3, 2));
        check.is("3: a third pair", false, x.exclude(0, 3));
    }

    private static void days() {
        Chargehouse x = new Chargehouse();
        check.fails("4: no day", Check.ARGUMENT, () -> x.pass(0));
        check.fails("4: below 0", Check.ARGUMENT, () -> x.pass(-5));
        check.fails("4: 101 days", Check.ARGUMENT, () -> x.pass(101));
        check.fails("4: far too many", Check.ARGUMENT, () -> x.pass(Integer.MAX_VALUE));
        check.is("4: one day", 1, x.pass(1));
        check.is("18: one day", 1, x.day());
        for (int day = 101; day <= 4901; day += 100) {
            check.is("4: a hundred days", day, x.pass(100));
        }
        check.fails("4: the day 5001", Check.STATE, () -> x.pass(100));
        check.is("18: nothing passed", 4901, x.day());
        check.fails("4: out of range near the end", Check.ARGUMENT, () -> x.pass(101));
        check.is("4: the last day", 5000, x.pass(99));
        check.fails("4: behind the last day", Check.STATE, () -> x.pass(1));
        check.is("18: the last day", 5000, x.day());
    }

    private static void files() {
        Chargehouse x = new Chargehouse();
        check.fails("5: an event of tomorrow", Check.ARGUMENT, () -> x.file(1, 1, 0));
        check.fails("5: an event below 0", Check.ARGUMENT, () -> x.file(-1, 1, 0));
        check.fails("5: nobody", Check.ARGUMENT, () -> x.file(0, 0, 0));
        check.fails("5: accused below 0", Check.ARGUMENT, () -> x.file(0, -1, 0));
        check.fails("5: a person 8", Check.ARGUMENT, () -> x.file(0, 256, 0));
        check.fails("5: points 10", Check.ARGUMENT, () -> x.file(0, 1, 10));
        check.fails("5: points -10", Check.ARGUMENT, () -> x.file(0, 1, -10));
        x.pass(7);
        check.is("5: an event of today", 0, x.file(7, 255, 9));
        check.is("5: an event of long ago", 1, x.file(0, 2, -9));
        check.fails("5: an event of tomorrow, later", Check.ARGUMENT, () -> x.file(8, 1, 0));
        for (int person = 0; person < 8; person++) {
            int one = person;
            check.is("5: all are accused", 0, x.lacks(0, person));
            if (person != 1) {
                check.fails("5: not accused", Check.INDEX, () -> x.lacks(1, one));
            }
        }
        check.is("5: the one accused", 0, x.lacks(1, 1));
        check.fails("5: no person 8", Check.INDEX, () -> x.lacks(0, 8));
        check.fails("5: no person -1", Check.INDEX, () -> x.lacks(0, -1));
        check.fails("5: no file -1", Check.INDEX, () -> x.lacks(-1, 0));
        check.fails("5: no file 2", Check.INDEX, () -> x.lacks(2, 0));
        for (int number = 2; number < 6; number++) {
            check.is("5: its number", number, x.file(3, 1, 0));
        }
        check.fails("5: a seventh", Check.STATE, () -> x.file(3, 1, 0));
        check.fails("5: a seventh, out of range", Check.ARGUMENT, () -> x.file(3, 0, 0));
        check.fails("5: no file 6", Check.INDEX, () -> x.lacks(6, 0));
        check.fails("5: no file 7", Check.INDEX, () -> x.lacks(7, 0));
        check.fails("5: no file far above", Check.INDEX, () -> x.lacks(Integer.MAX_VALUE, 0));
        check.fails("5: no file far below", Check.INDEX, () -> x.lacks(Integer.MIN_VALUE, 0));
        check.fails("5: no person 9", Check.INDEX, () -> x.lacks(0, 9));
        check.fails("5: no person far above", Check.INDEX, () -> x.lacks(0, Integer.MAX_VALUE));
        check.fails("5: no person far below", Check.INDEX, () -> x.lacks(0, Integer.MIN_VALUE));
    }

    private static void nesting() {
        Chargehouse x = new Chargehouse();
        x.offence(1, 1, 1);
        x.offence(3, 1, 1);
        x.offence(3, 1, 1);
        x.offence(6, 1, 1);
        x.offence(1023, 1, 1);
        int[][] due = {
            {0, 1, 1, 0, 1},
            {0, 0, 0, 0, 1},
            {0, 0, 0, 0, 1},
            {0, 0, 0, 0, 1},
            {0, 0, 0, 0, 0},
        };
        for (int one = 0; one < 5; one++) {
            for (int other = 0; other < 5; other++) {
                check.is("19: nests " + one + " in " + other, due[one][other] == 1, x.nests(one, other));
            }
        }
        check.fails("19: no such first", Check.INDEX, () -> x.nests(5, 0) ? 1 : 0);
        check.fails("19: no such other", Check.INDEX, () -> x.nests(0, 5) ? 1 : 0);
        check.fails("19: first below 0", Check.INDEX, () -> x.nests(-1, 0) ? 1 : 0);
        check.fails("19: other above all", Check.INDEX, () -> x.nests(0, 8) ? 1 : 0);
    }
}
