/** Promises 4, 15 to 17, 26 and 27: arrests, ceilings, ranks that extend them, and the clock. */
public final class CustodyTest {
    private static final Check check = new Check();

    public static void main(String[] args) {
        countingWhileOpen();
        theClockOnTheVeryDay();
        extending();
        extendingInCustody();
        wrongExtensions();
        countingWhileCharged();
        stayingAsCharged();
        behindAnswers();
        manyAtOnce();
        wrongArrests();
        wrongReleases();
        check.report("CustodyTest");
    }

    /** One file in which all are accused, and one offence that can be charged. */
    private static Chargehouse house() {
        Chargehouse x = new Chargehouse();
        x.file(0, 255, 0);
        x.item(0, 0, 9, 255, Chargehouse.LAWFULLY, false);
        x.offence(1, 5, 2000);
        return x;
    }

    private static void custody(Chargehouse x, String what, int person, int isIn, int open, int charged) {
        check.is("26: in custody, " + what, isIn, x.ofAccused(0, person, 2));
        check.is("26: while not charged, " + what, open, x.ofAccused(0, person, 3));
        check.is("26: since charged, " + what, charged, x.ofAccused(0, person, 4));
    }

    private static void countingWhileOpen() {
        Chargehouse x = house();
        custody(x, "at first", 0, 0, 0, 0);
        x.pass(3);
        custody(x, "free", 0, 0, 0, 0);
        check.is("15: all days are left", 4, x.arrest(0, 0));
        custody(x, "taken", 0, 1, 0, 0);
        x.pass(1);
        custody(x, "one day", 0, 1, 1, 0);
        x.release(0, 0);
        custody(x, "released", 0, 0, 1, 0);
        x.pass(10);
        check.is("15: the days are counted all together", 3, x.arrest(0, 0));
        x.pass(2);
        custody(x, "three days", 0, 1, 3, 0);
        custody(x, "another one", 1, 0, 0, 0);
        check.is("27: none by the clock", 0, x.count(5));
    }

    private static void theClockOnTheVeryDay() {
        Chargehouse x = house();
        x.arrest(0, 0);
        x.pass(4);
        custody(x, "the ceiling", 0, 0, 4, 0);
        check.is("27: one by the clock", 1, x.count(5));
        check.fails("15: no day is left", Check.STATE, () -> x.arrest(0, 0));
        check.failsAct("17: released by the clock", Check.STATE, () -> x.release(0, 0));
        x.pass(50);
        custody(x, "no more", 0, 0, 4, 0);
        x.arrest(0, 1);
        x.pass(100);
        custody(x, "passed at once", 1, 0, 4, 0);
        check.is("27: two by the clock", 2, x.count(5));
        x.arrest(0, 2);
        x.pass(3);
        x.release(0, 2);
        check.is("15: the last day", 1, x.arrest(0, 2));
        x.pass(1);
        custody(x, "in two parts", 2, 0, 4, 0);
        check.is("27: three by the clock", 3, x.count(5));
    }

    private static void extending() {
        Chargehouse x = house();
        check.is("16: the rank 1", 6, x.extend(0, 0, 1));
        check.is("16: both", 10, x.extend(0, 0, 2));
        check.is("16: the rank 2 alone", 8, x.extend(0, 1, 2));
        check.is("15: six days", 8, x.arrest(0, 1));
        check.is("15: ten days", 10, x.arrest(0, 0));
        check.is("15: four days", 4, x.arrest(0, 2));
        x.pass(7);
        custody(x, "ten days", 0, 1, 7, 0);
        custody(x, "eight days", 1, 1, 7, 0);
        custody(x, "four days", 2, 0, 4, 0);
        check.is("16: when no day was left", 6, x.extend(0, 2, 1));
        check.is("15: two days", 2, x.arrest(0, 2));
        x.pass(1);
        custody(x, "ten days", 0, 1, 8, 0);
        custody(x, "eight days", 1, 0, 8, 0);
        custody(x, "six days", 2, 1, 5, 0);
        x.pass(2);
        custody(x, "ten days", 0, 0, 10, 0);
        custody(x, "six days", 2, 0, 6, 0);
        check.is("27: by the clock", 4, x.count(5));
    }

    private static void extendingInCustody() {
        Chargehouse x = house();
        x.arrest(0, 0);
        x.pass(3);
        x.extend(0, 0, 1);
        custody(x, "extending is no release", 0, 1, 3, 0);
        x.pass(2);
        custody(x, "extended in time", 0, 1, 5, 0);
        x.pass(1);
        custody(x, "the new ceiling", 0, 0, 6, 0);
        x.charge(0, 0, 1);
        x.trial(0, 0);
        check.fails("16: behind a trial, once still", Check.STATE, () -> x.extend(0, 0, 1));
        check.is("16: behind a trial", 10, x.extend(0, 0, 2));
        check.is("15: four days more", 4, x.arrest(0, 0));
    }

    private static void wrongExtensions() {
        Chargehouse x = house();
        x.file(0, 0b10, 0);
        check.fails("16: no such file", Check.INDEX, () -> x.extend(2, 0, 1));
        check.fails("16: a file below 0", Check.INDEX, () -> x.extend(-1, 0, 1));
        check.fails("16: not accused", Check.INDEX, () -> x.extend(1, 0, 1));
        check.fails("16: a person 8, and no rank", Check.INDEX, () -> x.extend(0, 8, 0));
        check.fails("16: the rank 0", Check.ARGUMENT, () -> x.extend(0, 0, 0));
        check.fails("16: the rank 3", Check.ARGUMENT, () -> x.extend(0, 0, 3));
        check.fails("16: a rank below 0", Check.ARGUMENT, () -> x.extend(0, 0, -1));
        x.extend(0, 0, 2);
        check.fails("16: once", Check.STATE, () -> x.extend(0, 0, 2));
        check.is("16: in another file", 6, x.extend(1, 1, 1));
        check.is("16: the other rank", 10, x.extend(0, 0, 1));
        x.charge(0, 1, 1);
        check.fails("16: charged", Check.STATE, () -> x.extend(0, 1, 1));
        check.fails("16: charged, and no rank", Check.ARGUMENT, () -> x.extend(0, 1, 3));
        x.drop(0, 2);
        check.fails("16: dropped", Check.STATE, () -> x.extend(0, 2, 1));
    }

    private static void countingWhileCharged() {
        Chargehouse x = house();
        x.arrest(0, 0);
        x.pass(2);
        x.release(0, 0);
        x.charge(0, 0, 1);
        custody(x, "charged and free", 0, 0, 2, 0);
        check.is("15: another ceiling", 60, x.arrest(0, 0));
        x.pass(20);
        custody(x, "charged", 0, 1, 2, 20);
        x.release(0, 0);
        x.pass(20);
        custody(x, "charged and free again", 0, 0, 2, 20);
        check.is("15: the rest", 40, x.arrest(0, 0));
        x.pass(39);
        custody(x, "59 days", 0, 1, 2, 59);
        check.is("27: none by the clock", 0, x.count(5));
        x.pass(1);
        custody(x, "60 days", 0, 0, 2, 60);
        check.is("27: one by the clock", 1, x.count(5));
        check.fails("15: no day is left", Check.STATE, () -> x.arrest(0, 0));
        check.is("26: charged still", Chargehouse.CHARGED, x.ofAccused(0, 0, 0));
    }

    private static void stayingAsCharged() {
        Chargehouse x = house();
        x.extend(0, 0, 2);
        x.arrest(0, 0);
        x.pass(3);
        x.charge(0, 0, 1);
        custody(x, "stays", 0, 1, 3, 0);
        check.fails("15: in custody", Check.STATE, () -> x.arrest(0, 0));
        x.pass(59);
        custody(x, "59 days", 0, 1, 3, 59);
        x.pass(100);
        custody(x, "60 days", 0, 0, 3, 60);
        x.plea(0, 0, 1);
        custody(x, "behind the plea", 0, 0, 3, 0);
        check.is("15: the first count goes on", 5, x.arrest(0, 0));
    }

    private static void behindAnswers() {
        Chargehouse x = house();
        x.offence(2, 5, 2000);
        x.item(0, 1, 9, 255, Chargehouse.LAWFULLY, false);
        x.arrest(0, 0);
        x.pass(1);
        x.charge(0, 0, 1);
        x.pass(7);
        x.trial(0, 0);
        custody(x, "behind a trial", 0, 0, 1, 0);
        check.is("15: behind a trial", 3, x.arrest(0, 0));
        x.pass(1);
        x.charge(0, 0, 2);
        custody(x, "charged anew", 0, 1, 2, 0);
        x.pass(8);
        custody(x, "counted anew", 0, 1, 2, 8);
        x.plea(0, 0, 2);
        custody(x, "behind a plea", 0, 0, 2, 0);
        check.is("15: behind a plea", 2, x.arrest(0, 0));
        x.pass(2);
        custody(x, "the ceiling of all together", 0, 0, 4, 0);
        check.is("27: by the clock", 1, x.count(5));
    }

    private static void manyAtOnce() {
        Chargehouse x = house();
        x.file(0, 255, 0);
        for (int person = 0; person < 8; person++) {
            x.arrest(0, person);
            if (person % 2 == 0) {
                x.arrest(1, person);
            }
        }
        x.release(1, 6);
        x.charge(0, 7, 1);
        x.pass(50);
        check.is("27: all but the charged and the released one", 10, x.count(5));
        custody(x, "charged", 7, 1, 0, 50);
        check.is("26: free in one, in custody in the other", 0, x.ofAccused(1, 7, 3));
        check.is("26: counted for each file", 4, x.ofAccused(1, 4, 3));
        x.pass(10);
        check.is("27: the charged one too", 11, x.count(5));
    }

    private static void wrongArrests() {
        Chargehouse x = house();
        x.file(0, 0b10, 0);
        check.fails("15: no such file", Check.INDEX, () -> x.arrest(2, 0));
        check.fails("15: a file below 0", Check.INDEX, () -> x.arrest(-1, 0));
        check.fails("15: not accused", Check.INDEX, () -> x.arrest(1, 0));
        check.fails("15: a person 8", Check.INDEX, () -> x.arrest(0, 8));
        x.drop(0, 0);
        check.fails("15: dropped", Check.STATE, () -> x.arrest(0, 0));
        x.arrest(0, 1);
        check.fails("15: in custody", Check.STATE, () -> x.arrest(0, 1));
        check.is("15: in another file", 4, x.arrest(1, 1));
        x.review(0, 0);
        check.is("15: open again", 4, x.arrest(0, 0));
    }

    private static void wrongReleases() {
        Chargehouse x = house();
        x.file(0, 0b10, 0);
        check.failsAct("17: no such file", Check.INDEX, () -> x.release(2, 0));
        check.failsAct("17: a file below 0", Check.INDEX, () -> x.release(-1, 0));
        check.failsAct("17: not accused", Check.INDEX, () -> x.release(1, 0));
        check.failsAct("17: a person 8", Check.INDEX, () -> x.release(0, 8));
        check.failsAct("17: free", Check.STATE, () -> x.release(0, 0));
        x.arrest(0, 1);
        check.failsAct("17: free in the other file", Check.STATE, () -> x.release(1, 1));
        x.release(0, 1);
        check.failsAct("17: released already", Check.STATE, () -> x.release(0, 1));
        x.charge(0, 1, 1);
        x.arrest(0, 1);
        x.release(0, 1);
        custody(x, "released while charged", 1, 0, 0, 0);
        x.arrest(0, 2);
        x.drop(0, 2);
        check.failsAct("17: dropped", Check.STATE, () -> x.release(0, 2));
        check.is("27: none by the clock", 0, x.count(5));
    }
}
