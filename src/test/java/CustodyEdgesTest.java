/** Promises 15 to 17 and the clock of 4, and "Custody": each edge that the document names, and right beyond it. */
public final class CustodyEdgesTest {
    private static final Check check = new Check();
    private static final int[] CEILINGS = {4, 6, 8, 10};

    public static void main(String[] args) {
        ceilingsWhileOpen();
        ceilingsInParts();
        theCeilingWhileCharged();
        theLastDayWhileOpenAsChargesCome();
        noDayIsLeft();
        extendedAtTheEdge();
        eachRankOnce();
        extendArguments();
        countsOfTheirOwn();
        behindAnAnswer();
        droppedFromCustody();
        whoCanBeArrested();
        arrestArguments();
        releaseArguments();
        allByTheClock();
        theLastDayOfAll();
        check.report("CustodyEdgesTest");
    }

    /** Everybody is accused, and three offences can be charged. */
    private static Chargehouse house() {
        Chargehouse x = Houses.proven(0);
        for (int number = 0; number < 3; number++) {
            x.offence(1 << number, 5, 2000);
        }
        return x;
    }

    private static Chargehouse extended(int ranks) {
        Chargehouse x = house();
        for (int rank = 1; rank <= 2; rank++) {
            if ((ranks >> rank - 1 & 1) == 1) {
                x.extend(0, 0, rank);
            }
        }
        return x;
    }

    private static void custody(Chargehouse x, String what, int isIn, int open, int charged) {
        check.is("26: in custody, " + what, isIn, x.ofAccused(0, 0, 2));
        check.is("26: while not charged, " + what, open, x.ofAccused(0, 0, 3));
        check.is("26: since charged, " + what, charged, x.ofAccused(0, 0, 4));
    }

    private static void ceilingsWhileOpen() {
        for (int ranks = 0; ranks < 4; ranks++) {
            int ceiling = CEILINGS[ranks];
            Chargehouse x = extended(ranks);
            check.is("15: the ceiling " + ceiling, ceiling, x.arrest(0, 0));
            x.pass(ceiling - 1);
            custody(x, "a day ahead of the ceiling " + ceiling, 1, ceiling - 1, 0);
            check.is("27: none by the clock", 0, x.count(5));
            x.pass(1);
            custody(x, "the ceiling " + ceiling, 0, ceiling, 0);
            check.is("27: one by the clock", 1, x.count(5));
            x.pass(1);
            custody(x, "a day behind the ceiling " + ceiling, 0, ceiling, 0);
            check.is("27: one by the clock still", 1, x.count(5));
            int[] days = {ceiling - 1, ceiling, ceiling + 1, 100};
            for (int many : days) {
                Chargehouse y = extended(ranks);
                y.arrest(0, 0);
                y.pass(many);
                custody(y, many + " at once", many < ceiling ? 1 : 0, Math.min(many, ceiling), 0);
                check.is("27: by the clock, " + many + " at once", many < ceiling ? 0 : 1, y.count(5));
            }
        }
    }

    private static void ceilingsInParts() {
        for (int ranks = 0; ranks < 4; ranks++) {
            int ceiling = CEILINGS[ranks];
            Chargehouse x = extended(ranks);
            for (int day = 0; day < ceiling; day++) {
                custody(x, "free", 0, day, 0);
                check.is("15: are left", ceiling - day, x.arrest(0, 0));
                custody(x, "taken", 1, day, 0);
                if (day < ceiling - 1) {
                    x.pass(1);
                    x.release(0, 0);
                    x.pass(5);
                }
            }
            check.is("27: none by the clock", 0, x.count(5));
            x.pass(1);
            custody(x, "all together", 0, ceiling, 0);
            check.is("27: one by the clock", 1, x.count(5));
        }
    }

    private static void theCeilingWhileCharged() {
        for (int ranks = 0; ranks < 4; ranks += 3) {
            Chargehouse x = extended(ranks);
            x.charge(0, 0, 1);
            check.is("15: the ceiling 60", 60, x.arrest(0, 0));
            x.pass(59);
            custody(x, "59 days", 1, 0, 59);
            check.is("27: none by the clock", 0, x.count(5));
            x.pass(1);
            custody(x, "60 days", 0, 0, 60);
            check.is("27: one by the clock", 1, x.count(5));
            x.pass(1);
            custody(x, "a day behind", 0, 0, 60);
            check.fails("15: no day is left", Check.STATE, () -> x.arrest(0, 0));
            int[] days = {59, 60, 61, 100};
            for (int many : days) {
                Chargehouse y = extended(ranks);
                y.charge(0, 0, 1);
                y.arrest(0, 0);
                y.pass(many);
                custody(y, many + " at once", many < 60 ? 1 : 0, 0, Math.min(many, 60));
                check.is("27: by the clock, " + many + " at once", many < 60 ? 0 : 1, y.count(5));
            }
            Chargehouse z = extended(ranks);
            z.charge(0, 0, 1);
            z.arrest(0, 0);
            z.pass(59);
            z.release(0, 0);
            check.is("15: the sixtieth day", 1, z.arrest(0, 0));
            z.pass(1);
            custody(z, "60 days in parts", 0, 0, 60);
        }
    }

    private static void theLastDayWhileOpenAsChargesCome() {
        Chargehouse x = house();
        x.arrest(0, 0);
        x.pass(3);
        x.charge(0, 0, 1);
        custody(x, "stays there", 1, 3, 0);
        x.pass(1);
        custody(x, "the other count goes on", 1, 3, 1);
        x.pass(58);
        custody(x, "59 days", 1, 3, 59);
        x.pass(1);
        custody(x, "60 days", 0, 3, 60);
        x.trial(0, 0);
        custody(x, "behind the trial", 0, 3, 0);
        check.is("15: the fourth day", 1, x.arrest(0, 0));
        x.pass(1);
        custody(x, "the ceiling 4", 0, 4, 0);
        check.is("27: two by the clock", 2, x.count(5));
    }

    private static void noDayIsLeft() {
        Chargehouse x = house();
        x.arrest(0, 0);
        x.pass(4);
        check.fails("15: no day is left while open", Check.STATE, () -> x.arrest(0, 0));
        x.charge(0, 0, 1);
        check.is("15: but while charged", 60, x.arrest(0, 0));
        x.pass(60);
        check.fails("15: no day is left while charged", Check.STATE, () -> x.arrest(0, 0));
        x.trial(0, 0);
        check.fails("15: nor behind the trial", Check.STATE, () -> x.arrest(0, 0));
        x.charge(0, 0, 2);
        check.is("15: but while charged anew", 60, x.arrest(0, 0));
        x.pass(100);
        x.plea(0, 0, 2);
        check.fails("15: nor behind the plea", Check.STATE, () -> x.arrest(0, 0));
        check.is("16: extended then", 6, x.extend(0, 0, 1));
        check.is("15: two days more", 2, x.arrest(0, 0));
        x.pass(2);
        check.fails("15: no day of the six is left", Check.STATE, () -> x.arrest(0, 0));
        check.is("16: extended once more", 10, x.extend(0, 0, 2));
        check.is("15: four days more", 4, x.arrest(0, 0));
        x.pass(4);
        check.fails("15: no day of the ten is left", Check.STATE, () -> x.arrest(0, 0));
        check.is("27: by the clock", 5, x.count(5));
    }

    /** On the last day ahead of the ceiling, and on the day of the release by the clock. */
    private static void extendedAtTheEdge() {
        for (int rank = 1; rank <= 2; rank++) {
            Chargehouse x = house();
            x.arrest(0, 0);
            x.pass(3);
            check.is("16: in custody", 4 + 2 * rank, x.extend(0, 0, rank));
            x.pass(1);
            custody(x, "the old ceiling is none", 1, 4, 0);
            x.pass(2 * rank - 1);
            custody(x, "a day ahead of the new one", 1, 3 + 2 * rank, 0);
            x.pass(1);
            custody(x, "the new one", 0, 4 + 2 * rank, 0);
            Chargehouse y = house();
            y.arrest(0, 0);
            y.pass(4);
            y.extend(0, 0, rank);
            custody(y, "stays free", 0, 4, 0);
            y.pass(1);
            custody(y, "stays free the next day", 0, 4, 0);
            check.is("15: the days more", 2 * rank, y.arrest(0, 0));
        }
    }

    private static void eachRankOnce() {
        Chargehouse x = house();
        check.is("16: the rank 2", 8, x.extend(0, 0, 2));
        check.fails("16: the rank 2 again", Check.STATE, () -> x.extend(0, 0, 2));
        check.is("16: the rank 1 too", 10, x.extend(0, 0, 1));
        check.fails("16: the rank 1 again", Check.STATE, () -> x.extend(0, 0, 1));
        check.fails("16: the rank 2 once more", Check.STATE, () -> x.extend(0, 0, 2));
        x.pass(100);
        check.fails("16: the rank 1, days later", Check.STATE, () -> x.extend(0, 0, 1));
        x.charge(0, 0, 1);
        x.trial(0, 0);
        check.fails("16: the rank 1, behind a trial", Check.STATE, () -> x.extend(0, 0, 1));
        x.drop(0, 0);
        x.review(0, 0);
        check.fails("16: the rank 2, behind a review", Check.STATE, () -> x.extend(0, 0, 2));
        check.is("16: the other one's own", 6, x.extend(0, 1, 1));
        x.file(0, 1, 0);
        check.is("16: in the other file", 8, x.extend(1, 0, 2));
    }

    private static Chargehouse sixFiles() {
        Chargehouse x = house();
        for (int file = 1; file < 6; file++) {
            x.file(0, 255, 0);
        }
        return x;
    }

    private static Chargehouse someAccused() {
        Chargehouse x = new Chargehouse();
        x.file(0, 0b0110, 0);
        return x;
    }

    private static void extendArguments() {
        check.range("16: file", 0, 5, Check.INDEX, value -> sixFiles().extend(value, 0, 1));
        check.range("16: person", 0, 7, Check.INDEX, value -> sixFiles().extend(0, value, 1));
        check.range("16: rank", 1, 2, Check.ARGUMENT, value -> sixFiles().extend(0, 0, value));
        check.refuses("16: file, and no rank", Check.INDEX, value -> sixFiles().extend(value, 0, 0), -1, 6);
        check.refuses("16: person, and no rank", Check.INDEX, value -> sixFiles().extend(0, value, 3), -1, 8);
        check.refuses("16: not accused", Check.INDEX, value -> someAccused().extend(0, value, 1), 0, 3, 7);
        check.refuses("16: not accused, and no rank", Check.INDEX, value -> someAccused().extend(0, 0, value), 0, 3);
        Chargehouse x = house();
        x.charge(0, 0, 1);
        x.drop(0, 1);
        x.extend(0, 2, 1);
        x.extend(0, 2, 2);
        for (int person = 0; person < 3; person++) {
            int one = person;
            check.refuses("16: no rank, of " + one, Check.ARGUMENT, value -> x.extend(0, one, value), 0, 3, -1);
            check.refuses("16: a rank, of " + one, Check.STATE, value -> x.extend(0, one, value), 1, 2);
        }
        check.fails("16: none is there", Check.INDEX, () -> new Chargehouse().extend(0, 0, 1));
    }

    private static void countsOfTheirOwn() {
        Chargehouse x = house();
        x.file(0, 1, 0);
        x.arrest(0, 0);
        x.pass(2);
        x.arrest(1, 0);
        check.is("15: in the first file", 2, x.ofAccused(0, 0, 3));
        x.pass(2);
        check.is("26: free in the first file", 0, x.ofAccused(0, 0, 2));
        check.is("26: in custody in the other one", 1, x.ofAccused(1, 0, 2));
        check.is("26: two days there", 2, x.ofAccused(1, 0, 3));
        check.is("26: the other one of the file was free", 0, x.ofAccused(0, 1, 3));
        x.pass(2);
        check.is("26: free in both", 0, x.ofAccused(1, 0, 2));
        check.is("27: two by the clock", 2, x.count(5));
    }

    private static void behindAnAnswer() {
        for (int answer = 0; answer < 2; answer++) {
            Chargehouse x = house();
            x.charge(0, 0, 1);
            x.arrest(0, 0);
            x.pass(30);
            custody(x, "30 days", 1, 0, 30);
            int told = answer == 0 ? x.trial(0, 0) : x.plea(0, 0, 1);
            check.is("13, 14: what is told", answer == 0 ? 1 : 45, told);
            custody(x, "behind the answer", 0, 0, 0);
            check.is("27: not by the clock", 0, x.count(5));
            check.failsAct("17: free already", Check.STATE, () -> x.release(0, 0));
            x.charge(0, 0, 2);
            custody(x, "charged anew, and free", 0, 0, 0);
            check.is("15: all 60 days", 60, x.arrest(0, 0));
            x.pass(59);
            custody(x, "59 days anew", 1, 0, 59);
            x.pass(1);
            custody(x, "60 days anew", 0, 0, 60);
        }
    }

    private static void droppedFromCustody() {
        Chargehouse x = house();
        x.arrest(0, 0);
        x.pass(3);
        x.drop(0, 0);
        custody(x, "dropped", 0, 3, 0);
        check.is("27: not by the clock", 0, x.count(5));
        x.pass(1);
        custody(x, "the day behind", 0, 3, 0);
        check.fails("15: dropped", Check.STATE, () -> x.arrest(0, 0));
        x.review(0, 0);
        custody(x, "open again, not in custody again", 0, 3, 0);
        check.is("15: the day that is left", 1, x.arrest(0, 0));
        x.pass(1);
        custody(x, "the ceiling", 0, 4, 0);
    }

    private static void whoCanBeArrested() {
        Chargehouse x = house();
        check.is("15: who is open", 4, x.arrest(0, 0));
        check.fails("15: in custody, on the same day", Check.STATE, () -> x.arrest(0, 0));
        x.pass(1);
        check.fails("15: in custody, the day behind", Check.STATE, () -> x.arrest(0, 0));
        x.charge(0, 0, 1);
        check.fails("15: in custody and charged", Check.STATE, () -> x.arrest(0, 0));
        x.release(0, 0);
        check.is("15: who is charged", 60, x.arrest(0, 0));
        x.drop(0, 1);
        check.fails("15: who is dropped", Check.STATE, () -> x.arrest(0, 1));
        x.release(0, 0);
        check.is("15: again on the same day, no day is counted", 60, x.arrest(0, 0));
    }

    private static void arrestArguments() {
        check.range("15: file", 0, 5, Check.INDEX, value -> sixFiles().arrest(value, 0));
        check.range("15: person", 0, 7, Check.INDEX, value -> sixFiles().arrest(0, value));
        check.refuses("15: not accused", Check.INDEX, value -> someAccused().arrest(0, value), 0, 3, 7);
        check.fails("15: none is there", Check.INDEX, () -> new Chargehouse().arrest(0, 0));
    }

    private static long released(Chargehouse x, int file, int person) {
        x.release(file, person);
        return 0;
    }

    private static Chargehouse allInCustody() {
        Chargehouse x = sixFiles();
        for (int file = 0; file < 6; file++) {
            for (int person = 0; person < 8; person++) {
                x.arrest(file, person);
            }
        }
        return x;
    }

    private static void releaseArguments() {
        check.range("17: file", 0, 5, Check.INDEX, value -> released(allInCustody(), value, 0));
        check.range("17: person", 0, 7, Check.INDEX, value -> released(allInCustody(), 0, value));
        check.refuses("17: not accused", Check.INDEX, value -> released(someAccused(), 0, value), 0, 3, 7);
        check.fails("17: none is there", Check.INDEX, () -> released(new Chargehouse(), 0, 0));
        Chargehouse x = house();
        check.fails("17: never in custody", Check.STATE, () -> released(x, 0, 0));
        x.arrest(0, 0);
        check.is("17: on the same day", 0, released(x, 0, 0));
        check.fails("17: released already", Check.STATE, () -> released(x, 0, 0));
        x.arrest(0, 0);
        x.pass(3);
        check.is("17: a day ahead of the ceiling", 0, released(x, 0, 0));
        x.arrest(0, 0);
        x.pass(1);
        check.fails("17: at the ceiling", Check.STATE, () -> released(x, 0, 0));
        check.is("27: by the clock", 1, x.count(5));
    }

    private static void allByTheClock() {
        Chargehouse x = allInCustody();
        x.pass(3);
        check.is("27: none of 48", 0, x.count(5));
        x.pass(1);
        check.is("27: all 48", 48, x.count(5));
        x.pass(1);
        check.is("27: all 48 still", 48, x.count(5));
    }

    private static void theLastDayOfAll() {
        Chargehouse x = house();
        Houses.passTo(x, 4996);
        x.arrest(0, 0);
        check.fails("4: the day 5001", Check.STATE, () -> x.pass(5));
        custody(x, "nothing passed", 1, 0, 0);
        x.pass(4);
        custody(x, "the ceiling on the last day", 0, 4, 0);
        check.is("15: on the last day", 4, x.arrest(0, 1));
        check.fails("4: behind the last day", Check.STATE, () -> x.pass(1));
        check.is("26: no day passed", 0, x.ofAccused(0, 1, 3));
    }
}
