/** Promises 11 to 14, 26 and 27: dropping, reviews, trials, pleas, and what they leave behind. */
public final class DecisionTest {
    private static final Check check = new Check();
    private static final int ALL = 255;

    public static void main(String[] args) {
        dropping();
        reviewsInTime();
        reviewsAsOfTheDay();
        reviewsOncePerDrop();
        wrongReviews();
        reviewsOfSpentOffences();
        trialStrengths();
        trialsAndDisclosure();
        wrongTrials();
        pleaMonths();
        pleaShares();
        wrongPleas();
        pleasLackNothing();
        monthsAddUp();
        wrongQuestions();
        check.report("DecisionTest");
    }

    private static Chargehouse proven(int points) {
        Chargehouse x = new Chargehouse();
        x.file(0, ALL, points);
        for (int element = 0; element < 10; element++) {
            x.item(0, element, 9, ALL, Chargehouse.LAWFULLY, false);
        }
        return x;
    }

    private static void tells(Chargehouse x, String what, int file, int person, int... due) {
        for (int k = 0; k < due.length; k++) {
            check.is("26: " + what + " " + k, due[k], x.ofAccused(file, person, k));
        }
    }

    private static void counts(Chargehouse x, String what, int... due) {
        for (int k = 0; k < due.length; k++) {
            check.is("27: " + what + " " + k, due[k], x.count(k));
        }
    }

    private static void dropping() {
        Chargehouse x = proven(0);
        x.file(0, 0b10, 0);
        x.offence(1, 5, 2000);
        check.failsAct("11: no such file", Check.INDEX, () -> x.drop(2, 0));
        check.failsAct("11: a file below 0", Check.INDEX, () -> x.drop(-1, 0));
        check.failsAct("11: not accused", Check.INDEX, () -> x.drop(1, 0));
        check.failsAct("11: a person 8", Check.INDEX, () -> x.drop(0, 8));
        x.arrest(0, 0);
        x.pass(2);
        x.drop(0, 0);
        tells(x, "dropped from custody", 0, 0, Chargehouse.DROPPED, 0, 0, 2, 0, 0, 0, 0);
        x.pass(1);
        tells(x, "a day later", 0, 0, Chargehouse.DROPPED, 0, 0, 2, 0, 0, 0, 0);
        check.failsAct("11: dropped already", Check.STATE, () -> x.drop(0, 0));
        x.charge(0, 1, 1);
        check.failsAct("11: charged", Check.STATE, () -> x.drop(0, 1));
        x.trial(0, 1);
        x.drop(0, 1);
        tells(x, "dropped behind a trial", 0, 1, Chargehouse.DROPPED, 0, 0, 0, 0, 0, 1, 1);
        x.drop(1, 1);
        tells(x, "in another file", 1, 1, Chargehouse.DROPPED, 0, 0, 0, 0, 0, 0, 0);
        tells(x, "another person", 0, 2, Chargehouse.OPEN, 0, 0, 0, 0, 0, 0, 0);
        counts(x, "after drops", 1, 0, 0, 3, 0, 0);
    }

    private static void reviewsInTime() {
        Chargehouse x = proven(0);
        x.offence(1, 5, 2000);
        x.drop(0, 0);
        x.drop(0, 1);
        x.drop(0, 2);
        check.is("12: on the same day", true, x.review(0, 2));
        x.pass(30);
        check.is("12: 30 days behind", true, x.review(0, 0));
        check.is("12: open", Chargehouse.OPEN, x.ofAccused(0, 0, 0));
        x.pass(1);
        check.fails("12: 31 days behind", Check.STATE, () -> x.review(0, 1) ? 1 : 0);
        check.is("12: dropped for good", Chargehouse.DROPPED, x.ofAccused(0, 1, 0));
        counts(x, "after reviews", 0, 0, 0, 3, 2, 0);
    }

    private static void reviewsAsOfTheDay() {
        Chargehouse x = new Chargehouse();
        x.file(0, ALL, 0);
        x.offence(1, 5, 10);
        x.item(0, 0, 4, ALL, Chargehouse.LAWFULLY, false);
        x.item(0, 1, 9, ALL, Chargehouse.UNWARRANTED, false);
        x.pass(8);
        x.drop(0, 0);
        x.drop(0, 5);
        x.item(0, 0, 1, 0b01, Chargehouse.LAWFULLY, false);
        x.pass(1);
        x.drop(0, 1);
        x.drop(0, 2);
        x.drop(0, 3);
        x.drop(0, 4);
        x.admit(1);
        x.pass(1);
        x.item(0, 0, 9, ALL, Chargehouse.LAWFULLY, false);
        check.is("12: what came later does not count", false, x.review(0, 1));
        check.is("12: dropped still", Chargehouse.DROPPED, x.ofAccused(0, 1, 0));
        x.item(0, 0, -9, ALL, Chargehouse.LAWFULLY, false);
        check.is("12: nor what weakens today", true, x.review(0, 0));
        x.pass(9);
        x.offence(0b10, 3, 8);
        check.is("12: told later, over by then", false, x.review(0, 2));
        x.offence(0b10, 3, 9);
        check.is("12: told later, good on that day", true, x.review(0, 3));
        check.is("12: told later, good today no more", 1, x.whyNot(0, 3, 2, 19));
        check.is("12: admitted behind the day", false, x.review(0, 5));
        check.fails("12: dropped for good", Check.STATE, () -> x.review(0, 2) ? 1 : 0);
        check.is("12: another one", true, x.review(0, 4));
        counts(x, "after reviews", 0, 0, 0, 6, 3, 0);
    }

    private static void reviewsOncePerDrop() {
        Chargehouse x = proven(0);
        x.drop(0, 0);
        check.is("12: no offences", false, x.review(0, 0));
        x.offence(1, 5, 2000);
        check.fails("12: once", Check.STATE, () -> x.review(0, 0) ? 1 : 0);
        for (int time = 1; time <= 3; time++) {
            x.drop(0, 1);
            x.pass(20);
            check.is("12: once each time", true, x.review(0, 1));
            check.fails("12: open", Check.STATE, () -> x.review(0, 1) ? 1 : 0);
        }
        x.pass(20);
        x.drop(0, 1);
        x.pass(30);
        check.is("12: from the last drop on", true, x.review(0, 1));
        check.is("12: can be charged again", 5, x.charge(0, 1, 1));
        counts(x, "drops and reviews", 0, 0, 0, 5, 4, 0);
    }

    private static void wrongReviews() {
        Chargehouse x = proven(0);
        x.file(0, 0b10, 0);
        x.offence(1, 5, 2000);
        check.fails("12: no such file", Check.INDEX, () -> x.review(2, 0) ? 1 : 0);
        check.fails("12: a file below 0", Check.INDEX, () -> x.review(-1, 0) ? 1 : 0);
        check.fails("12: not accused", Check.INDEX, () -> x.review(1, 0) ? 1 : 0);
        check.fails("12: a person 8", Check.INDEX, () -> x.review(0, 8) ? 1 : 0);
        check.fails("12: never dropped", Check.STATE, () -> x.review(0, 0) ? 1 : 0);
        x.charge(0, 0, 1);
        check.fails("12: charged", Check.STATE, () -> x.review(0, 0) ? 1 : 0);
        check.is("12: charged still", Chargehouse.CHARGED, x.ofAccused(0, 0, 0));
    }

    private static void reviewsOfSpentOffences() {
        Chargehouse x = proven(0);
        x.offence(0b01, 5, 2000);
        x.pass(1);
        x.charge(0, 0, 1);
        x.trial(0, 0);
        x.drop(0, 0);
        check.is("12: spent on that day", false, x.review(0, 0));
        x.charge(0, 1, 1);
        x.plea(0, 1, 1);
        x.drop(0, 1);
        x.offence(0b11, 5, 2000);
        check.is("12: the later one is spent too", false, x.review(0, 1));
        x.drop(0, 2);
        x.exclude(0, 1);
        check.is("12: exclusions bar no single one", true, x.review(0, 2));
        x.file(0, 1, -5);
        x.item(1, 0, 9, 1, Chargehouse.LAWFULLY, false);
        x.drop(1, 0);
        check.is("12: no interest", false, x.review(1, 0));
    }

    private static void trialStrengths() {
        Chargehouse x = new Chargehouse();
        x.file(0, 0b11, 0);
        x.offence(0b0011, 5, 2000);
        x.offence(0b0100, 4, 2000);
        x.offence(0b1000, 3, 2000);
        x.item(0, 0, 9, 0b11, Chargehouse.LAWFULLY, false);
        x.item(0, 1, 7, 0b11, Chargehouse.LAWFULLY, false);
        x.item(0, 2, 8, 0b11, Chargehouse.LAWFULLY, false);
        x.item(0, 3, 8, 0b11, Chargehouse.LAWFULLY, false);
        x.charge(0, 0, 0b111);
        x.charge(0, 1, 0b111);
        x.arrest(0, 0);
        x.pass(5);
        x.item(0, 1, 1, 0b10, Chargehouse.LAWFULLY, false);
        x.item(0, 3, -1, 0b01, Chargehouse.LAWFULLY, false);
        x.show(5, 0);
        check.is("13: 8 in all elements, today", 0b010, x.trial(0, 0));
        tells(x, "tried", 0, 0, Chargehouse.OPEN, 0, 0, 0, 0, 0, 0b010, 0b111);
        counts(x, "one trial", 1, 2, 0, 0, 0, 0);
        check.is("13: the other one", 0b111, x.trial(0, 1));
        tells(x, "convicted of all", 0, 1, Chargehouse.OPEN, 0, 0, 0, 0, 0, 0b111, 0b111);
        counts(x, "two trials", 4, 2, 0, 0, 0, 0);
        check.fails("13: tried already", Check.STATE, () -> x.trial(0, 0));
    }

    private static void trialsAndDisclosure() {
        Chargehouse x = proven(0);
        x.offence(1, 5, 2000);
        x.offence(2, 5, 1);
        x.item(0, 5, -1, 0b01, Chargehouse.FORCE, false);
        x.item(0, 0, -9, 0b01, Chargehouse.UNWARRANTED, true);
        x.charge(0, 0, 0b11);
        check.fails("13: both are lacked", Check.STATE, () -> x.trial(0, 0));
        x.show(10, 0);
        check.fails("13: one is lacked", Check.STATE, () -> x.trial(0, 0));
        x.withhold(11);
        check.is("13: charged still", Chargehouse.CHARGED, x.ofAccused(0, 0, 0));
        x.pass(50);
        check.is("13: the limit is for charges alone", 0b11, x.trial(0, 0));
        x.charge(0, 1, 0b01);
        check.is("13: another one lacked nothing", 0b01, x.trial(0, 1));
        counts(x, "trials", 3, 0, 0, 0, 0, 0);
    }

    private static void wrongTrials() {
        Chargehouse x = proven(0);
        x.file(0, 0b10, 0);
        x.offence(1, 5, 2000);
        check.fails("13: no such file", Check.INDEX, () -> x.trial(2, 0));
        check.fails("13: a file below 0", Check.INDEX, () -> x.trial(-1, 0));
        check.fails("13: not accused", Check.INDEX, () -> x.trial(1, 0));
        check.fails("13: a person 8", Check.INDEX, () -> x.trial(0, 8));
        check.fails("13: open", Check.STATE, () -> x.trial(0, 0));
        x.drop(0, 0);
        check.fails("13: dropped", Check.STATE, () -> x.trial(0, 0));
        counts(x, "no trials", 0, 0, 0, 1, 0, 0);
    }

    private static void pleaMonths() {
        int[] days = {0, 1, 10, 11, 30, 31, 100};
        int[] due = {72, 72, 72, 81, 81, 97, 97};
        for (int k = 0; k < days.length; k++) {
            Chargehouse x = proven(0);
            x.offence(1, 9, 2000);
            x.pass(15);
            x.charge(0, 0, 1);
            if (days[k] > 0) {
                x.pass(days[k]);
            }
            check.is("14: " + days[k] + " days behind", due[k], x.plea(0, 0, 1));
            tells(x, days[k] + " days behind", 0, 0, Chargehouse.OPEN, 0, 0, 0, 0, due[k], 1, 1);
            counts(x, "one plea", 1, 0, 1, 0, 0, 0);
        }
    }

    private static void pleaShares() {
        Chargehouse x = proven(0);
        x.offence(0b001, 2, 2000);
        x.offence(0b010, 3, 2000);
        x.offence(0b100, 4, 2000);
        x.offence(0b1000, 5, 2000);
        x.charge(0, 0, 0b0111);
        check.fails("14: 4 of 9", Check.STATE, () -> x.plea(0, 0, 0b0100));
        check.fails("14: 3 of 9", Check.STATE, () -> x.plea(0, 0, 0b0010));
        check.is("14: charged still", 0b0111, x.ofAccused(0, 0, 1));
        check.is("14: 5 of 9", 40, x.plea(0, 0, 0b0011));
        tells(x, "convicted of two alone", 0, 0, Chargehouse.OPEN, 0, 0, 0, 0, 40, 0b0011, 0b0111);
        counts(x, "a plea to two", 2, 0, 1, 0, 0, 0);
        x.charge(0, 1, 0b1011);
        check.is("14: the very half", 40, x.plea(0, 1, 0b1000));
        x.charge(0, 2, 0b1110);
        check.is("14: all of them", 96, x.plea(0, 2, 0b1110));
        counts(x, "pleas", 6, 0, 3, 0, 0, 0);
    }

    private static void wrongPleas() {
        Chargehouse x = proven(0);
        x.file(0, 0b10, 0);
        x.offence(1, 5, 2000);
        x.offence(2, 5, 2000);
        check.fails("14: no such file", Check.INDEX, () -> x.plea(2, 0, 1));
        check.fails("14: a file below 0", Check.INDEX, () -> x.plea(-1, 0, 1));
        check.fails("14: not accused", Check.INDEX, () -> x.plea(1, 0, 1));
        check.fails("14: a person 8, and others", Check.INDEX, () -> x.plea(0, 8, 4));
        check.fails("14: others than are there", Check.ARGUMENT, () -> x.plea(0, 0, 4));
        check.fails("14: below 0", Check.ARGUMENT, () -> x.plea(0, 0, -1));
        check.fails("14: open", Check.STATE, () -> x.plea(0, 0, 1));
        check.fails("14: open, and none", Check.STATE, () -> x.plea(0, 0, 0));
        x.charge(0, 0, 1);
        check.fails("14: none", Check.STATE, () -> x.plea(0, 0, 0));
        check.fails("14: not charged with it", Check.STATE, () -> x.plea(0, 0, 2));
        check.fails("14: not charged with both", Check.STATE, () -> x.plea(0, 0, 3));
        check.fails("14: others too", Check.ARGUMENT, () -> x.plea(0, 0, 5));
        x.drop(0, 1);
        check.fails("14: dropped", Check.STATE, () -> x.plea(0, 1, 1));
        counts(x, "no pleas", 0, 0, 0, 1, 0, 0);
        check.is("14: then the right one", 40, x.plea(0, 0, 1));
    }

    private static void pleasLackNothing() {
        Chargehouse x = proven(0);
        x.offence(1, 1, 2000);
        x.charge(0, 0, 1);
        x.item(0, 0, -9, ALL, Chargehouse.LAWFULLY, false);
        check.is("24: lacked", 1, x.lacks(0, 0));
        check.is("14: whatever that one lacks", 8, x.plea(0, 0, 1));
        check.is("24: lacked still", 1, x.lacks(0, 0));
    }

    private static void monthsAddUp() {
        Chargehouse x = proven(0);
        x.file(0, 1, 0);
        x.item(1, 0, 9, 1, Chargehouse.LAWFULLY, false);
        x.offence(0b01, 9, 2000);
        x.offence(0b10, 8, 2000);
        x.offence(0b100, 8, 2000);
        x.charge(0, 0, 0b001);
        x.plea(0, 0, 0b001);
        x.charge(0, 0, 0b010);
        x.pass(11);
        x.plea(0, 0, 0b010);
        x.charge(1, 0, 0b001);
        x.pass(31);
        x.plea(1, 0, 0b001);
        x.charge(0, 0, 0b100);
        x.trial(0, 0);
        tells(x, "two pleas and a trial", 0, 0, Chargehouse.OPEN, 0, 0, 0, 0, 72 + 72, 0b111, 0b111);
        tells(x, "a plea in the other file", 1, 0, Chargehouse.OPEN, 0, 0, 0, 0, 97, 0b001, 0b001);
        counts(x, "in all files", 4, 0, 3, 0, 0, 0);
    }

    private static void wrongQuestions() {
        Chargehouse x = proven(0);
        x.file(0, 0b10, 0);
        check.fails("26: no such file", Check.INDEX, () -> x.ofAccused(2, 0, 0));
        check.fails("26: a file below 0", Check.INDEX, () -> x.ofAccused(-1, 0, 0));
        check.fails("26: not accused", Check.INDEX, () -> x.ofAccused(1, 0, 0));
        check.fails("26: a person 8", Check.INDEX, () -> x.ofAccused(0, 8, 0));
        check.fails("26: not accused, and what 8", Check.INDEX, () -> x.ofAccused(1, 0, 8));
        check.fails("26: what 8", Check.ARGUMENT, () -> x.ofAccused(0, 0, 8));
        check.fails("26: what below 0", Check.ARGUMENT, () -> x.ofAccused(0, 0, -1));
        check.fails("27: what 6", Check.ARGUMENT, () -> x.count(6));
        check.fails("27: what below 0", Check.ARGUMENT, () -> x.count(-1));
    }
}
