/** Promises 11 to 14, 26 and 27, "trials, pleas" and "Victims": each edge that the document names, and beyond it. */
public final class DecisionEdgesTest {
    private static final Check check = new Check();

    public static void main(String[] args) {
        whoCanBeDropped();
        dropArguments();
        reviewsOfThirtyDays();
        reviewsOfThirtyDaysFromTheLastDrop();
        reviewedOnce();
        whatTheReviewLooksAt();
        whenTheOffenceIsTold();
        reviewArguments();
        strengthOfEight();
        strengthOfEightToday();
        lackingNothing();
        trialArguments();
        discountsByDays();
        discountsAnew();
        monthsRoundedDown();
        theHalf();
        theLeastAndTheMostPleaded();
        pleaArguments();
        setsWithOthers();
        behindATrialOrAPlea();
        whatOfAccused();
        whatToCount();
        oneAfterAnother();
        check.report("DecisionEdgesTest");
    }

    private static long drop(Chargehouse x, int file, int person) {
        x.drop(file, person);
        return 0;
    }

    private static long review(Chargehouse x, int file, int person) {
        return x.review(file, person) ? 1 : 0;
    }

    private static Chargehouse sixFiles() {
        Chargehouse x = Houses.provenWithOffences(5);
        for (int file = 1; file < 6; file++) {
            x.file(0, 255, 0);
            x.item(file, 0, 9, 255, Chargehouse.LAWFULLY, false);
        }
        return x;
    }

    private static Chargehouse someAccused() {
        Chargehouse x = new Chargehouse();
        x.file(0, 0b0110, 0);
        return x;
    }

    private static Chargehouse sixFilesWith(boolean areCharged) {
        Chargehouse x = sixFiles();
        for (int file = 0; file < 6; file++) {
            for (int person = 0; person < 8; person++) {
                if (areCharged) {
                    x.charge(file, person, 1);
                } else {
                    x.drop(file, person);
                }
            }
        }
        return x;
    }

    private static void whoCanBeDropped() {
        Chargehouse x = Houses.provenWithOffences(5);
        check.is("11: open at first", 0, drop(x, 0, 0));
        check.fails("11: dropped already", Check.STATE, () -> drop(x, 0, 0));
        x.review(0, 0);
        check.is("11: open by a review", 0, drop(x, 0, 0));
        x.charge(0, 1, 1);
        check.fails("11: charged", Check.STATE, () -> drop(x, 0, 1));
        x.trial(0, 1);
        check.is("11: open behind a trial", 0, drop(x, 0, 1));
        x.charge(0, 2, 1);
        x.plea(0, 2, 1);
        check.is("11: open behind a plea", 0, drop(x, 0, 2));
        check.is("27: dropped four times", 4, x.count(3));
    }

    private static void dropArguments() {
        check.range("11: file", 0, 5, Check.INDEX, value -> drop(sixFiles(), value, 0));
        check.range("11: person", 0, 7, Check.INDEX, value -> drop(sixFiles(), 0, value));
        check.refuses("11: not accused", Check.INDEX, value -> drop(someAccused(), 0, value), 0, 3, 7);
        check.fails("11: none is there", Check.INDEX, () -> drop(new Chargehouse(), 0, 0));
    }

    private static void reviewsOfThirtyDays() {
        for (int start = 0; start <= 12; start += 12) {
            int[] days = {0, 1, 29, 30, 31, 32, 100};
            for (int behind : days) {
                Chargehouse x = Houses.provenWithOffences(5);
                Houses.passTo(x, start);
                x.drop(0, 0);
                Houses.passTo(x, start + behind);
                check.note("12: " + behind + " days behind", behind <= 30 ? "1" : Check.STATE.getName(),
                    Check.outcome(() -> review(x, 0, 0)));
                check.is("26: " + behind + " days behind", behind <= 30 ? Chargehouse.OPEN : Chargehouse.DROPPED,
                    x.ofAccused(0, 0, 0));
                check.is("27: " + behind + " days behind", behind <= 30 ? 1 : 0, x.count(4));
            }
        }
    }

    private static void reviewsOfThirtyDaysFromTheLastDrop() {
        for (int behind = 30; behind <= 31; behind++) {
            Chargehouse x = Houses.provenWithOffences(5);
            x.drop(0, 0);
            x.pass(25);
            x.review(0, 0);
            x.pass(20);
            x.drop(0, 0);
            x.pass(behind);
            check.note("12: the second time, " + behind + " days", behind <= 30 ? "1" : Check.STATE.getName(),
                Check.outcome(() -> review(x, 0, 0)));
        }
    }

    private static void reviewedOnce() {
        Chargehouse x = Houses.proven(0);
        x.drop(0, 0);
        check.is("12: nothing to charge", 0, review(x, 0, 0));
        check.fails("12: once, on the same day", Check.STATE, () -> review(x, 0, 0));
        x.offence(1, 5, 2000);
        check.fails("12: once, though there is something now", Check.STATE, () -> review(x, 0, 0));
        x.pass(30);
        check.fails("12: once, 30 days behind", Check.STATE, () -> review(x, 0, 0));
        check.fails("11: dropped for good", Check.STATE, () -> drop(x, 0, 0));
        check.fails("10: dropped for good", Check.STATE, () -> x.charge(0, 0, 1));
        check.fails("15: dropped for good", Check.STATE, () -> x.arrest(0, 0));
        check.fails("16: dropped for good", Check.STATE, () -> x.extend(0, 0, 1));
        for (int time = 1; time <= 4; time++) {
            x.drop(0, 1);
            check.is("12: each time " + time, 1, review(x, 0, 1));
            check.fails("12: open again " + time, Check.STATE, () -> review(x, 0, 1));
        }
        x.file(0, 1, 0);
        x.drop(1, 0);
        check.is("12: in the other file, nothing is known", 0, review(x, 1, 0));
        check.is("27: dropped", 6, x.count(3));
        check.is("27: open again", 4, x.count(4));
    }

    /** Dropped on the day 20; what is due is told for changes on the days 19 to 21. */
    private static void whatTheReviewLooksAt() {
        for (int day = 19; day <= 21; day++) {
            int late = day <= 20 ? 1 : 0;
            check.is("12: an item of the day " + day, late, reviewOf(day, 0));
            check.is("12: admitted on the day " + day, late, reviewOf(day, 1));
            check.is("12: weakened on the day " + day, 1 - late, reviewOf(day, 2));
        }
        for (int limit = 19; limit <= 21; limit++) {
            Chargehouse x = Houses.proven(0);
            x.offence(1, 5, limit);
            Houses.passTo(x, 20);
            x.drop(0, 0);
            Houses.passTo(x, 40);
            check.is("12: the limit " + limit, limit >= 20 ? 1 : 0, review(x, 0, 0));
            check.is("21: the limit " + limit + " is over today", 1, x.whyNot(0, 0, 0, 40));
        }
        for (int points = -5; points <= -4; points++) {
            Chargehouse x = Houses.proven(points);
            x.offence(1, 5, 2000);
            x.drop(0, 0);
            check.is("12: gravity 5 and " + points, points + 5, review(x, 0, 0));
        }
        for (int tried = 0; tried <= 1; tried++) {
            Chargehouse x = Houses.proven(0);
            x.offence(1, 5, 2000);
            if (tried == 1) {
                x.charge(0, 0, 1);
                x.trial(0, 0);
            }
            x.drop(0, 0);
            check.is("12: spent on that day", 1 - tried, review(x, 0, 0));
        }
    }

    /** What comes on the same day comes behind the drop; 0 an item, 1 an admission, 2 what weakens. */
    private static long reviewOf(int day, int kind) {
        Chargehouse x = new Chargehouse();
        x.file(0, 1, 0);
        x.offence(1, 5, 2000);
        Houses.item(x, 0, kind == 2 ? 5 : 4, 1);
        x.item(0, 0, 1, 1, Chargehouse.UNWARRANTED, false);
        for (int today = 0; today < 22; today++) {
            if (today == 20) {
                x.drop(0, 0);
            }
            if (today == day && kind == 1) {
                x.admit(1);
            } else if (today == day) {
                Houses.item(x, 0, kind == 0 ? 1 : -1, 1);
            }
            x.pass(1);
        }
        return review(x, 0, 0);
    }

    private static void whenTheOffenceIsTold() {
        for (int told = 0; told <= 2; told++) {
            Chargehouse x = Houses.proven(0);
            Houses.passTo(x, 9);
            if (told == 0) {
                x.offence(1, 5, 10);
            }
            x.pass(1);
            x.drop(0, 0);
            if (told == 1) {
                x.offence(1, 5, 10);
            }
            x.pass(30);
            if (told == 2) {
                x.offence(1, 5, 10);
            }
            check.is("12: whenever it was told " + told, 1, review(x, 0, 0));
        }
        Chargehouse y = Houses.proven(0);
        y.drop(0, 0);
        for (int number = 0; number < 8; number++) {
            y.offence(number == 7 ? 1 : 2, 5, number == 7 ? 2000 : 1);
        }
        check.is("12: the eighth alone", 1, review(y, 0, 0));
    }

    private static void reviewArguments() {
        check.range("12: file", 0, 5, Check.INDEX, value -> review(sixFilesWith(false), value, 0));
        check.range("12: person", 0, 7, Check.INDEX, value -> review(sixFilesWith(false), 0, value));
        check.refuses("12: not accused", Check.INDEX, value -> review(someAccused(), 0, value), 0, 3, 7);
        check.fails("12: none is there", Check.INDEX, () -> review(new Chargehouse(), 0, 0));
        check.fails("12: open", Check.STATE, () -> review(sixFiles(), 0, 0));
        check.fails("12: charged", Check.STATE, () -> review(sixFilesWith(true), 0, 0));
    }

    private static void strengthOfEight() {
        for (int element = 0; element < 10; element++) {
            for (int strength = 6; strength <= 9; strength++) {
                Chargehouse x = new Chargehouse();
                x.file(0, 1, 0);
                x.offence(1023, 5, 2000);
                for (int other = 0; other < 10; other++) {
                    Houses.item(x, other, other == element ? strength : 8, 1);
                }
                x.charge(0, 0, 1);
                boolean isConvicted = strength >= 8;
                check.is("13: " + strength + " of the element " + element, isConvicted ? 1 : 0, x.trial(0, 0));
                check.is("27: convicted", isConvicted ? 1 : 0, x.count(0));
                check.is("27: acquitted", isConvicted ? 0 : 1, x.count(1));
                check.is("26: convicted of", isConvicted ? 1 : 0, x.ofAccused(0, 0, 6));
                check.is("26: spent in either way", 1, x.ofAccused(0, 0, 7));
            }
        }
    }

    private static void strengthOfEightToday() {
        for (int weight = -2; weight <= 1; weight++) {
            if (weight != 0) {
                Chargehouse x = new Chargehouse();
                x.file(0, 1, 0);
                x.offence(1, 5, 2000);
                x.offence(2, 5, 2000);
                Houses.item(x, 0, weight < 0 ? 9 : 7, 1);
                Houses.item(x, 1, 5, 1);
                x.charge(0, 0, 0b11);
                x.pass(10);
                int last = Houses.item(x, 0, weight, 1);
                if (weight < 0) {
                    x.show(last, 0);
                }
                check.is("13: today " + weight, weight == -2 ? 0 : 1, x.trial(0, 0));
                check.is("27: acquitted " + weight, weight == -2 ? 2 : 1, x.count(1));
            }
        }
        Chargehouse y = new Chargehouse();
        y.file(0, 3, 0);
        y.offence(1, 5, 2000);
        Houses.item(y, 0, 7, 3);
        y.item(0, 0, 1, 3, Chargehouse.UNWARRANTED, false);
        y.charge(0, 0, 1);
        y.charge(0, 1, 1);
        check.is("13: not admitted", 0, y.trial(0, 0));
        y.admit(1);
        check.is("13: admitted today", 1, y.trial(0, 1));
    }

    private static void lackingNothing() {
        Chargehouse x = Houses.provenWithOffences(5);
        int[] items = {Houses.item(x, 9, -1, 1), x.item(0, 9, -1, 1, Chargehouse.FORCE, true),
            x.item(0, 9, -1, 1, Chargehouse.UNWARRANTED, true)};
        x.file(0, 1, 0);
        x.item(1, 0, -9, 1, Chargehouse.LAWFULLY, false);
        Houses.item(x, 9, -9, 2);
        x.charge(0, 0, 1);
        check.fails("13: three are lacked", Check.STATE, () -> x.trial(0, 0));
        check.is("8: two are", 2, x.show(items[0], 0));
        check.fails("13: two are lacked", Check.STATE, () -> x.trial(0, 0));
        x.withhold(items[1]);
        check.is("24: one is", 1, x.lacks(0, 0));
        check.fails("13: one is lacked", Check.STATE, () -> x.trial(0, 0));
        check.is("8: none is", 0, x.show(items[2], 0));
        check.is("13: none is lacked, whatever others lack", 1, x.trial(0, 0));
        check.is("24: the other file has its own", 1, x.lacks(1, 0));
    }

    private static void trialArguments() {
        check.range("13: file", 0, 5, Check.INDEX, value -> sixFilesWith(true).trial(value, 0));
        check.range("13: person", 0, 7, Check.INDEX, value -> sixFilesWith(true).trial(0, value));
        check.refuses("13: not accused", Check.INDEX, value -> someAccused().trial(0, value), 0, 3, 7);
        check.fails("13: none is there", Check.INDEX, () -> new Chargehouse().trial(0, 0));
        check.fails("13: open", Check.STATE, () -> sixFiles().trial(0, 0));
        check.fails("13: dropped", Check.STATE, () -> sixFilesWith(false).trial(0, 0));
        Chargehouse x = sixFilesWith(true);
        check.is("13: once", 1, x.trial(0, 0));
        check.fails("13: once alone", Check.STATE, () -> x.trial(0, 0));
    }

    private static void discountsByDays() {
        for (int start = 0; start <= 15; start += 15) {
            int[] days = {0, 1, 9, 10, 11, 12, 29, 30, 31, 32, 100, 1000};
            for (int behind : days) {
                Chargehouse x = Houses.provenWithOffences(9);
                Houses.passTo(x, start);
                x.charge(0, 0, 1);
                Houses.passTo(x, start + behind);
                int due = behind <= 10 ? 72 : behind <= 30 ? 81 : 97;
                check.is("14: " + behind + " days behind " + start, due, x.plea(0, 0, 1));
            }
        }
    }

    /** The days are those behind the last charging, not the first. */
    private static void discountsAnew() {
        Chargehouse x = Houses.provenWithOffences(9);
        x.pass(5);
        x.charge(0, 0, 1);
        x.pass(31);
        check.is("14: 31 days", 97, x.plea(0, 0, 1));
        x.charge(0, 0, 2);
        x.pass(10);
        check.is("14: ten days behind the second charging", 72, x.plea(0, 0, 2));
        x.charge(0, 0, 4);
        x.pass(11);
        check.is("14: eleven days behind the third charging", 81, x.plea(0, 0, 4));
        check.is("26: all together", 97 + 72 + 81, x.ofAccused(0, 0, 5));
    }

    private static void monthsRoundedDown() {
        int[] days = {0, 11, 31};
        int[] discounts = {33, 25, 10};
        for (int k = 0; k < 3; k++) {
            for (int gravity = 1; gravity <= 27; gravity++) {
                Chargehouse x = Houses.proven(0);
                int first = Math.min(9, gravity);
                int second = Math.min(9, gravity - first);
                int third = gravity - first - second;
                int[] parts = {first, second, third};
                int set = 0;
                for (int part : parts) {
                    if (part > 0) {
                        int number = Integer.bitCount(set);
                        x.offence(1 << number, part, 2000);
                        set |= 1 << number;
                    }
                }
                check.is("10: the gravity " + gravity, gravity, x.charge(0, 0, set));
                Houses.passTo(x, days[k]);
                int hundredths = 12 * gravity * (100 - discounts[k]);
                int due = (hundredths - hundredths % 100) / 100;
                check.is("14: months of " + gravity + " less " + discounts[k], due, x.plea(0, 0, set));
            }
        }
        check.is("14: 10.8 months", 10, monthsOf(1, 31));
        check.is("14: 21.6 months", 21, monthsOf(2, 31));
        check.is("14: 8.04 months", 8, monthsOf(1, 10));
        check.is("14: 9 months", 9, monthsOf(1, 11));
    }

    private static int monthsOf(int gravity, int day) {
        Chargehouse x = Houses.provenWithOffences(gravity);
        x.charge(0, 0, 1);
        x.pass(day);
        return x.plea(0, 0, 1);
    }

    /** Each part of each set of three charges, whose gravity is told by the three numbers. */
    private static void theHalf() {
        int[][] gravities = {{1, 2, 3}, {1, 2, 4}, {4, 4, 8}, {4, 4, 9}, {4, 4, 7}, {3, 3, 3}, {9, 9, 9}, {1, 1, 9}};
        for (int[] three : gravities) {
            for (int part = 1; part < 8; part++) {
                Chargehouse x = Houses.proven(0);
                int all = 0;
                int pleaded = 0;
                for (int number = 0; number < 3; number++) {
                    x.offence(1 << number, three[number], 2000);
                    all += three[number];
                    pleaded += (part >> number & 1) * three[number];
                }
                x.charge(0, 0, 7);
                int set = part;
                boolean isEnough = pleaded >= all - pleaded;
                check.note("14: " + pleaded + " of " + all, isEnough ? "" + 12 * pleaded * 67 / 100
                    : Check.STATE.getName(), Check.outcome(() -> x.plea(0, 0, set)));
                check.is("26: convicted of these alone", isEnough ? part : 0, x.ofAccused(0, 0, 6));
                check.is("26: spent are all", isEnough ? 7 : 0, x.ofAccused(0, 0, 7));
                check.is("26: charged still, or open", isEnough ? 0 : 7, x.ofAccused(0, 0, 1));
                check.is("27: convicted", isEnough ? Integer.bitCount(part) : 0, x.count(0));
                check.is("27: acquitted of none", 0, x.count(1));
                check.is("27: pleas", isEnough ? 1 : 0, x.count(2));
            }
        }
    }

    private static void theLeastAndTheMostPleaded() {
        Chargehouse x = Houses.provenWithOffences(5);
        check.fails("14: open", Check.STATE, () -> x.plea(0, 0, 1));
        x.charge(0, 0, 0b0111);
        check.fails("14: none", Check.STATE, () -> x.plea(0, 0, 0));
        check.fails("14: another charge alone", Check.STATE, () -> x.plea(0, 0, 0b1000));
        check.fails("14: all and another charge", Check.STATE, () -> x.plea(0, 0, 0b1111));
        check.fails("14: two and another charge", Check.STATE, () -> x.plea(0, 0, 0b1011));
        check.is("14: all", 120, x.plea(0, 0, 0b0111));
        check.fails("14: open again", Check.STATE, () -> x.plea(0, 0, 0b0111));
        x.drop(0, 1);
        check.fails("14: dropped", Check.STATE, () -> x.plea(0, 1, 1));
        x.charge(0, 2, 0b1000);
        check.fails("14: none of one", Check.STATE, () -> x.plea(0, 2, 0));
        Houses.item(x, 0, -9, 255);
        check.is("24: lacks one", 1, x.lacks(0, 2));
        check.is("14: one of one, whatever is lacked", 40, x.plea(0, 2, 0b1000));
    }

    private static void pleaArguments() {
        check.range("14: file", 0, 5, Check.INDEX, value -> sixFilesWith(true).plea(value, 0, 1));
        check.range("14: person", 0, 7, Check.INDEX, value -> sixFilesWith(true).plea(0, value, 1));
        check.refuses("14: file, and others", Check.INDEX, value -> sixFilesWith(true).plea(value, 0, 256), -1, 6);
        check.refuses("14: person, and others", Check.INDEX, value -> sixFilesWith(true).plea(0, value, -1), -1, 8);
        check.refuses("14: file, and none", Check.INDEX, value -> sixFilesWith(true).plea(value, 0, 0), -1, 6);
        check.refuses("14: person, and none", Check.INDEX, value -> sixFilesWith(true).plea(0, value, 0), -1, 8);
        check.refuses("14: not accused", Check.INDEX, value -> someAccused().plea(0, value, 0), 0, 3, 7);
        check.fails("14: none is there", Check.INDEX, () -> new Chargehouse().plea(0, 0, 0));
    }

    private static void setsWithOthers() {
        for (int many = 1; many <= 8; many++) {
            Chargehouse x = Houses.proven(0);
            for (int number = 0; number < many; number++) {
                x.offence(1 << number, 2, 2000);
            }
            int all = (1 << many) - 1;
            int next = 1 << many;
            int last = next >> 1;
            x.charge(0, 0, last);
            x.drop(0, 1);
            for (int person = 0; person < 3; person++) {
                int one = person;
                check.refuses("14: others than the " + many + ", " + one, Check.ARGUMENT, value -> x.plea(0, one, value),
                    next, next | last, next | all, 1 << 8, 1 << 9 | 1, 1 << 16, 1 << 30, -1, ~all, Integer.MIN_VALUE,
                    Integer.MIN_VALUE | last, Integer.MAX_VALUE);
            }
            check.fails("14: the last, while dropped", Check.STATE, () -> x.plea(0, 1, last));
            check.fails("14: the last, while open", Check.STATE, () -> x.plea(0, 2, last));
            check.is("14: the last", 16, x.plea(0, 0, last));
        }
        Chargehouse y = someAccused();
        check.refuses("14: no offences, some", Check.ARGUMENT, value -> y.plea(0, 1, value), 1, 128, -1);
        check.fails("14: no offences, none", Check.STATE, () -> y.plea(0, 1, 0));
    }

    private static void behindATrialOrAPlea() {
        for (int answer = 0; answer < 2; answer++) {
            Chargehouse x = Houses.provenWithOffences(5);
            x.arrest(0, 0);
            x.pass(2);
            x.charge(0, 0, 0b110);
            x.pass(3);
            int[] charged = {Chargehouse.CHARGED, 0b110, 1, 2, 3, 0, 0, 0};
            int[] trial = {Chargehouse.OPEN, 0, 0, 2, 0, 0, 0b110, 0b110};
            int[] plea = {Chargehouse.OPEN, 0, 0, 2, 0, 40, 0b100, 0b110};
            for (int k = 0; k < 8; k++) {
                check.is("26: charged " + k, charged[k], x.ofAccused(0, 0, k));
            }
            check.is("13, 14: the answer", answer == 0 ? 0b110 : 40, answer == 0 ? x.trial(0, 0) : x.plea(0, 0, 0b100));
            for (int k = 0; k < 8; k++) {
                check.is("26: behind " + answer + ", " + k, answer == 0 ? trial[k] : plea[k], x.ofAccused(0, 0, k));
            }
            check.is("27: convicted", answer == 0 ? 2 : 1, x.count(0));
            check.is("27: acquitted", 0, x.count(1));
            check.is("27: pleas", answer, x.count(2));
        }
    }

    private static void whatOfAccused() {
        check.range("26: file", 0, 5, Check.INDEX, value -> sixFiles().ofAccused(value, 0, 0));
        check.range("26: person", 0, 7, Check.INDEX, value -> sixFiles().ofAccused(0, value, 0));
        check.range("26: what", 0, 7, Check.ARGUMENT, value -> sixFiles().ofAccused(0, 0, value));
        check.refuses("26: file, and what", Check.INDEX, value -> sixFiles().ofAccused(value, 0, 8), -1, 6);
        check.refuses("26: person, and what", Check.INDEX, value -> sixFiles().ofAccused(0, value, -1), -1, 8);
        check.refuses("26: not accused", Check.INDEX, value -> someAccused().ofAccused(0, value, 0), 0, 3, 7);
        check.refuses("26: not accused, and what", Check.INDEX, value -> someAccused().ofAccused(0, 0, value), -1, 8);
        check.fails("26: none is there", Check.INDEX, () -> new Chargehouse().ofAccused(0, 0, 0));
        for (int k = 0; k < 8; k++) {
            check.is("26: at first " + k, 0, someAccused().ofAccused(0, 1, k));
        }
    }

    private static void whatToCount() {
        check.range("27: what, of nothing", 0, 5, Check.ARGUMENT, value -> new Chargehouse().count(value));
        check.range("27: what", 0, 5, Check.ARGUMENT, value -> sixFilesWith(true).count(value));
        Chargehouse x = sixFilesWith(true);
        for (int file = 0; file < 6; file++) {
            for (int person = 0; person < 8; person++) {
                x.trial(file, person);
            }
        }
        check.is("27: convicted in all files", 48, x.count(0));
        check.is("27: dropped in all files", 48, sixFilesWith(false).count(3));
    }

    /** Two trials and two pleas of the same accused: nothing of the first is lost by the second. */
    private static void oneAfterAnother() {
        Chargehouse x = Houses.provenWithOffences(5);
        for (int element = 0; element < 8; element += 3) {
            Houses.item(x, element, -2, 1);
        }
        for (int number = 10; number < 13; number++) {
            x.show(number, 0);
        }
        int[] charges = {0b00000011, 0b00001100, 0b00110000, 0b11000000};
        int[] convicted = {0b00000010, 0b00000110, 0b00110110, 0b01110110};
        int[][] counts = {{1, 1, 0}, {2, 2, 0}, {4, 2, 1}, {5, 2, 2}};
        int[] months = {0, 0, 80, 120};
        for (int k = 0; k < 4; k++) {
            x.charge(0, 0, charges[k]);
            if (k < 2) {
                x.trial(0, 0);
            } else {
                x.plea(0, 0, k == 2 ? charges[k] : 0b01000000);
            }
            check.is("26: convicted of, behind " + k, convicted[k], x.ofAccused(0, 0, 6));
            check.is("26: spent, behind " + k, (1 << 2 * k + 2) - 1, x.ofAccused(0, 0, 7));
            check.is("26: months, behind " + k, months[k], x.ofAccused(0, 0, 5));
            for (int what = 0; what < 3; what++) {
                check.is("27: " + what + " behind " + k, counts[k][what], x.count(what));
            }
        }
        check.fails("10: all are spent", Check.STATE, () -> x.charge(0, 0, 1));
        check.is("22: all are spent", 0, x.best(0, 0, 0));
    }
}
