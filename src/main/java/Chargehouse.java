/** Those who decide whom the state shall try; ../shared/DOC.md says what each call promises. */
public final class Chargehouse {
    public static final int NONE = -1;
    public static final int LAWFULLY = 0, UNWARRANTED = 1, FORCE = 2;
    public static final int OPEN = 0, DROPPED = 1, CHARGED = 2;

    private static final int MOST_OFFENCES = 8;
    private static final int MOST_FILES = 6;
    private static final int MOST_ITEMS = 40;
    private static final int ELEMENTS = 10;
    private static final int PERSONS = 8;
    private static final int LAST_DAY = 5000;
    private static final int MOST_CHARGES = 3;
    private static final int ENOUGH_TO_CHARGE = 5;
    private static final int ENOUGH_TO_CONVICT = 8;
    private static final int DAYS_TO_REVIEW = 30;
    private static final int CEILING_WHILE_CHARGED = 60;

    // A place that is still null holds nothing: a number is good just if its place is not null.
    private final Offence[] offenceRows = new Offence[MOST_OFFENCES];
    private final CaseFile[] fileRows = new CaseFile[MOST_FILES];
    private final Item[] itemRows = new Item[MOST_ITEMS];
    private int offenceCount;
    private int fileCount;
    private int itemCount;
    private int today;

    private int convictions;
    private int acquittals;
    private int pleas;
    private int drops;
    private int reopened;
    private int clockReleases;

    public Chargehouse() {
    }

    // ---- law

    public int offence(int elements, int gravity, int limit) throws IllegalArgumentException, IllegalStateException {
        if (!isWithin(elements, 1, (1 << ELEMENTS) - 1) || !isWithin(gravity, 1, 9) || !isWithin(limit, 1, 2000)) {
            throw new IllegalArgumentException("elements, gravity or limit is out of range");
        }
        if (offenceCount >= offenceRows.length) {
            throw new IllegalStateException("no more offences can be told");
        }
        offenceRows[offenceCount] = new Offence(elements, gravity, limit);
        offenceCount++;
        return offenceCount - 1;
    }

    public boolean exclude(int offence, int other) throws IndexOutOfBoundsException, IllegalArgumentException {
        Offence one = offenceAt(offence);
        Offence two = offenceAt(other);
        if (one == null || two == null) {
            throw new IndexOutOfBoundsException("no such offence");
        }
        if (offence == other) {
            throw new IllegalArgumentException("an offence does not exclude itself");
        }
        boolean did = one.excludes(other);
        one.excluded |= 1 << other;
        two.excluded |= 1 << offence;
        return did;
    }

    public int pass(int days) throws IllegalArgumentException, IllegalStateException {
        if (!isWithin(days, 1, 100)) {
            throw new IllegalArgumentException("days is out of range");
        }
        if (today + days > LAST_DAY) {
            throw new IllegalStateException("the last day would be passed");
        }
        for (CaseFile file : fileRows) {
            if (file != null) {
                clockReleases += file.passInCustody(days);
            }
        }
        today += days;
        return today;
    }

    // ---- files, items

    public int file(int event, int accused, int points) throws IllegalArgumentException, IllegalStateException {
        if (!isWithin(event, 0, today) || !isWithin(accused, 1, (1 << PERSONS) - 1) || !isWithin(points, -9, 9)) {
            throw new IllegalArgumentException("event, accused or points is out of range");
        }
        if (fileCount >= fileRows.length) {
            throw new IllegalStateException("no more files can be opened");
        }
        CaseFile made = new CaseFile(fileCount, event, accused, points);
        for (int person = 0; person < made.rows.length; person++) {
            if (hasBit(accused, person)) {
                made.rows[person] = new Accused(made, person);
            }
        }
        fileRows[fileCount] = made;
        fileCount++;
        return made.number;
    }

    public int item(int file, int element, int weight, int against, int how, boolean isSensitive)
            throws IndexOutOfBoundsException, IllegalArgumentException, IllegalStateException {
        CaseFile its = fileAt(file);
        if (its == null || !isWithin(element, 0, ELEMENTS - 1)) {
            throw new IndexOutOfBoundsException("no such file or element");
        }
        if (!isWithin(weight, -9, 9) || weight == 0 || !its.hasAll(against) || !isWithin(how, LAWFULLY, FORCE)) {
            throw new IllegalArgumentException("weight, against or how is out of range");
        }
        if (itemCount >= itemRows.length) {
            throw new IllegalStateException("no more items can come");
        }
        itemRows[itemCount] = new Item(file, element, weight, against, how, isSensitive, today);
        itemCount++;
        return itemCount - 1;
    }

    public void admit(int item) throws IndexOutOfBoundsException, IllegalStateException {
        Item it = itemAt(item);
        if (it == null) {
            throw new IndexOutOfBoundsException("no such item");
        }
        if (it.how != UNWARRANTED || it.admittedOn != NONE) {
            throw new IllegalStateException("the item is not unwarranted, or was admitted");
        }
        it.admittedOn = today;
    }

    public int show(int item, int person) throws IndexOutOfBoundsException, IllegalStateException {
        Item it = itemAt(item);
        if (it == null || !isWithin(person, 0, PERSONS - 1)) {
            throw new IndexOutOfBoundsException("no such item or person");
        }
        if (!it.isAgainst(person) || it.wasShownTo(person)) {
            throw new IllegalStateException("the item is not against that one, or was shown to that one");
        }
        it.shownTo |= 1 << person;
        return lackedBy(it.file, person);
    }

    public void withhold(int item) throws IndexOutOfBoundsException, IllegalStateException {
        Item it = itemAt(item);
        if (it == null) {
            throw new IndexOutOfBoundsException("no such item");
        }
        if (!it.isSensitive || it.isWithheld) {
            throw new IllegalStateException("the item is not sensitive, or is withheld");
        }
        it.isWithheld = true;
    }

    // ---- decisions

    public int charge(int file, int person, int offences)
            throws IndexOutOfBoundsException, IllegalArgumentException, IllegalStateException {
        Accused one = accusedAt(file, person);
        checkToldOffences(offences);
        if (one.state != OPEN || !isRight(offences, chargeable(one, today))) {
            throw new IllegalStateException("that one is not open, or the set is not right today");
        }
        one.state = CHARGED;
        one.charges = offences;
        one.chargedOn = today;
        return gravityOf(offences);
    }

    public void drop(int file, int person) throws IndexOutOfBoundsException, IllegalStateException {
        Accused one = accusedAt(file, person);
        if (one.state != OPEN) {
            throw new IllegalStateException("that one is not open");
        }
        one.state = DROPPED;
        one.droppedOn = today;
        one.isReviewed = false;
        one.isInCustody = false;
        drops++;
    }

    public boolean review(int file, int person) throws IndexOutOfBoundsException, IllegalStateException {
        Accused one = accusedAt(file, person);
        if (one.state != DROPPED || today - one.droppedOn > DAYS_TO_REVIEW || one.isReviewed) {
            throw new IllegalStateException("that one is not dropped, or for too long, or it was reviewed");
        }
        one.isReviewed = true;
        if (chargeable(one, one.droppedOn) == 0) {
            return false;
        }
        one.state = OPEN;
        reopened++;
        return true;
    }

    public int trial(int file, int person) throws IndexOutOfBoundsException, IllegalStateException {
        Accused one = accusedAt(file, person);
        if (one.state != CHARGED || lackedBy(file, person) > 0) {
            throw new IllegalStateException("that one is not charged, or lacks something");
        }
        int proven = provenCharges(one);
        convictions += Integer.bitCount(proven);
        acquittals += Integer.bitCount(one.charges & ~proven);
        one.answerCharges(proven, today);
        return proven;
    }

    public int plea(int file, int person, int offences)
            throws IndexOutOfBoundsException, IllegalArgumentException, IllegalStateException {
        Accused one = accusedAt(file, person);
        checkToldOffences(offences);
        if (one.state != CHARGED || offences == 0 || (offences & ~one.charges) != 0) {
            throw new IllegalStateException("that one is not charged, or not with such a set");
        }
        int gravity = gravityOf(offences);
        if (2 * gravity < gravityOf(one.charges)) {
            throw new IllegalStateException("less than the half is pleaded");
        }
        int months = 12 * gravity * (100 - discountAfter(today - one.chargedOn)) / 100;
        pleas++;
        convictions += Integer.bitCount(offences);
        one.months += months;
        one.answerCharges(offences, today);
        return months;
    }

    // ---- custody

    public int arrest(int file, int person) throws IndexOutOfBoundsException, IllegalStateException {
        Accused one = accusedAt(file, person);
        int left = one.daysLeft();
        if (one.state == DROPPED || one.isInCustody || left <= 0) {
            throw new IllegalStateException("that one is dropped, or in custody, or no day is left");
        }
        one.isInCustody = true;
        return left;
    }

    public int extend(int file, int person, int rank)
            throws IndexOutOfBoundsException, IllegalArgumentException, IllegalStateException {
        Accused one = accusedAt(file, person);
        if (!isWithin(rank, 1, 2)) {
            throw new IllegalArgumentException("rank is out of range");
        }
        if (one.state != OPEN || hasBit(one.extendedBy, rank)) {
            throw new IllegalStateException("that one is not open, or the rank extended it");
        }
        one.extendedBy |= 1 << rank;
        return one.ceilingWhileOpen();
    }

    public void release(int file, int person) throws IndexOutOfBoundsException, IllegalStateException {
        Accused one = accusedAt(file, person);
        if (!one.isInCustody) {
            throw new IllegalStateException("that one is not in custody");
        }
        one.isInCustody = false;
    }

    // ---- what there is; nothing from here on changes anything

    public int day() {
        return today;
    }

    public boolean nests(int offence, int other) throws IndexOutOfBoundsException {
        Offence one = offenceAt(offence);
        Offence two = offenceAt(other);
        if (one == null || two == null) {
            throw new IndexOutOfBoundsException("no such offence");
        }
        return one.nestsIn(two);
    }

    public int strength(int file, int person, int element, int day)
            throws IndexOutOfBoundsException, IllegalArgumentException {
        Accused one = accusedAt(file, person);
        if (!isWithin(element, 0, ELEMENTS - 1)) {
            throw new IndexOutOfBoundsException("no such element");
        }
        checkDay(day);
        return strengthAgainst(one, element, day);
    }

    public int whyNot(int file, int person, int offence, int day)
            throws IndexOutOfBoundsException, IllegalArgumentException {
        Accused one = accusedAt(file, person);
        Offence its = offenceAt(offence);
        if (its == null) {
            throw new IndexOutOfBoundsException("no such offence");
        }
        checkDay(day);
        return hindrance(one, its, day);
    }

    public int best(int file, int person, int day) throws IndexOutOfBoundsException, IllegalArgumentException {
        Accused one = accusedAt(file, person);
        checkDay(day);
        return bestByGrowing(chargeable(one, day));
    }

    public int bestAnew(int file, int person, int day) throws IndexOutOfBoundsException, IllegalArgumentException {
        Accused one = accusedAt(file, person);
        checkDay(day);
        return bestOfAllSets(chargeable(one, day));
    }

    public int lacks(int file, int person) throws IndexOutOfBoundsException {
        Accused one = accusedAt(file, person);
        return lackedBy(one.file.number, one.person);
    }

    public int ofItem(int item, int what) throws IndexOutOfBoundsException, IllegalArgumentException {
        Item it = itemAt(item);
        if (it == null) {
            throw new IndexOutOfBoundsException("no such item");
        }
        switch (what) {
            case 0: return it.file;
            case 1: return it.element;
            case 2: return it.weight;
            case 3: return it.against;
            case 4: return it.cameOn;
            case 5: return it.admittedOn;
            case 6: return it.shownTo;
            case 7: return it.isWithheld ? 1 : 0;
            default: throw new IllegalArgumentException("what is out of range");
        }
    }

    public int ofAccused(int file, int person, int what) throws IndexOutOfBoundsException, IllegalArgumentException {
        Accused one = accusedAt(file, person);
        switch (what) {
            case 0: return one.state;
            case 1: return one.charges;
            case 2: return one.isInCustody ? 1 : 0;
            case 3: return one.daysWhileOpen;
            case 4: return one.daysWhileCharged;
            case 5: return one.months;
            case 6: return one.convictedOf;
            case 7: return spentOffences(one);
            default: throw new IllegalArgumentException("what is out of range");
        }
    }

    public int count(int what) throws IllegalArgumentException {
        switch (what) {
            case 0: return convictions;
            case 1: return acquittals;
            case 2: return pleas;
            case 3: return drops;
            case 4: return reopened;
            case 5: return clockReleases;
            default: throw new IllegalArgumentException("what is out of range");
        }
    }

    // ---- looking up

    private static boolean isWithin(int number, int least, int most) {
        return number >= least && number <= most;
    }

    private static boolean hasBit(int set, int place) {
        return (set >> place & 1) == 1;
    }

    /** All places above this one, as bits. */
    private static int above(int place) {
        return -(2 << place);
    }

    private Offence offenceAt(int number) {
        return number < 0 || number >= offenceRows.length ? null : offenceRows[number];
    }

    private CaseFile fileAt(int number) {
        return number < 0 || number >= fileRows.length ? null : fileRows[number];
    }

    private Item itemAt(int number) {
        return number < 0 || number >= itemRows.length ? null : itemRows[number];
    }

    private Accused accusedAt(int file, int person) {
        CaseFile its = fileAt(file);
        Accused one = its == null ? null : its.rowOf(person);
        if (one == null) {
            throw new IndexOutOfBoundsException("no such file or accused");
        }
        return one;
    }

    private void checkDay(int day) {
        if (!isWithin(day, 0, today)) {
            throw new IllegalArgumentException("day is out of range");
        }
    }

    private void checkToldOffences(int set) {
        int told = (1 << offenceCount) - 1;
        if ((set & ~told) != 0) {
            throw new IllegalArgumentException("offences has others than are there");
        }
    }

    // ---- the two tests

    private int strengthAgainst(Accused one, int element, int day) {
        int sum = 0;
        for (Item it : itemRows) {
            if (it != null && it.file == one.file.number && it.element == element
                    && it.isAgainst(one.person) && it.countsOn(day)) {
                sum += it.weight;
            }
        }
        return sum;
    }

    private boolean hasStrength(Accused one, Offence offence, int least, int day) {
        for (int element = 0; element < ELEMENTS; element++) {
            if (hasBit(offence.elements, element) && strengthAgainst(one, element, day) < least) {
                return false;
            }
        }
        return true;
    }

    /** Looks at all offences, as one that was told behind a trial is spent by it too. */
    private boolean isSpent(Accused one, Offence offence, int day) {
        for (int number = 0; number < offenceRows.length; number++) {
            Offence other = offenceRows[number];
            if (other != null && other.isAkinTo(offence) && one.hadAnswered(number, day)) {
                return true;
            }
        }
        return false;
    }

    private int spentOffences(Accused one) {
        int spent = 0;
        for (int number = 0; number < offenceRows.length; number++) {
            Offence offence = offenceRows[number];
            if (offence != null && isSpent(one, offence, today)) {
                spent |= 1 << number;
            }
        }
        return spent;
    }

    private int hindrance(Accused one, Offence offence, int day) {
        if (day > one.file.event + offence.limit) {
            return 1;
        }
        if (isSpent(one, offence, day)) {
            return 2;
        }
        if (!hasStrength(one, offence, ENOUGH_TO_CHARGE, day)) {
            return 3;
        }
        return offence.gravity + one.file.points <= 0 ? 4 : 0;
    }

    private int chargeable(Accused one, int day) {
        int can = 0;
        for (int number = 0; number < offenceRows.length; number++) {
            Offence offence = offenceRows[number];
            if (offence != null && hindrance(one, offence, day) == 0) {
                can |= 1 << number;
            }
        }
        return can;
    }

    private int provenCharges(Accused one) {
        int proven = 0;
        for (int number = 0; number < offenceRows.length; number++) {
            Offence offence = offenceRows[number];
            if (offence != null && hasBit(one.charges, number)
                    && hasStrength(one, offence, ENOUGH_TO_CONVICT, today)) {
                proven |= 1 << number;
            }
        }
        return proven;
    }

    // ---- sets of offences

    private int gravityOf(int set) {
        int sum = 0;
        for (int number = 0; number < offenceRows.length; number++) {
            Offence offence = offenceRows[number];
            if (offence != null && hasBit(set, number)) {
                sum += offence.gravity;
            }
        }
        return sum;
    }

    /** The offences that may stand in one set with this one, itself not among them. */
    private int matesOf(int number) {
        Offence one = offenceAt(number);
        int mates = 0;
        for (int other = 0; other < offenceRows.length; other++) {
            Offence two = offenceRows[other];
            if (one != null && two != null && !one.excludes(other) && !one.isAkinTo(two)) {
                mates |= 1 << other;
            }
        }
        return mates;
    }

    private boolean isRight(int set, int can) {
        int size = Integer.bitCount(set);
        if (size < 1 || size > MOST_CHARGES || (set & ~can) != 0) {
            return false;
        }
        for (int number = 0; number < offenceRows.length; number++) {
            if (hasBit(set, number) && (set & ~(1 << number) & ~matesOf(number)) != 0) {
                return false;
            }
        }
        return true;
    }

    private int better(int set, int other) {
        int more = gravityOf(other) - gravityOf(set);
        if (more != 0) {
            return more > 0 ? other : set;
        }
        int fewer = Integer.bitCount(set) - Integer.bitCount(other);
        if (fewer != 0) {
            return fewer > 0 ? other : set;
        }
        return other < set ? other : set;
    }

    /** Adds only mates with higher numbers, so that each right set is met once and no other one at all. */
    private int bestByGrowing(int can) {
        int found = 0;
        for (int first = 0; first < offenceRows.length; first++) {
            if (hasBit(can, first)) {
                int alone = 1 << first;
                found = better(found, alone);
                found = bestWithMates(found, alone, can & matesOf(first) & above(first));
            }
        }
        return found;
    }

    private int bestWithMates(int foundYet, int first, int mates) {
        int found = foundYet;
        for (int second = 0; second < offenceRows.length; second++) {
            if (hasBit(mates, second)) {
                int pair = first | 1 << second;
                found = better(found, pair);
                found = bestWithThird(found, pair, mates & matesOf(second) & above(second));
            }
        }
        return found;
    }

    private int bestWithThird(int foundYet, int pair, int mates) {
        int found = foundYet;
        for (int third = 0; third < offenceRows.length; third++) {
            if (hasBit(mates, third)) {
                found = better(found, pair | 1 << third);
            }
        }
        return found;
    }

    private int bestOfAllSets(int can) {
        int found = 0;
        for (int set = 1; set < 1 << MOST_OFFENCES; set++) {
            if (isRight(set, can)) {
                found = better(found, set);
            }
        }
        return found;
    }

    // ---- disclosure, pleas

    private int lackedBy(int file, int person) {
        int lacked = 0;
        for (Item it : itemRows) {
            if (it != null && it.file == file && it.isLackedBy(person)) {
                lacked++;
            }
        }
        return lacked;
    }

    private static int discountAfter(int days) {
        if (days <= 10) {
            return 33;
        }
        return days <= 30 ? 25 : 10;
    }

    // ---- what is held

    private static final class Offence {
        final int elements;
        final int gravity;
        final int limit;
        int excluded;

        Offence(int elements, int gravity, int limit) {
            this.elements = elements;
            this.gravity = gravity;
            this.limit = limit;
        }

        boolean excludes(int other) {
            return hasBit(excluded, other);
        }

        boolean nestsIn(Offence other) {
            return elements != other.elements && (elements & ~other.elements) == 0;
        }

        /** Just the same elements, or one of both nests in the other. */
        boolean isAkinTo(Offence other) {
            return elements == other.elements || nestsIn(other) || other.nestsIn(this);
        }
    }

    private static final class Item {
        final int file;
        final int element;
        final int weight;
        final int against;
        final int how;
        final boolean isSensitive;
        final int cameOn;
        int admittedOn = NONE;
        int shownTo;
        boolean isWithheld;

        Item(int file, int element, int weight, int against, int how, boolean isSensitive, int cameOn) {
            this.file = file;
            this.element = element;
            this.weight = weight;
            this.against = against;
            this.how = how;
            this.isSensitive = isSensitive;
            this.cameOn = cameOn;
        }

        boolean isAgainst(int person) {
            return hasBit(against, person);
        }

        boolean wasShownTo(int person) {
            return hasBit(shownTo, person);
        }

        boolean countsOn(int day) {
            boolean isAdmitted = admittedOn != NONE && admittedOn <= day;
            return cameOn <= day && (how == LAWFULLY || isAdmitted);
        }

        boolean isLackedBy(int person) {
            return weight < 0 && isAgainst(person) && !wasShownTo(person) && !isWithheld;
        }
    }

    private static final class CaseFile {
        final int number;
        final int event;
        final int accused;
        final int points;
        final Accused[] rows = new Accused[PERSONS];

        CaseFile(int number, int event, int accused, int points) {
            this.number = number;
            this.event = event;
            this.accused = accused;
            this.points = points;
        }

        boolean hasAll(int persons) {
            return persons != 0 && (persons & ~accused) == 0;
        }

        Accused rowOf(int person) {
            return person < 0 || person >= rows.length ? null : rows[person];
        }

        /** Answers how many the clock released. */
        int passInCustody(int days) {
            int released = 0;
            for (Accused one : rows) {
                if (one != null && one.isInCustody && one.isReleasedAfter(days)) {
                    released++;
                }
            }
            return released;
        }
    }

    private static final class Accused {
        final CaseFile file;
        final int person;
        int state = OPEN;
        int charges;
        int chargedOn;
        int droppedOn;
        boolean isReviewed;
        boolean isInCustody;
        int daysWhileOpen;
        // Stays 0 while not charged: an answer to the charges sets it back.
        int daysWhileCharged;
        int extendedBy;
        int months;
        int convictedOf;
        // The first day is enough: who answered once has done so by every later day.
        final int[] firstAnsweredOn = new int[MOST_OFFENCES];

        Accused(CaseFile file, int person) {
            this.file = file;
            this.person = person;
            for (int number = 0; number < firstAnsweredOn.length; number++) {
                firstAnsweredOn[number] = NONE;
            }
        }

        int ceilingWhileOpen() {
            return 4 + (hasBit(extendedBy, 1) ? 2 : 0) + (hasBit(extendedBy, 2) ? 4 : 0);
        }

        int daysLeft() {
            return state == CHARGED ? CEILING_WHILE_CHARGED - daysWhileCharged : ceilingWhileOpen() - daysWhileOpen;
        }

        /** Counts the days in custody up to the ceiling; there the clock releases, and no more are counted. */
        boolean isReleasedAfter(int days) {
            int left = daysLeft();
            int counted = Math.min(days, left);
            if (state == CHARGED) {
                daysWhileCharged += counted;
            } else {
                daysWhileOpen += counted;
            }
            isInCustody = counted < left;
            return !isInCustody;
        }

        boolean hadAnswered(int offence, int day) {
            if (offence < 0 || offence >= firstAnsweredOn.length) {
                return false;
            }
            return firstAnsweredOn[offence] != NONE && firstAnsweredOn[offence] <= day;
        }

        /** All charges are answered, also those of which a plea or a trial did not convict. */
        void answerCharges(int convicted, int day) {
            for (int number = 0; number < firstAnsweredOn.length; number++) {
                if (hasBit(charges, number) && firstAnsweredOn[number] == NONE) {
                    firstAnsweredOn[number] = day;
                }
            }
            convictedOf |= convicted;
            charges = 0;
            daysWhileCharged = 0;
            isInCustody = false;
            state = OPEN;
        }
    }
}
