import java.util.ArrayList;
import java.util.Comparator;
import java.util.List;
import java.util.Set;
import java.util.TreeSet;

/**
 * The document told once more, for the random runs: every change is a line in a diary, and every
 * answer is read from the whole diary anew, day by day.
 */
final class DiaryHouse {
    private record Offence(Set<Integer> elements, int gravity, int limit) {
    }

    private record File(int event, Set<Integer> accused, int points) {
    }

    private record Item(int file, int element, int weight, Set<Integer> against, int how, boolean isSensitive,
            int came) {
    }

    /** One line of the diary: what happened to whom on which day. */
    private record Line(int day, String deed, int file, int person, int with) {
    }

    private final List<Offence> offences = new ArrayList<>();
    private final List<Set<Integer>> exclusions = new ArrayList<>();
    private final List<File> files = new ArrayList<>();
    private final List<Item> items = new ArrayList<>();
    private final List<Line> diary = new ArrayList<>();
    private int today = 0;

    private static final class NoSuch extends RuntimeException {
        private static final long serialVersionUID = 1L;
    }

    private static Set<Integer> set(int bits) {
        Set<Integer> set = new TreeSet<>();
        for (int k = 0; k < 32; k++) {
            if ((bits & 1 << k) != 0) {
                set.add(k);
            }
        }
        return set;
    }

    private static int bits(Set<Integer> set) {
        int bits = 0;
        for (int k : set) {
            bits += 1 << k;
        }
        return bits;
    }

    /** The answer of a call, or the name of what it throws, as Check.outcome tells it. */
    String outcome(String call, int... a) {
        try {
            return Long.toString(answer(call, a));
        } catch (NoSuch e) {
            return "java.lang.IndexOutOfBoundsException";
        } catch (IllegalArgumentException | IllegalStateException e) {
            return e.getClass().getName();
        }
    }

    private long answer(String call, int[] a) {
        switch (call) {
            case "offence": return offence(a[0], a[1], a[2]);
            case "exclude": return exclude(a[0], a[1]);
            case "pass": return pass(a[0]);
            case "file": return file(a[0], a[1], a[2]);
            case "item": return item(a);
            case "admit": return admit(a[0]);
            case "show": return show(a[0], a[1]);
            case "withhold": return withhold(a[0]);
            case "charge": return charge(a[0], a[1], a[2]);
            case "drop": return drop(a[0], a[1]);
            case "review": return review(a[0], a[1]);
            case "trial": return trial(a[0], a[1]);
            case "plea": return plea(a[0], a[1], a[2]);
            case "arrest": return arrest(a[0], a[1]);
            case "extend": return extend(a[0], a[1], a[2]);
            case "release": return release(a[0], a[1]);
            case "day": return today;
            case "nests": return nests(a[0], a[1]);
            case "strength": return askStrength(a[0], a[1], a[2], a[3]);
            case "whyNot": return askWhyNot(a[0], a[1], a[2], a[3]);
            case "best": case "bestAnew": return askBest(a[0], a[1], a[2]);
            case "lacks": return askLacks(a[0], a[1]);
            case "ofItem": return ofItem(a[0], a[1]);
            case "ofAccused": return ofAccused(a[0], a[1], a[2]);
            case "count": return count(a[0]);
            default: throw new UnsupportedOperationException(call);
        }
    }

    private static void index(boolean isThere) {
        if (!isThere) {
            throw new NoSuch();
        }
    }

    private static void argument(boolean isInRange) {
        if (!isInRange) {
            throw new IllegalArgumentException();
        }
    }

    private static void state(boolean isInPlace) {
        if (!isInPlace) {
            throw new IllegalStateException();
        }
    }

    private static boolean in(int number, int least, int most) {
        return least <= number && number <= most;
    }

    private void accused(int file, int person) {
        index(in(file, 0, files.size() - 1) && files.get(file).accused.contains(person));
    }

    private void write(String deed, int file, int person, int with) {
        diary.add(new Line(today, deed, file, person, with));
    }

    private List<Line> lines(int file, int person, String... deeds) {
        List<String> wanted = List.of(deeds);
        return diary.stream()
            .filter(line -> line.file == file && line.person == person && wanted.contains(line.deed)).toList();
    }

    private static Line last(List<Line> lines) {
        return lines.isEmpty() ? null : lines.get(lines.size() - 1);
    }

    // ---- law

    private long offence(int elements, int gravity, int limit) {
        argument(in(elements, 1, 1023) && in(gravity, 1, 9) && in(limit, 1, 2000));
        state(offences.size() < 8);
        offences.add(new Offence(set(elements), gravity, limit));
        return offences.size() - 1;
    }

    private void offenceIsThere(int offence) {
        index(in(offence, 0, offences.size() - 1));
    }

    private long exclude(int one, int other) {
        offenceIsThere(one);
        offenceIsThere(other);
        argument(one != other);
        boolean did = exclusions.contains(Set.of(one, other));
        exclusions.add(Set.of(one, other));
        return did ? 1 : 0;
    }

    private boolean isNested(int one, int other) {
        Set<Integer> all = offences.get(other).elements;
        return all.containsAll(offences.get(one).elements) && all.size() > offences.get(one).elements.size();
    }

    private long nests(int one, int other) {
        offenceIsThere(one);
        offenceIsThere(other);
        return isNested(one, other) ? 1 : 0;
    }

    private boolean isSameOrNested(int one, int other) {
        return isNested(one, other) || isNested(other, one)
            || offences.get(one).elements.equals(offences.get(other).elements);
    }

    /** The clock goes day by day, and writes down each day in custody that it counts. */
    private long pass(int days) {
        argument(in(days, 1, 100));
        state(today + days <= 5000);
        for (int k = 0; k < days; k++) {
            today++;
            for (int file = 0; file < files.size(); file++) {
                for (int person : files.get(file).accused) {
                    passDay(file, person);
                }
            }
        }
        return today;
    }

    private void passDay(int file, int person) {
        if (isInCustody(file, person)) {
            write(stateOf(file, person) == 2 ? "day charged" : "day open", file, person, 0);
            if (daysLeft(file, person) == 0) {
                write("clock", file, person, 0);
            }
        }
    }

    // ---- files, items

    private long file(int event, int accused, int points) {
        argument(in(event, 0, today) && in(accused, 1, 255) && in(points, -9, 9));
        state(files.size() < 6);
        files.add(new File(event, set(accused), points));
        return files.size() - 1;
    }

    private long item(int[] a) {
        index(in(a[0], 0, files.size() - 1) && in(a[1], 0, 9));
        argument(in(a[2], -9, 9) && a[2] != 0 && a[3] != 0 && in(a[4], 0, 2));
        argument(files.get(a[0]).accused.containsAll(set(a[3])));
        state(items.size() < 40);
        items.add(new Item(a[0], a[1], a[2], set(a[3]), a[4], a[5] != 0, today));
        return items.size() - 1;
    }

    /** Lines about items stand under the file -1, with the item as the person. */
    private List<Line> ofItemLines(int item, String deed) {
        return lines(-1, item, deed);
    }

    private void itemIsThere(int item) {
        index(in(item, 0, items.size() - 1));
    }

    private long admit(int item) {
        itemIsThere(item);
        state(items.get(item).how == 1 && ofItemLines(item, "admitted").isEmpty());
        write("admitted", -1, item, 0);
        return 0;
    }

    private boolean isShown(int item, int person) {
        return ofItemLines(item, "shown").stream().anyMatch(line -> line.with == person);
    }

    private long show(int item, int person) {
        itemIsThere(item);
        index(in(person, 0, 7));
        state(items.get(item).against.contains(person) && !isShown(item, person));
        write("shown", -1, item, person);
        return lacked(items.get(item).file, person);
    }

    private long withhold(int item) {
        itemIsThere(item);
        state(items.get(item).isSensitive && ofItemLines(item, "withheld").isEmpty());
        write("withheld", -1, item, 0);
        return 0;
    }

    private int lacked(int file, int person) {
        int lacked = 0;
        for (int k = 0; k < items.size(); k++) {
            Item item = items.get(k);
            if (item.file == file && item.weight < 0 && item.against.contains(person) && !isShown(k, person)
                    && ofItemLines(k, "withheld").isEmpty()) {
                lacked++;
            }
        }
        return lacked;
    }

    private boolean isCounted(int item, int day) {
        boolean isGood = items.get(item).how == 0
            || ofItemLines(item, "admitted").stream().anyMatch(line -> line.day <= day);
        return isGood && items.get(item).came <= day;
    }

    private int strengthOf(int file, int person, int element, int day) {
        int sum = 0;
        for (int k = 0; k < items.size(); k++) {
            Item item = items.get(k);
            if (item.file == file && item.element == element && item.against.contains(person) && isCounted(k, day)) {
                sum += item.weight;
            }
        }
        return sum;
    }

    private int weakest(int file, int person, int offence, int day) {
        return offences.get(offence).elements.stream()
            .mapToInt(element -> strengthOf(file, person, element, day)).min().getAsInt();
    }

    // ---- charges

    private static final String[] STATES = {"charged", "dropped", "reopened", "tried", "pleaded"};

    private int stateOf(int file, int person) {
        Line line = last(lines(file, person, STATES));
        if (line == null) {
            return 0;
        }
        return line.deed.equals("charged") ? 2 : line.deed.equals("dropped") ? 1 : 0;
    }

    private int chargesOf(int file, int person) {
        return stateOf(file, person) == 2 ? last(lines(file, person, "charged")).with : 0;
    }

    /** The trials and pleas of that one up to a day are the charged lines that such a line followed. */
    private boolean isSpent(int file, int person, int offence, int day) {
        int charges = 0;
        for (Line line : lines(file, person, "charged", "tried", "pleaded")) {
            if (line.deed.equals("charged")) {
                charges = line.with;
            } else if (line.day <= day && set(charges).stream().anyMatch(one -> isSameOrNested(one, offence))) {
                return true;
            }
        }
        return false;
    }

    private int reason(int file, int person, int offence, int day) {
        Offence it = offences.get(offence);
        File its = files.get(file);
        if (day - its.event > it.limit) {
            return 1;
        }
        if (isSpent(file, person, offence, day)) {
            return 2;
        }
        if (weakest(file, person, offence, day) < 5) {
            return 3;
        }
        return it.gravity + its.points > 0 ? 0 : 4;
    }

    private boolean isRight(int file, int person, int bits, int day) {
        Set<Integer> set = set(bits);
        if (set.isEmpty() || set.size() > 3) {
            return false;
        }
        for (int one : set) {
            if (reason(file, person, one, day) != 0) {
                return false;
            }
            for (int other : set) {
                if (one != other && (isSameOrNested(one, other) || exclusions.contains(Set.of(one, other)))) {
                    return false;
                }
            }
        }
        return true;
    }

    private int gravity(int bits) {
        return set(bits).stream().mapToInt(one -> offences.get(one).gravity).sum();
    }

    private int bestOf(int file, int person, int day) {
        List<Integer> right = new ArrayList<>();
        for (int bits = 0; bits < 1 << offences.size(); bits++) {
            if (isRight(file, person, bits, day)) {
                right.add(bits);
            }
        }
        Comparator<Integer> order = Comparator.comparing(bits -> -gravity(bits));
        order = order.thenComparing(bits -> set(bits).size()).thenComparing(bits -> bits);
        return right.stream().min(order).orElse(0);
    }

    private long charge(int file, int person, int bits) {
        accused(file, person);
        argument(in(bits, 0, (1 << offences.size()) - 1));
        state(stateOf(file, person) == 0 && isRight(file, person, bits, today));
        write("charged", file, person, bits);
        return gravity(bits);
    }

    private long drop(int file, int person) {
        accused(file, person);
        state(stateOf(file, person) == 0);
        write("dropped", file, person, 0);
        return 0;
    }

    private long review(int file, int person) {
        accused(file, person);
        state(stateOf(file, person) == 1);
        List<Line> lines = lines(file, person, "dropped", "reviewed");
        Line drop = last(lines);
        state(drop.deed.equals("dropped") && today <= drop.day + 30);
        write("reviewed", file, person, 0);
        for (int offence = 0; offence < offences.size(); offence++) {
            if (reason(file, person, offence, drop.day) == 0) {
                write("reopened", file, person, 0);
                return 1;
            }
        }
        return 0;
    }

    private long trial(int file, int person) {
        accused(file, person);
        state(stateOf(file, person) == 2 && lacked(file, person) == 0);
        Set<Integer> convicted = set(chargesOf(file, person));
        convicted.removeIf(one -> weakest(file, person, one, today) < 8);
        int acquitted = chargesOf(file, person) & ~bits(convicted);
        write("tried", file, person, 0);
        write("convicted", file, person, bits(convicted));
        write("acquitted", file, person, acquitted);
        return bits(convicted);
    }

    private long plea(int file, int person, int bits) {
        accused(file, person);
        argument(in(bits, 0, (1 << offences.size()) - 1));
        state(stateOf(file, person) == 2 && bits != 0);
        int charges = chargesOf(file, person);
        state(set(charges).containsAll(set(bits)) && gravity(bits) >= gravity(charges) - gravity(bits));
        int days = today - last(lines(file, person, "charged")).day;
        int discount = days > 30 ? 10 : days > 10 ? 25 : 33;
        int months = 12 * gravity(bits) * (100 - discount) / 100;
        write("pleaded", file, person, months);
        write("convicted", file, person, bits);
        return months;
    }

    // ---- custody

    private boolean isInCustody(int file, int person) {
        Line line = last(lines(file, person, "arrested", "released", "clock", "dropped", "tried", "pleaded"));
        return line != null && line.deed.equals("arrested");
    }

    private int ceiling(int file, int person) {
        return 4 + lines(file, person, "extended").stream().mapToInt(line -> 2 * line.with).sum();
    }

    private int daysSinceCharged(int file, int person) {
        int days = 0;
        for (Line line : lines(file, person, "charged", "day charged", "tried", "pleaded")) {
            days = line.deed.equals("day charged") ? days + 1 : 0;
        }
        return days;
    }

    private int daysLeft(int file, int person) {
        return stateOf(file, person) == 2 ? 60 - daysSinceCharged(file, person)
            : ceiling(file, person) - lines(file, person, "day open").size();
    }

    private long arrest(int file, int person) {
        accused(file, person);
        int left = daysLeft(file, person);
        state(stateOf(file, person) != 1 && !isInCustody(file, person) && left > 0);
        write("arrested", file, person, 0);
        return left;
    }

    private long extend(int file, int person, int rank) {
        accused(file, person);
        argument(in(rank, 1, 2));
        state(stateOf(file, person) == 0);
        state(lines(file, person, "extended").stream().noneMatch(line -> line.with == rank));
        write("extended", file, person, rank);
        return ceiling(file, person);
    }

    private long release(int file, int person) {
        accused(file, person);
        state(isInCustody(file, person));
        write("released", file, person, 0);
        return 0;
    }

    // ---- what there is

    private void dayIsThere(int day) {
        argument(in(day, 0, today));
    }

    private long askStrength(int file, int person, int element, int day) {
        accused(file, person);
        index(in(element, 0, 9));
        dayIsThere(day);
        return strengthOf(file, person, element, day);
    }

    private long askWhyNot(int file, int person, int offence, int day) {
        accused(file, person);
        offenceIsThere(offence);
        dayIsThere(day);
        return reason(file, person, offence, day);
    }

    private long askBest(int file, int person, int day) {
        accused(file, person);
        dayIsThere(day);
        return bestOf(file, person, day);
    }

    private long askLacks(int file, int person) {
        accused(file, person);
        return lacked(file, person);
    }

    private long ofItem(int item, int what) {
        itemIsThere(item);
        argument(in(what, 0, 7));
        Item it = items.get(item);
        Line admitted = last(ofItemLines(item, "admitted"));
        Set<Integer> shown = new TreeSet<>();
        ofItemLines(item, "shown").forEach(line -> shown.add(line.with));
        int withheld = ofItemLines(item, "withheld").size();
        return new int[] {it.file, it.element, it.weight, bits(it.against), it.came,
            admitted == null ? -1 : admitted.day, bits(shown), withheld}[what];
    }

    private long ofAccused(int file, int person, int what) {
        accused(file, person);
        argument(in(what, 0, 7));
        Set<Integer> spent = new TreeSet<>();
        for (int offence = 0; offence < offences.size(); offence++) {
            if (isSpent(file, person, offence, today)) {
                spent.add(offence);
            }
        }
        int months = lines(file, person, "pleaded").stream().mapToInt(Line::with).sum();
        Set<Integer> convicted = new TreeSet<>();
        lines(file, person, "convicted").forEach(line -> convicted.addAll(set(line.with)));
        return new int[] {stateOf(file, person), chargesOf(file, person), isInCustody(file, person) ? 1 : 0,
            lines(file, person, "day open").size(), daysSinceCharged(file, person), months, bits(convicted),
            bits(spent)}[what];
    }

    private long count(int what) {
        argument(in(what, 0, 5));
        String deed = new String[] {"convicted", "acquitted", "pleaded", "dropped", "reopened", "clock"}[what];
        return diary.stream().filter(line -> line.deed.equals(deed))
            .mapToInt(line -> what < 2 ? set(line.with).size() : 1).sum();
    }
}
