import java.util.ArrayList;
import java.util.Arrays;
import java.util.List;
import java.util.TreeMap;

/** All promises at once: long runs of calls, drawn by a fixed rule, against the diary in DiaryHouse. */
public final class RandomRunsTest {
    private static final Check check = new Check();
    private static final int RUNS = 400;
    private static final int CALLS = 512;

    private static final String[] CALLS_IN_TURN = {
        "offence", "exclude", "pass", "pass", "pass", "pass", "file", "item", "item", "item", "admit", "show", "show",
        "show", "withhold", "charge", "charge", "charge", "charge best", "charge best", "charge best", "drop",
        "review", "review", "trial", "trial", "trial", "plea", "plea best", "arrest", "arrest", "arrest", "extend",
        "release", "release", "day", "nests", "strength", "whyNot", "whyNot", "best", "bestAnew", "lacks", "ofItem",
        "ofAccused", "ofAccused", "ofAccused", "count",
    };

    private long drawn;
    private final Chargehouse house = new Chargehouse();
    private final DiaryHouse diary = new DiaryHouse();
    private final List<String> told = new ArrayList<>();
    private final int wild;
    private final int elements;
    private final int persons;
    private final int longest;
    private final int files;

    public static void main(String[] args) {
        TreeMap<String, Integer> answered = new TreeMap<>();
        for (int run = 1; run <= RUNS; run++) {
            if (!new RandomRunsTest(run).runs(run, answered)) {
                break;
            }
        }
        for (String call : CALLS_IN_TURN) {
            String name = call.split(" ")[0];
            check.is("some " + name + " that did not throw", true, answered.getOrDefault(name, 0) > RUNS / 4);
        }
        check.report("RandomRunsTest");
    }

    private RandomRunsTest(int run) {
        drawn = run * 0xD1342543DE82EF95L;
        wild = new int[] {0, 2, 5, 20}[draw(4)];
        elements = 1 + draw(draw(2) == 0 ? 4 : 10);
        persons = 1 + draw(draw(2) == 0 ? 2 : 8);
        longest = new int[] {1, 3, 12, 40, 110}[draw(5)];
        files = 1 + draw(6);
    }

    /** Java's own splittable rule, written out so that the runs are the same everywhere. */
    private int draw(int bound) {
        drawn += 0x9E3779B97F4A7C15L;
        long mixed = (drawn ^ drawn >>> 30) * 0xBF58476D1CE4E5B9L;
        mixed = (mixed ^ mixed >>> 27) * 0x94D049BB133111EBL;
        return (int) Long.remainderUnsigned(mixed ^ mixed >>> 31, bound);
    }

    private boolean runs(int run, TreeMap<String, Integer> answered) {
        for (int call = 0; call < CALLS; call++) {
            String name = call < 6 ? "offence" : call < 6 + files ? "file" : call < 20 + files ? "item"
                : CALLS_IN_TURN[draw(CALLS_IN_TURN.length)];
            int[] a = arguments(name);
            name = name.split(" ")[0];
            String want = diary.outcome(name, a);
            String got = Calls.outcome(house, name, a);
            told.add(name + Arrays.toString(a) + " = " + want);
            check.note("run " + run + ", call " + call + ", " + name + Arrays.toString(a), want, got);
            if (!want.equals(got)) {
                told.forEach(System.out::println);
                return false;
            }
            if (!want.startsWith("java")) {
                answered.merge(name, 1, Integer::sum);
            }
        }
        return true;
    }

    /** A number below the bound, or now and then one that lies around it or far away. */
    private int below(int bound) {
        if (draw(100) >= wild) {
            return draw(Math.max(bound, 1));
        }
        int[] odd = {-1, bound, bound + 1, 0, Integer.MIN_VALUE, Integer.MAX_VALUE, 8, 32, -32};
        return odd[draw(odd.length)];
    }

    private int some(int least, int most) {
        return least + below(most - least + 1);
    }

    private int someOffences() {
        int set = 1 << draw(8);
        for (int k = draw(4); k > 0; k--) {
            set |= 1 << draw(8);
        }
        return draw(100) < wild ? below(257) : set & 63;
    }

    private int someElements() {
        return draw(100) < wild ? some(1, 1023) : 1 << draw(elements) | draw(2) * (1 << draw(elements));
    }

    private int today() {
        return Integer.parseInt(diary.outcome("day"));
    }

    private int someDay() {
        int today = today();
        return draw(2) == 0 ? some(0, today) : Math.max(0, today - draw(10));
    }

    private int[] arguments(String name) {
        int file = below(files);
        int person = below(persons);
        if (name.equals("drop") && draw(3) > 0) {
            return new int[] {0, below(1)};
        }
        switch (name) {
            case "offence": return new int[] {someElements(), some(1, 9), limit()};
            case "exclude": case "nests": return new int[] {below(7), below(7)};
            case "pass": return new int[] {some(1, longest)};
            case "file": return new int[] {some(0, today()), (1 << persons) - 1 - draw(2) * draw(1 << persons - 1),
                some(-4, 9)};
            case "item": return someItem(file);
            case "admit": case "withhold": return new int[] {below(25)};
            case "show": return new int[] {below(25), person};
            case "charge": return new int[] {file, person, someOffences()};
            case "charge best": return new int[] {file, person, bestOr(file, person)};
            case "plea": return new int[] {file, person, someOffences()};
            case "plea best": return new int[] {file, person, chargesOr(file, person)};
            case "extend": return new int[] {file, person, some(1, 2)};
            case "day": return new int[0];
            case "strength": return new int[] {file, person, below(elements), someDay()};
            case "whyNot": return new int[] {file, person, below(7), someDay()};
            case "best": case "bestAnew": return new int[] {file, person, someDay()};
            case "ofItem": return new int[] {below(25), below(8)};
            case "ofAccused": return new int[] {file, person, below(8)};
            case "count": return new int[] {below(6)};
            default: return new int[] {file, person};
        }
    }

    private int limit() {
        return draw(4) == 0 ? some(1, 60) : some(1000, 2000);
    }

    private int[] someItem(int file) {
        int weight = draw(5) == 0 ? some(-9, -1) : draw(2) == 0 ? some(5, 9) : some(1, 9);
        int against = draw(4) == 0 ? some(1, (1 << persons) - 1) : (1 << persons) - 1;
        int how = draw(2) > 0 ? 0 : some(0, 2);
        return new int[] {file, below(elements), weight, against, how, draw(2)};
    }

    /** Asked of the diary, as the house itself may be asked for the drawn calls alone. */
    private int bestOr(int file, int person) {
        String best = diary.outcome("best", file, person, today());
        return best.startsWith("java") ? 1 : Integer.parseInt(best);
    }

    private int chargesOr(int file, int person) {
        String charges = diary.outcome("ofAccused", file, person, 1);
        return charges.startsWith("java") ? 1 : Integer.parseInt(charges) & someOffences();
    }
}
