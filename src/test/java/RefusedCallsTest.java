import java.util.ArrayList;
import java.util.Arrays;
import java.util.List;

/**
 * "A call that throws an exception changes nothing": at every step of one long run each of the listed calls
 * that is refused there is made, and what is told then and what the rest of the run answers stays the same.
 */
public final class RefusedCallsTest {
    private static final Check check = new Check();

    private record Call(String name, int... a) {
        String told() {
            return name + Arrays.toString(a);
        }
    }

    private static final Call[] LONG_RUN = {
        new Call("offence", 3, 5, 40), new Call("offence", 1, 4, 2000), new Call("offence", 4, 6, 2000),
        new Call("offence", 8, 3, 2000), new Call("file", 0, 7, 0), new Call("pass", 2), new Call("file", 1, 3, -3),
        new Call("item", 0, 0, 9, 7, 0, 0), new Call("item", 0, 1, 8, 7, 1, 1), new Call("item", 0, 2, 9, 7, 0, 0),
        new Call("item", 0, 3, 5, 7, 0, 0), new Call("item", 0, 2, -1, 3, 2, 1), new Call("item", 1, 0, 9, 3, 0, 0),
        new Call("exclude", 0, 2), new Call("arrest", 0, 0), new Call("extend", 0, 0, 1), new Call("pass", 1),
        new Call("admit", 1), new Call("charge", 0, 0, 9), new Call("arrest", 0, 1), new Call("pass", 4),
        new Call("show", 4, 0), new Call("trial", 0, 0), new Call("charge", 0, 1, 6), new Call("arrest", 0, 1),
        new Call("drop", 0, 2), new Call("pass", 11), new Call("plea", 0, 1, 4), new Call("review", 0, 2),
        new Call("extend", 0, 1, 2), new Call("drop", 0, 2), new Call("arrest", 1, 1), new Call("charge", 1, 0, 2),
        new Call("pass", 31), new Call("review", 0, 2), new Call("exclude", 1, 3), new Call("file", 40, 1, 9),
        new Call("item", 2, 1, 5, 1, 1, 1), new Call("drop", 2, 0), new Call("review", 2, 0),
        new Call("withhold", 4), new Call("release", 1, 1), new Call("plea", 1, 0, 2), new Call("charge", 0, 1, 8),
        new Call("arrest", 0, 1), new Call("pass", 3), new Call("trial", 0, 1), new Call("exclude", 0, 2),
        new Call("offence", 2, 2, 50), new Call("pass", 100),
    };

    private final Call[] run;
    private final List<Call> tried;
    private final int[] refusals;

    public static void main(String[] args) {
        new RefusedCallsTest(LONG_RUN, triedCalls()).triesFrom(0);
        Call[] full = fullRun();
        new RefusedCallsTest(full, triedInAFullHouse()).triesFrom(full.length - 8);
        check.report("RefusedCallsTest");
    }

    private RefusedCallsTest(Call[] run, List<Call> tried) {
        this.run = run;
        this.tried = tried;
        refusals = new int[tried.size()];
    }

    private void triesFrom(int first) {
        for (int step = first; step <= run.length; step++) {
            DiaryHouse diary = new DiaryHouse();
            String[] due = new String[run.length];
            for (int k = 0; k < step; k++) {
                due[k] = diary.outcome(run[k].name, run[k].a);
            }
            String told = everything(diary::outcome);
            List<Call> refused = refusedAt(step);
            for (int k = step; k < run.length; k++) {
                due[k] = diary.outcome(run[k].name, run[k].a);
            }
            for (Call call : refused) {
                runWith(step, call, due, told);
            }
        }
        for (int k = 0; k < refusals.length; k++) {
            check.is(tried.get(k).told() + " is refused somewhere", true, refusals[k] > 0);
        }
    }

    private List<Call> refusedAt(int step) {
        List<Call> refused = new ArrayList<>();
        for (int k = 0; k < tried.size(); k++) {
            if (isRefused(step, tried.get(k))) {
                refused.add(tried.get(k));
                refusals[k]++;
            }
        }
        return refused;
    }

    /** A diary of its own is asked, as a call that is not refused would be written down. */
    private boolean isRefused(int step, Call call) {
        DiaryHouse diary = new DiaryHouse();
        for (int k = 0; k < step; k++) {
            diary.outcome(run[k].name, run[k].a);
        }
        return diary.outcome(call.name, call.a).startsWith("java.");
    }

    private void runWith(int step, Call refused, String[] due, String told) {
        Chargehouse x = new Chargehouse();
        for (int k = 0; k < step; k++) {
            Calls.outcome(x, run[k].name, run[k].a);
        }
        String got = Calls.outcome(x, refused.name, refused.a);
        check.is("step " + step + ", " + refused.told() + " is refused", true, got.startsWith("java."));
        check.note("step " + step + ", told behind " + refused.told(), told,
            everything((name, a) -> Calls.outcome(x, name, a)));
        for (int k = step; k < run.length; k++) {
            check.note("step " + step + ", behind " + refused.told() + ", " + run[k].told(), due[k],
                Calls.outcome(x, run[k].name, run[k].a));
        }
    }

    private interface House {
        String outcome(String name, int... a);
    }

    private static String everything(House house) {
        StringBuilder told = new StringBuilder();
        int today = Integer.parseInt(house.outcome("day"));
        told.append("day ").append(today);
        for (int what = 0; what < 6; what++) {
            told.append(what == 0 ? ", counts " : " ").append(house.outcome("count", what));
        }
        for (int file = 0; file < 4; file++) {
            for (int person = 0; person < 3; person++) {
                ofAccused(house, file, person, today, told);
            }
        }
        for (int item = 0; item < 8; item++) {
            for (int what = 0; what < 8; what++) {
                told.append(what == 0 ? ", item " : " ").append(shortly(house.outcome("ofItem", item, what)));
            }
        }
        told.append(", nests ").append(shortly(house.outcome("nests", 1, 0)));
        return told.append(" ").append(shortly(house.outcome("nests", 4, 0))).toString();
    }

    private static void ofAccused(House house, int file, int person, int today, StringBuilder told) {
        String state = house.outcome("ofAccused", file, person, 0);
        told.append(", accused ").append(shortly(state));
        if (!state.startsWith("java.")) {
            for (int what = 1; what < 8; what++) {
                told.append(" ").append(house.outcome("ofAccused", file, person, what));
            }
            told.append(" ").append(house.outcome("lacks", file, person));
            told.append(" ").append(house.outcome("best", file, person, today));
            told.append(" ").append(house.outcome("best", file, person, Math.max(0, today - 31)));
            told.append(" ").append(house.outcome("strength", file, person, 1, today));
        }
    }

    private static String shortly(String outcome) {
        return outcome.startsWith("java.") ? "-" : outcome;
    }

    /** Eight offences, six files and forty items, and the last day but one; then eight calls that are not refused. */
    private static Call[] fullRun() {
        List<Call> run = new ArrayList<>();
        for (int number = 0; number < 8; number++) {
            run.add(new Call("offence", 1 << number, 5, 2000));
        }
        for (int day = 100; day <= 4900; day += 100) {
            run.add(new Call("pass", 100));
        }
        run.add(new Call("pass", 99));
        for (int number = 0; number < 6; number++) {
            run.add(new Call("file", 4999, 7, 0));
        }
        for (int number = 0; number < 40; number++) {
            run.add(new Call("item", number % 6, number / 6, 9, 7, 0, 0));
        }
        run.add(new Call("arrest", 0, 0));
        run.add(new Call("charge", 0, 1, 7));
        run.add(new Call("drop", 0, 2));
        run.add(new Call("pass", 1));
        run.add(new Call("plea", 0, 1, 3));
        run.add(new Call("review", 0, 2));
        run.add(new Call("charge", 5, 0, 7));
        run.add(new Call("trial", 5, 0));
        return run.toArray(new Call[0]);
    }

    private static List<Call> triedInAFullHouse() {
        List<Call> tried = new ArrayList<>();
        addAll(tried, "offence", new int[][] {{1, 5, 5}, {1023, 9, 2000}, {0, 5, 5}});
        addAll(tried, "pass", new int[][] {{2}, {1}, {100}, {101}});
        addAll(tried, "file", new int[][] {{0, 1, 0}, {4999, 255, 9}, {0, 0, 0}});
        addAll(tried, "item", new int[][] {{0, 0, 1, 1, 0, 0}, {5, 9, -9, 7, 2, 1}, {0, 0, 0, 1, 0, 0}});
        addAll(tried, "exclude", new int[][] {{7, 8}, {8, 7}, {7, 7}});
        addAll(tried, "charge", new int[][] {{0, 0, 256}, {0, 0, 15}, {0, 2, 128}, {6, 0, 1}});
        addAll(tried, "show", new int[][] {{40, 0}, {39, 3}, {39, 8}});
        return tried;
    }

    private static List<Call> triedCalls() {
        List<Call> tried = new ArrayList<>();
        int[][] offences = {{0, 5, 5}, {1024, 5, 5}, {1, 0, 5}, {1, 10, 5}, {1, 5, 0}, {1, 5, 2001}};
        int[][] exclusions = {{-1, 0}, {0, -1}, {8, 0}, {0, 8}, {0, 0}, {1, 1}, {3, 3}, {0, 5}, {5, 0}};
        int[][] passes = {{0}, {-1}, {101}, {Integer.MAX_VALUE}};
        int[][] files = {{-1, 1, 0}, {4000, 1, 0}, {0, 0, 0}, {0, 256, 0}, {0, 1, 10}, {0, 1, -10}};
        int[][] items = {{-1, 0, 1, 1, 0, 0}, {6, 0, 1, 1, 0, 0}, {0, -1, 1, 1, 0, 0}, {0, 10, 1, 1, 0, 0},
            {0, 0, 0, 1, 0, 0}, {0, 0, 10, 1, 0, 0}, {0, 0, -10, 1, 0, 0}, {0, 0, 1, 0, 0, 0}, {0, 0, 1, 8, 0, 0},
            {0, 0, -1, 9, 0, 0}, {0, 0, 1, 1, -1, 0}, {0, 0, 1, 1, 3, 0}};
        addAll(tried, "offence", offences);
        addAll(tried, "exclude", exclusions);
        addAll(tried, "pass", passes);
        addAll(tried, "file", files);
        addAll(tried, "item", items);
        for (int item = -1; item < 9; item++) {
            tried.add(new Call("admit", item));
            tried.add(new Call("withhold", item));
            for (int person = -1; person < 9; person += item == 4 ? 1 : 3) {
                tried.add(new Call("show", item, person));
            }
        }
        addDecisions(tried);
        return tried;
    }

    private static void addDecisions(List<Call> tried) {
        int[][] ones = {{0, 0}, {0, 1}, {0, 2}, {1, 0}, {1, 1}, {2, 0}, {0, 3}, {0, 8}, {3, 0}, {-1, 0}, {0, -1}};
        int[] sets = {0, 1, 2, 4, 8, 5, 6, 9, 14, 15, 16, 64, -1};
        for (int[] one : ones) {
            for (String name : new String[] {"drop", "review", "trial", "arrest", "release"}) {
                tried.add(new Call(name, one[0], one[1]));
            }
            for (int rank = 0; rank <= 3; rank++) {
                tried.add(new Call("extend", one[0], one[1], rank));
            }
            for (int set : sets) {
                tried.add(new Call("charge", one[0], one[1], set));
                tried.add(new Call("plea", one[0], one[1], set));
            }
        }
    }

    private static void addAll(List<Call> tried, String name, int[][] arguments) {
        for (int[] a : arguments) {
            tried.add(new Call(name, a));
        }
    }
}
