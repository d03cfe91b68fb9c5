import java.util.function.LongSupplier;

/** Calls of the house by their names, so that drawn and listed ones can be made too. */
final class Calls {
    private Calls() {
    }

    /** The answer, or the name of what the call threw. */
    static String outcome(Chargehouse house, String name, int... a) {
        return Check.outcome(call(house, name, a));
    }

    /** The same of a call that is told in one line: its name and its arguments. */
    static String outcomeOfLine(Chargehouse house, String line) {
        String[] words = line.split(" ");
        return outcome(house, words[0], argumentsOf(words));
    }

    /** The numbers behind the name. */
    static int[] argumentsOf(String[] words) {
        int[] a = new int[words.length - 1];
        for (int k = 0; k < a.length; k++) {
            a[k] = Integer.parseInt(words[k + 1]);
        }
        return a;
    }

    private static LongSupplier call(Chargehouse house, String name, int[] a) {
        switch (name) {
            case "offence": return () -> house.offence(a[0], a[1], a[2]);
            case "exclude": return () -> house.exclude(a[0], a[1]) ? 1 : 0;
            case "pass": return () -> house.pass(a[0]);
            case "file": return () -> house.file(a[0], a[1], a[2]);
            case "item": return () -> house.item(a[0], a[1], a[2], a[3], a[4], a[5] != 0);
            case "admit": return nothing(() -> house.admit(a[0]));
            case "show": return () -> house.show(a[0], a[1]);
            case "withhold": return nothing(() -> house.withhold(a[0]));
            case "charge": return () -> house.charge(a[0], a[1], a[2]);
            case "drop": return nothing(() -> house.drop(a[0], a[1]));
            case "review": return () -> house.review(a[0], a[1]) ? 1 : 0;
            case "trial": return () -> house.trial(a[0], a[1]);
            case "plea": return () -> house.plea(a[0], a[1], a[2]);
            case "arrest": return () -> house.arrest(a[0], a[1]);
            case "extend": return () -> house.extend(a[0], a[1], a[2]);
            case "release": return nothing(() -> house.release(a[0], a[1]));
            case "day": return () -> house.day();
            default: return question(house, name, a);
        }
    }

    private static LongSupplier question(Chargehouse house, String name, int[] a) {
        switch (name) {
            case "nests": return () -> house.nests(a[0], a[1]) ? 1 : 0;
            case "strength": return () -> house.strength(a[0], a[1], a[2], a[3]);
            case "whyNot": return () -> house.whyNot(a[0], a[1], a[2], a[3]);
            case "best": return () -> house.best(a[0], a[1], a[2]);
            case "bestAnew": return () -> house.bestAnew(a[0], a[1], a[2]);
            case "lacks": return () -> house.lacks(a[0], a[1]);
            case "ofItem": return () -> house.ofItem(a[0], a[1]);
            case "ofAccused": return () -> house.ofAccused(a[0], a[1], a[2]);
            case "count": return () -> house.count(a[0]);
            default: throw new UnsupportedOperationException(name);
        }
    }

    private static LongSupplier nothing(Runnable call) {
        return () -> {
            call.run();
            return 0;
        };
    }
}
