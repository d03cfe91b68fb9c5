import java.util.LinkedHashMap;
import java.util.Map;
import java.util.StringJoiner;

/**
 * What each call leaves behind for later calls, and that it leaves nothing else: all questions are asked of a
 * house that has begun and of one in which the call was made too, and each answer that differs must be listed.
 */
public final class LeftBehindTest {
    private static final Check check = new Check();

    /**
     * On the day 6: in the file 0 the accused 0 is charged and in custody, 1 is open behind a trial and a plea and
     * in custody, 2 is dropped; in the file 1 the accused 0 is dropped behind a plea and 1 is charged; the file 2
     * has no items. The items 8 and 9 are not admitted.
     */
    private static final String[] BEGUN = {
        "offence 1 5 2000", "offence 2 4 2000", "offence 4 6 30", "offence 8 3 2000",
        "file 0 7 0", "file 0 3 -3",
        "item 0 0 9 7 0 0", "item 0 1 8 7 0 0", "item 0 2 5 7 0 0", "item 0 3 5 7 1 0", "item 0 0 -1 7 2 1",
        "item 1 0 9 3 0 0", "item 1 1 9 3 1 1", "pass 2", "file 1 1 0", "admit 3", "admit 6", "arrest 0 1", "pass 1",
        "charge 0 1 9", "show 4 1", "trial 0 1", "charge 0 1 2", "plea 0 1 2", "charge 0 0 7", "arrest 0 0",
        "charge 1 0 1", "plea 1 0 1", "pass 2", "drop 0 2", "drop 1 0", "charge 1 1 1", "arrest 0 1",
        "item 0 9 -2 3 0 1", "item 1 2 9 3 1 0", "item 0 2 9 4 1 1", "pass 1",
    };

    private static final int[] ELEMENTS = {0, 1, 2, 3, 9};
    private static final int[] DAYS = {2, 5, 6};
    private static final int[][] ACCUSED = {{0, 0}, {0, 1}, {0, 2}, {1, 0}, {1, 1}, {2, 0}};

    public static void main(String[] args) {
        law();
        items();
        charging();
        dropping();
        trials();
        pleas();
        custody();
        days();
        questions();
        check.report("LeftBehindTest");
    }

    /** The call, made behind those of the first text, with what it answers and all that differs then. */
    private static void leaves(String ahead, String call, String answer, String... differences) {
        Chargehouse before = begun(ahead);
        Chargehouse after = begun(ahead);
        check.note(call, answer, Calls.outcomeOfLine(after, call));
        Map<String, String> old = answers(before);
        StringJoiner got = new StringJoiner("; ");
        answers(after).forEach((question, now) -> {
            if (!now.equals(old.get(question))) {
                got.add(question + ": " + shortly(old.get(question)) + " > " + shortly(now));
            }
        });
        check.note("what " + call + " leaves behind", String.join("; ", differences), got.toString());
    }

    private static Chargehouse begun(String ahead) {
        Chargehouse x = new Chargehouse();
        for (String line : BEGUN) {
            check.is("to begin, " + line, false, Calls.outcomeOfLine(x, line).startsWith("java."));
        }
        for (String line : ahead.isEmpty() ? new String[0] : ahead.split("; ")) {
            check.is("ahead, " + line, false, Calls.outcomeOfLine(x, line).startsWith("java."));
        }
        return x;
    }

    private static String shortly(String outcome) {
        return outcome.startsWith("java.") ? "none" : outcome;
    }

    private static void ask(Chargehouse x, Map<String, String> told, String name, int... a) {
        StringJoiner question = new StringJoiner(" ");
        question.add(name);
        for (int argument : a) {
            question.add(Integer.toString(argument));
        }
        told.put(question.toString(), Calls.outcome(x, name, a));
    }

    private static Map<String, String> answers(Chargehouse x) {
        Map<String, String> told = new LinkedHashMap<>();
        ask(x, told, "day");
        for (int what = 0; what < 6; what++) {
            ask(x, told, "count", what);
        }
        for (int one = 0; one < 5; one++) {
            for (int other = 0; other < 5; other++) {
                ask(x, told, "nests", one, other);
            }
        }
        for (int item = 0; item < 11; item++) {
            for (int what = 0; what < 8; what++) {
                ask(x, told, "ofItem", item, what);
            }
        }
        for (int[] one : ACCUSED) {
            answersOf(x, told, one[0], one[1]);
        }
        return told;
    }

    private static void answersOf(Chargehouse x, Map<String, String> told, int file, int person) {
        for (int what = 0; what < 8; what++) {
            ask(x, told, "ofAccused", file, person, what);
        }
        ask(x, told, "lacks", file, person);
        for (int day : DAYS) {
            for (int element : ELEMENTS) {
                ask(x, told, "strength", file, person, element, day);
            }
            for (int offence = 0; offence < 5; offence++) {
                ask(x, told, "whyNot", file, person, offence, day);
            }
            ask(x, told, "best", file, person, day);
            ask(x, told, "bestAnew", file, person, day);
        }
    }

    private static void law() {
        leaves("", "offence 9 9 2000", "4", "nests 0 4: none > 1", "nests 1 4: none > 0", "nests 2 4: none > 0",
            "nests 3 4: none > 1", "nests 4 0: none > 0", "nests 4 1: none > 0", "nests 4 2: none > 0",
            "nests 4 3: none > 0", "nests 4 4: none > 0", "whyNot 0 0 4 2: none > 0", "best 0 0 2: 7 > 22",
            "bestAnew 0 0 2: 7 > 22", "whyNot 0 0 4 5: none > 0", "best 0 0 5: 7 > 22", "bestAnew 0 0 5: 7 > 22",
            "whyNot 0 0 4 6: none > 0", "best 0 0 6: 7 > 22", "bestAnew 0 0 6: 7 > 22", "ofAccused 0 1 7: 11 > 27",
            "whyNot 0 1 4 2: none > 0", "best 0 1 2: 7 > 22", "bestAnew 0 1 2: 7 > 22", "whyNot 0 1 4 5: none > 2",
            "whyNot 0 1 4 6: none > 2", "whyNot 0 2 4 2: none > 0", "best 0 2 2: 7 > 22", "bestAnew 0 2 2: 7 > 22",
            "whyNot 0 2 4 5: none > 0", "best 0 2 5: 7 > 22", "bestAnew 0 2 5: 7 > 22", "whyNot 0 2 4 6: none > 0",
            "best 0 2 6: 7 > 22", "bestAnew 0 2 6: 7 > 22", "ofAccused 1 0 7: 1 > 17", "whyNot 1 0 4 2: none > 3",
            "whyNot 1 0 4 5: none > 2", "whyNot 1 0 4 6: none > 2", "whyNot 1 1 4 2: none > 3",
            "whyNot 1 1 4 5: none > 3", "whyNot 1 1 4 6: none > 3", "whyNot 2 0 4 2: none > 3",
            "whyNot 2 0 4 5: none > 3", "whyNot 2 0 4 6: none > 3");
        leaves("", "exclude 0 1", "0", "best 0 0 2: 7 > 13", "bestAnew 0 0 2: 7 > 13", "best 0 0 5: 7 > 13",
            "bestAnew 0 0 5: 7 > 13", "best 0 0 6: 7 > 13", "bestAnew 0 0 6: 7 > 13", "best 0 1 2: 7 > 13",
            "bestAnew 0 1 2: 7 > 13", "best 0 2 2: 7 > 13", "bestAnew 0 2 2: 7 > 13", "best 0 2 5: 7 > 13",
            "bestAnew 0 2 5: 7 > 13", "best 0 2 6: 7 > 13", "bestAnew 0 2 6: 7 > 13", "best 1 0 2: 3 > 1",
            "bestAnew 1 0 2: 3 > 1", "best 1 1 2: 3 > 1", "bestAnew 1 1 2: 3 > 1", "best 1 1 5: 3 > 1",
            "bestAnew 1 1 5: 3 > 1", "best 1 1 6: 3 > 1", "bestAnew 1 1 6: 3 > 1");
        leaves("exclude 0 1", "exclude 1 0", "1");
    }

    private static void items() {
        leaves("", "file 0 1 0", "3");
        leaves("", "item 0 1 -7 5 0 1", "10", "ofItem 10 0: none > 0", "ofItem 10 1: none > 1",
            "ofItem 10 2: none > -7", "ofItem 10 3: none > 5", "ofItem 10 4: none > 6", "ofItem 10 5: none > -1",
            "ofItem 10 6: none > 0", "ofItem 10 7: none > 0", "lacks 0 0: 2 > 3", "strength 0 0 1 6: 8 > 1",
            "whyNot 0 0 1 6: 0 > 3", "best 0 0 6: 7 > 13", "bestAnew 0 0 6: 7 > 13", "lacks 0 2: 1 > 2",
            "strength 0 2 1 6: 8 > 1", "whyNot 0 2 1 6: 0 > 3", "best 0 2 6: 7 > 13", "bestAnew 0 2 6: 7 > 13");
        leaves("", "item 0 1 -7 5 1 1", "10", "ofItem 10 0: none > 0", "ofItem 10 1: none > 1",
            "ofItem 10 2: none > -7", "ofItem 10 3: none > 5", "ofItem 10 4: none > 6", "ofItem 10 5: none > -1",
            "ofItem 10 6: none > 0", "ofItem 10 7: none > 0", "lacks 0 0: 2 > 3", "lacks 0 2: 1 > 2");
        leaves("", "admit 8", "0", "ofItem 8 5: -1 > 6", "strength 1 0 2 6: 0 > 9", "whyNot 1 0 2 6: 3 > 0",
            "best 1 0 6: 2 > 6", "bestAnew 1 0 6: 2 > 6", "strength 1 1 2 6: 0 > 9", "whyNot 1 1 2 6: 3 > 0",
            "best 1 1 6: 3 > 7", "bestAnew 1 1 6: 3 > 7");
        leaves("", "admit 9", "0", "ofItem 9 5: -1 > 6", "strength 0 2 2 6: 5 > 14");
        leaves("", "show 4 0", "1", "ofItem 4 6: 2 > 3", "lacks 0 0: 2 > 1");
        leaves("", "show 4 2", "0", "ofItem 4 6: 2 > 6", "lacks 0 2: 1 > 0");
        leaves("", "show 0 1", "1", "ofItem 0 6: 0 > 2");
        leaves("", "show 7 1", "0", "ofItem 7 6: 0 > 2", "lacks 0 1: 1 > 0");
        leaves("", "withhold 4", "0", "ofItem 4 7: 0 > 1", "lacks 0 0: 2 > 1", "lacks 0 2: 1 > 0");
        leaves("", "withhold 7", "0", "ofItem 7 7: 0 > 1", "lacks 0 0: 2 > 1", "lacks 0 1: 1 > 0");
        leaves("", "withhold 6", "0", "ofItem 6 7: 0 > 1");
    }

    private static void charging() {
        leaves("", "charge 0 1 4", "6", "ofAccused 0 1 0: 0 > 2", "ofAccused 0 1 1: 0 > 4");
        leaves("release 0 1", "charge 0 1 4", "6", "ofAccused 0 1 0: 0 > 2", "ofAccused 0 1 1: 0 > 4");
        leaves("review 1 0", "charge 1 0 2", "4", "ofAccused 1 0 0: 0 > 2", "ofAccused 1 0 1: 0 > 2");
    }

    private static void dropping() {
        leaves("", "drop 0 1", "0", "count 3: 2 > 3", "ofAccused 0 1 0: 0 > 1", "ofAccused 0 1 2: 1 > 0");
        leaves("", "drop 2 0", "0", "count 3: 2 > 3", "ofAccused 2 0 0: 0 > 1");
        leaves("", "review 0 2", "1", "count 4: 0 > 1", "ofAccused 0 2 0: 1 > 0");
        leaves("", "review 1 0", "1", "count 4: 0 > 1", "ofAccused 1 0 0: 1 > 0");
        leaves("drop 2 0", "review 2 0", "0");
    }

    private static void trials() {
        leaves("", "trial 1 1", "1", "count 0: 3 > 4", "ofAccused 1 1 0: 2 > 0", "ofAccused 1 1 1: 1 > 0",
            "ofAccused 1 1 6: 0 > 1", "ofAccused 1 1 7: 0 > 1", "whyNot 1 1 0 6: 0 > 2", "best 1 1 6: 3 > 2",
            "bestAnew 1 1 6: 3 > 2");
        leaves("show 4 0; show 7 0; exclude 0 1", "trial 0 0", "3", "count 0: 3 > 5", "count 1: 1 > 2",
            "ofAccused 0 0 0: 2 > 0", "ofAccused 0 0 1: 7 > 0", "ofAccused 0 0 2: 1 > 0", "ofAccused 0 0 4: 3 > 0",
            "ofAccused 0 0 6: 0 > 3", "ofAccused 0 0 7: 0 > 7", "whyNot 0 0 0 6: 0 > 2", "whyNot 0 0 1 6: 0 > 2",
            "whyNot 0 0 2 6: 0 > 2", "best 0 0 6: 13 > 8", "bestAnew 0 0 6: 13 > 8");
        leaves("withhold 4; withhold 7; pass 25; pass 100", "trial 0 0", "3", "count 0: 3 > 5", "count 1: 1 > 2",
            "ofAccused 0 0 0: 2 > 0", "ofAccused 0 0 1: 7 > 0", "ofAccused 0 0 4: 60 > 0", "ofAccused 0 0 6: 0 > 3",
            "ofAccused 0 0 7: 0 > 7");
    }

    private static void pleas() {
        leaves("", "plea 0 0 5", "88", "count 0: 3 > 5", "count 2: 2 > 3", "ofAccused 0 0 0: 2 > 0",
            "ofAccused 0 0 1: 7 > 0", "ofAccused 0 0 2: 1 > 0", "ofAccused 0 0 4: 3 > 0", "ofAccused 0 0 5: 0 > 88",
            "ofAccused 0 0 6: 0 > 5", "ofAccused 0 0 7: 0 > 7", "whyNot 0 0 0 6: 0 > 2", "whyNot 0 0 1 6: 0 > 2",
            "whyNot 0 0 2 6: 0 > 2", "best 0 0 6: 7 > 8", "bestAnew 0 0 6: 7 > 8");
        leaves("exclude 0 1; exclude 0 2; exclude 1 2", "plea 0 0 7", "120", "count 0: 3 > 6", "count 2: 2 > 3",
            "ofAccused 0 0 0: 2 > 0", "ofAccused 0 0 1: 7 > 0", "ofAccused 0 0 2: 1 > 0", "ofAccused 0 0 4: 3 > 0",
            "ofAccused 0 0 5: 0 > 120", "ofAccused 0 0 6: 0 > 7", "ofAccused 0 0 7: 0 > 7", "whyNot 0 0 0 6: 0 > 2",
            "whyNot 0 0 1 6: 0 > 2", "whyNot 0 0 2 6: 0 > 2", "best 0 0 6: 12 > 8", "bestAnew 0 0 6: 12 > 8");
        leaves("pass 100", "plea 0 0 6", "108", "count 0: 3 > 5", "count 2: 2 > 3", "ofAccused 0 0 0: 2 > 0",
            "ofAccused 0 0 1: 7 > 0", "ofAccused 0 0 4: 60 > 0", "ofAccused 0 0 5: 0 > 108", "ofAccused 0 0 6: 0 > 6",
            "ofAccused 0 0 7: 0 > 7");
        leaves("", "plea 1 1 1", "40", "count 0: 3 > 4", "count 2: 2 > 3", "ofAccused 1 1 0: 2 > 0",
            "ofAccused 1 1 1: 1 > 0", "ofAccused 1 1 5: 0 > 40", "ofAccused 1 1 6: 0 > 1", "ofAccused 1 1 7: 0 > 1",
            "whyNot 1 1 0 6: 0 > 2", "best 1 1 6: 3 > 2", "bestAnew 1 1 6: 3 > 2");
    }

    private static void custody() {
        leaves("", "arrest 1 1", "60", "ofAccused 1 1 2: 0 > 1");
        leaves("", "arrest 2 0", "4", "ofAccused 2 0 2: 0 > 1");
        leaves("", "extend 0 1 1", "6");
        leaves("", "extend 2 0 2", "8");
        leaves("", "release 0 0", "0", "ofAccused 0 0 2: 1 > 0");
        leaves("", "release 0 1", "0", "ofAccused 0 1 2: 1 > 0");
    }

    private static void days() {
        leaves("", "pass 1", "7", "day: 6 > 7", "ofAccused 0 0 4: 3 > 4", "ofAccused 0 1 3: 2 > 3");
        leaves("", "pass 2", "8", "day: 6 > 8", "count 5: 0 > 1", "ofAccused 0 0 4: 3 > 5", "ofAccused 0 1 2: 1 > 0",
            "ofAccused 0 1 3: 2 > 4");
        leaves("extend 0 1 1", "pass 100", "106", "day: 6 > 106", "count 5: 0 > 2", "ofAccused 0 0 2: 1 > 0",
            "ofAccused 0 0 4: 3 > 60", "ofAccused 0 1 2: 1 > 0", "ofAccused 0 1 3: 2 > 6");
    }

    private static void questions() {
        answers(begun("")).forEach((question, answer) -> leaves("", question, answer));
    }
}
